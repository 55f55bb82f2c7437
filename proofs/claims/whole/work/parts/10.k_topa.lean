set_option maxRecDepth 20000 in
theorem ggX1_keep_X2_init : GoodIn wsX1_keep wsX2_init := goodIn_r _ [12, 13, 14, 15, 16, 17, 18, 19, 20, 21, 22, 34, 35, 36, 37, 38, 39] (by decide +kernel) (by decide +kernel)
set_option maxRecDepth 20000 in
theorem gX1_keep_X2_init_n24 : GoodIn wsX1_keep (wsX2_init) := ggX1_keep_X2_init
set_option maxRecDepth 20000 in
theorem ggX1_keep_X2_become : GoodIn wsX1_keep wsX2_become := goodIn_r _ [26, 16, 17, 19, 27, 28, 29, 30, 20, 21, 22, 34, 35, 36, 37, 38, 39] (by decide +kernel) (by decide +kernel)
set_option maxRecDepth 20000 in
theorem gX1_keep_X2_become : GoodIn wsX1_keep (wsV RX1 25 RX2 yX2_become wsX2_become) := goodIn_app (goodIn_of _ (by decide +kernel)) ggX1_keep_X2_become
theorem dX1_keep_0 : decode cX1_keep 0 = .ok (.aload_n 0, 1) := by decide +kernel
theorem dX1_keep_1 : decode cX1_keep 1 = .ok (.getfield 11, 3) := by decide +kernel
theorem dX1_keep_4 : decode cX1_keep 4 = .ok (.aload_n 0, 1) := by decide +kernel
theorem dX1_keep_5 : decode cX1_keep 5 = .ok (.getfield 21, 3) := by decide +kernel
theorem dX1_keep_8 : decode cX1_keep 8 = .ok (.aaload, 1) := by decide +kernel
theorem dX1_keep_9 : decode cX1_keep 9 = .ok (.ifnonnull 19, 3) := by decide +kernel
theorem dX1_keep_12 : decode cX1_keep 12 = .ok (.aload_n 0, 1) := by decide +kernel
theorem dX1_keep_13 : decode cX1_keep 13 = .ok (.getfield 11, 3) := by decide +kernel
theorem dX1_keep_16 : decode cX1_keep 16 = .ok (.aload_n 0, 1) := by decide +kernel
theorem dX1_keep_17 : decode cX1_keep 17 = .ok (.getfield 21, 3) := by decide +kernel
theorem dX1_keep_20 : decode cX1_keep 20 = .ok (.new 9, 3) := by decide +kernel
theorem dX1_keep_23 : decode cX1_keep 23 = .ok (.dup, 1) := by decide +kernel
theorem dX1_keep_24 : decode cX1_keep 24 = .ok (.invokespecial 24, 3) := by decide +kernel
theorem dX1_keep_27 : decode cX1_keep 27 = .ok (.aastore, 1) := by decide +kernel
theorem dX1_keep_28 : decode cX1_keep 28 = .ok (.aload_n 0, 1) := by decide +kernel
theorem dX1_keep_29 : decode cX1_keep 29 = .ok (.getfield 11, 3) := by decide +kernel
theorem dX1_keep_32 : decode cX1_keep 32 = .ok (.aload_n 0, 1) := by decide +kernel
theorem dX1_keep_33 : decode cX1_keep 33 = .ok (.getfield 21, 3) := by decide +kernel
theorem dX1_keep_36 : decode cX1_keep 36 = .ok (.aaload, 1) := by decide +kernel
theorem dX1_keep_37 : decode cX1_keep 37 = .ok (.aload_n 1, 1) := by decide +kernel
theorem dX1_keep_38 : decode cX1_keep 38 = .ok (.invokevirtual 25, 3) := by decide +kernel
theorem dX1_keep_41 : decode cX1_keep 41 = .ok (.aload_n 0, 1) := by decide +kernel
theorem dX1_keep_42 : decode cX1_keep 42 = .ok (.aload_n 0, 1) := by decide +kernel
theorem dX1_keep_43 : decode cX1_keep 43 = .ok (.getfield 21, 3) := by decide +kernel
theorem dX1_keep_46 : decode cX1_keep 46 = .ok (.iconst 1, 1) := by decide +kernel
theorem dX1_keep_47 : decode cX1_keep 47 = .ok (.iadd, 1) := by decide +kernel
theorem dX1_keep_48 : decode cX1_keep 48 = .ok (.bipush 24, 2) := by decide +kernel
theorem dX1_keep_50 : decode cX1_keep 50 = .ok (.irem, 1) := by decide +kernel
theorem dX1_keep_51 : decode cX1_keep 51 = .ok (.putfield 21, 3) := by decide +kernel
theorem dX1_keep_54 : decode cX1_keep 54 = .ok (.aload_n 0, 1) := by decide +kernel
theorem dX1_keep_55 : decode cX1_keep 55 = .ok (.bipush 24, 2) := by decide +kernel
theorem dX1_keep_57 : decode cX1_keep 57 = .ok (.aload_n 0, 1) := by decide +kernel
theorem dX1_keep_58 : decode cX1_keep 58 = .ok (.getfield 17, 3) := by decide +kernel
theorem dX1_keep_61 : decode cX1_keep 61 = .ok (.iconst 1, 1) := by decide +kernel
theorem dX1_keep_62 : decode cX1_keep 62 = .ok (.iadd, 1) := by decide +kernel
theorem dX1_keep_63 : decode cX1_keep 63 = .ok (.invokestatic 29, 3) := by decide +kernel
theorem dX1_keep_66 : decode cX1_keep 66 = .ok (.putfield 17, 3) := by decide +kernel
theorem dX1_keep_69 : decode cX1_keep 69 = .ok (.return_, 1) := by decide +kernel
def rmX1_keep : Room := { frames := 4, cells := 5, slots := 54, locals := 200 }
def wX1_keep (M : zM) (o0 : Nat) (o1 : Nat) (Q : zM → Prop) : Prop :=
    vp_in (M o0 1) 24 ∧
    wX2_become M ((o0 + 1) + 1 + 5 * (M o0 1).toNatClampNeg) o1 (fun M4 =>
    ∀ x5 : Int32, x5 = (((M4 o0 1) + (1 : Int32)) - ((M4 o0 1) + (1 : Int32)) / (24 : Int32) * (24 : Int32)) →
    ∀ M6 : zM, M6 = va_up M4 o0 (upd (M4 o0) 1 x5) →
    ∀ M7 : zM, M7 = va_up M6 o0 (upd (M6 o0) 0 (zmin (24 : Int32) ((M6 o0 0) + (1 : Int32)))) →
    Q M7)
set_option maxHeartbeats 4000000 in
set_option maxRecDepth 100000 in
theorem kX1_keep {l : Launch} {D : va_G} {Y : zY} {ad kd : Nat → Nat} {RL : List Nat} {M : zM} {J : zL} {o0 : Nat} {o1 : Nat} (h_o0 : kd o0 = 1) (h_o1 : kd o1 = 2) {Q : zM → Prop} (hq : wX1_keep M o0 o1 Q) : zCva l yX1_keep wsX1_keep rmX1_keep [.ref (ad o0), .ref (ad o1)] D Y ad kd RL M J 5 54 (fun M' J' => Q M' ∧ J = J') := by
  refine z_metva (cc := cX1_keep) (maxL := 2) (ret := none) (by decide) rfl (Nat.le_of_ble_eq_true rfl) ?_
  intro p e s m below meth c ls A ar QE hQE hx hb hr hml hown hts hlk hw hl
  have hown : s.vm.findClass RX1 = some m.cls := hown
  have hl : lv_has ls 2 [(0, .ref (ad o0)), (1, .ref (ad o1))] := hl
  have hC := hw.2.2.2.2.2.1
  have hE0 : zE ad kd ad kd := zE.rf
  have g1 : ∀ w ∈ wsX10, w.before ar s = true := (fun w h => hts w (List.mem_cons_of_mem _ (List.mem_append_left _ (List.mem_append_right _ h))))
  have g2 : ∀ w ∈ wsX20, w.before ar s = true := (fun w h => hts w (List.mem_cons_of_mem _ (List.mem_append_right _ h)))
  have q1 := hts _ (List.mem_of_getElem? (i := 1) rfl)
  have q2 := hts _ (List.mem_of_getElem? (i := 2) rfl)
  have q3 := hts _ (List.mem_of_getElem? (i := 3) rfl)
  have q4 := hts _ (List.mem_of_getElem? (i := 4) rfl)
  have q5 := hts _ (List.mem_of_getElem? (i := 5) rfl)
  have q6 := hts _ (List.mem_of_getElem? (i := 6) rfl)
  have q7 := hts _ (List.mem_of_getElem? (i := 7) rfl)
  have q8 := hts _ (List.mem_of_getElem? (i := 8) rfl)
  have q9 := hts _ (List.mem_of_getElem? (i := 9) rfl)
  have q10 := hts _ (List.mem_of_getElem? (i := 10) rfl)
  have q11 := hts _ (List.mem_of_getElem? (i := 11) rfl)
  unfold wX1_keep at hq
  obtain ⟨hi, hq⟩ := hq
  have hb42 := zk_1_1 hC h_o0
  have e42 := zk_14z hC hb42
  have j28 : ∀ (ad' kd' : Nat → Nat) (RL' : List Nat) (H : Heap) (locs : List Loc), zE ad kd ad' kd' → kd' (o0 + 1 + 1 + 5 * (M o0 1).toNatClampNeg) = 2 → zH D Y ad' kd' RL' M J A s.heap H locs s → W p l e rmX1_keep s m ar below meth c H locs 5 54 QE (F0 m 28 ls []) := by
    intro ad kd RL H locs hE0 hsl hw
    have hA_o0 := (hE0 o0 (by rw [h_o0]; decide)).2
    have hA_o1 := (hE0 o1 (by rw [h_o1]; decide)).2
    have h_o0 := ((hE0 o0 (by rw [h_o0]; decide)).1).trans h_o0
    have h_o1 := ((hE0 o1 (by rw [h_o1]; decide)).1).trans h_o1
    rw [← hA_o0, ← hA_o1] at hl
    have hC := hw.2.2.2.2.2.1
    refine lv_aload_n hx hb dX1_keep_28 rfl (lv_at hl 0 rfl) ?_
    refine zg1_before hx hb g1 hown hw h_o0 q1 dX1_keep_29 ?_
    refine lv_aload_n hx hb dX1_keep_32 rfl (lv_at hl 0 rfl) ?_
    refine zg1_next hx hb g1 hown hw h_o0 q2 dX1_keep_33 ?_
    refine z_ald14m hx hb hw (zk_1_1 hC h_o0) hi hsl dX1_keep_36 ?_
    refine lv_aload_n hx hb dX1_keep_37 rfl (lv_at hl 1 rfl) ?_
    refine z_cvv ⟨hx, hb, hml, hown, hts⟩ hw hsl (kX2_become hsl h_o1 hq) (by decide) rfl (cwV 1 hts gX1_keep_X2_become rfl rfl rfl (by decide +kernel) ⟨Nat.le_of_ble_eq_true rfl, Nat.le_of_ble_eq_true rfl⟩) rfl hl.1 rfl (Nat.le_of_ble_eq_true rfl) dX1_keep_38 ⟨Nat.le_of_ble_eq_true rfl, Nat.le_of_ble_eq_true rfl⟩ (fun M4 J0 H locs hq hw => ?_)
    obtain ⟨hq, rfl⟩ := hq
    refine lv_aload_n hx hb dX1_keep_41 rfl (lv_at hl 0 rfl) ?_
    refine lv_aload_n hx hb dX1_keep_42 rfl (lv_at hl 0 rfl) ?_
    refine zg1_next hx hb g1 hown hw h_o0 q2 dX1_keep_43 ?_
    refine lv_iconst (v := (1 : Int32)) hx hb dX1_keep_46 (by decide) ?_
    refine lv_iadd hx hb dX1_keep_47 ?_
    refine lv_bipush (v := (24 : Int32)) hx hb dX1_keep_48 (by decide) ?_
    refine lv_irem hx hb dX1_keep_50 (by decide) ?_
    refine lv_topi (fun x5 e_x5 => ?_)
    have hq := hq x5 e_x5
    refine zp1_next hx hb g1 hown hw h_o0 q2 dX1_keep_51 (fun H locs hw => ?_)
    obtain ⟨M6, e_M6⟩ : ∃ y : zM, y = va_up M4 o0 (upd (M4 o0) 1 x5) := ⟨_, rfl⟩
    rw [← e_M6] at hw
    have hq := hq M6 e_M6
    refine lv_aload_n hx hb dX1_keep_54 rfl (lv_at hl 0 rfl) ?_
    refine lv_bipush (v := (24 : Int32)) hx hb dX1_keep_55 (by decide) ?_
    refine lv_aload_n hx hb dX1_keep_57 rfl (lv_at hl 0 rfl) ?_
    refine zg1_held hx hb g1 hown hw h_o0 q6 dX1_keep_58 ?_
    refine lv_iconst (v := (1 : Int32)) hx hb dX1_keep_61 (by decide) ?_
    refine lv_iadd hx hb dX1_keep_62 ?_
    refine va_mmin hx hb (hml.trans hl.1.symm) hown q7 q8 q9 q10 (Nat.le_of_ble_eq_true rfl) (Nat.le_of_ble_eq_true rfl) (Nat.le_of_ble_eq_true rfl) (Nat.le_of_ble_eq_true rfl) dX1_keep_63 ?_
    refine zp1_held hx hb g1 hown hw h_o0 q6 dX1_keep_66 (fun H locs hw => ?_)
    obtain ⟨M7, e_M7⟩ : ∃ y : zM, y = va_up M6 o0 (upd (M6 o0) 0 (zmin (24 : Int32) ((M6 o0 0) + (1 : Int32)))) := ⟨_, rfl⟩
    rw [← e_M7] at hw
    have hq := hq M7 e_M7
    exact z_vreta hQE hx hb hr hlk hw hE0 (Nat.le_of_ble_eq_true rfl) (Nat.le_of_ble_eq_true rfl) dX1_keep_69 ⟨hq, rfl⟩
  refine lv_aload_n hx hb dX1_keep_0 rfl (lv_at hl 0 rfl) ?_
  refine zg1_before hx hb g1 hown hw h_o0 q1 dX1_keep_1 ?_
  refine lv_aload_n hx hb dX1_keep_4 rfl (lv_at hl 0 rfl) ?_
  refine zg1_next hx hb g1 hown hw h_o0 q2 dX1_keep_5 ?_
  refine z_ald14 hx hb hw hb42 hi dX1_keep_8 ?_
  rcases zk_14 hC hb42 (z_lt hi) with hun | hsl
  · rw [if_neg (fun h => by rw [hun.1] at h; exact absurd h.2 (by decide))]
    refine lv_ifnonnullN hx hb dX1_keep_9 ?_
    refine lv_aload_n hx hb dX1_keep_12 rfl (lv_at hl 0 rfl) ?_
    refine zg1_before hx hb g1 hown hw h_o0 q1 dX1_keep_13 ?_
    refine lv_aload_n hx hb dX1_keep_16 rfl (lv_at hl 0 rfl) ?_
    refine zg1_next hx hb g1 hown hw h_o0 q2 dX1_keep_17 ?_
    refine va_new (ci := 2) (fs := [.int 0, .int 0, .null, .null, .null, .null]) (C := RX2) (T := TX2) (N := 6) hx hb g2 (fun _ h => h) tyX2 tyX2_ok hown q3 q4 q5 hw.2.1 hw.1 hw.2.2.1 hw.2.2.2.1 hw.2.2.2.2.1 rfl (fun j hj => by rcases (show j = 0 ∨ j = 1 ∨ j = 2 ∨ j = 3 ∨ j = 4 ∨ j = 5 by omega) with rfl | rfl | rfl | rfl | rfl | rfl <;> rfl) (Nat.le_of_ble_eq_true rfl) (Nat.le_of_ble_eq_true rfl) dX1_keep_20 (fun n0 H hP hD hS => ?_)
    refine lv_dup hx hb dX1_keep_23 rfl ?_
    refine z_ctor (mc := 4) (ms := 48) (rm := rmX2_init) (QB := fun A _ t => QB2 D Y n0 A t) (wr := zW Y ad kd RL M J) (rest := [.ref n0, .int (M o0 1), .ref (ad (o0 + 1))]) ⟨hx, hb, hml, hown, hts⟩ hP hw.2.1 hD hS hw.2.2.2.2.1 hw.2.2.2.2.2.2.2.2.1 (fun sz => kX2_init n0 sz) ⟨va_cnB 0 hts gX1_keep_X2_init_n24 rfl rfl rfl hw.2.2.2.2.2.2.2.2.1.2.2.2.2.2.2.2.1 q5 (by decide +kernel) ⟨(Nat.le_of_ble_eq_true rfl), (Nat.le_of_ble_eq_true rfl)⟩, rfl, q11⟩ hl.1 rfl (Nat.le_of_ble_eq_true rfl) dX1_keep_24 ⟨(Nat.le_of_ble_eq_true rfl), (Nat.le_of_ble_eq_true rfl)⟩ (fun t H locs ht hB hj hS => ?_)
    obtain ⟨n1, n2, n3, n4, hP1, hD1⟩ := hB
    rw [ht] at hP1
    obtain ⟨hP, hD⟩ := hj _ hP1 hD1
    obtain ⟨kb, hkb, hRb⟩ := zW_get (Y := Y) (ad := ad) (kd := kd) (M := M) (J := J) ((hw.2.2.2.2.2.2.1 (o0 + 1)).1 (by rw [hb42]; decide))
    rw [show zc ad kd Y M J (o0 + 1) = .inl (Y.2.2.2.1, 24, .inr (.inr (.inr (.inr (fun j => if j < 24 ∧ kd (o0 + 1 + 1 + 5 * j) = 2 then some (ad (o0 + 1 + 1 + 5 * j)) else none))))) by unfold zc zv; rw [hb42]; rfl] at hkb
    refine va_astq hx hb hw.2.1 hP hD hS kb 3 (zW Y ad kd RL M J).length 2 (by rw [List.getElem?_append_left (List.getElem?_eq_some_iff.mp hkb).1]; exact hkb) rfl (by rw [List.getElem?_append_right (Nat.le_refl _), Nat.sub_self]; rfl) rfl hi dX1_keep_27 (fun H locs hP hD hS => ?_)
    obtain rfl : o0 = 41 := by omega
    obtain ⟨ad1, kd1, RL1, hE, hsl, hw1⟩ := z_made_slot hw hb42 (z_lt hi) hun hRb hP hD hS
    refine W.widen (k := 5) (n := 54) (Nat.le_of_ble_eq_true rfl) (Nat.le_of_ble_eq_true rfl) ?_
    exact j28 ad1 kd1 RL1 _ _ hE hsl hw1
  · rw [if_pos ⟨z_lt hi, hsl⟩]
    refine lv_ifnonnull (tgt := 28) hx hb dX1_keep_9 (by decide) ?_
    refine W.widen (k := 5) (n := 54) (Nat.zero_le _) (Nat.zero_le _) ?_
    exact j28 ad kd RL _ _ zE.rf hsl hw
set_option maxRecDepth 20000 in
theorem ggX1_bringBack_X2_become : GoodIn wsX1_bringBack wsX2_become := goodIn_r _ [8, 9, 10, 11, 12, 13, 14, 15, 16, 17, 18, 22, 23, 24, 25, 26, 27] (by decide +kernel) (by decide +kernel)
set_option maxRecDepth 20000 in
theorem gX1_bringBack_X2_become : GoodIn wsX1_bringBack (wsV RX1 25 RX2 yX2_become wsX2_become) := goodIn_app (goodIn_of _ (by decide +kernel)) ggX1_bringBack_X2_become
theorem dX1_bringBack_0 : decode cX1_bringBack 0 = .ok (.aload_n 0, 1) := by decide +kernel
theorem dX1_bringBack_1 : decode cX1_bringBack 1 = .ok (.getfield 21, 3) := by decide +kernel
theorem dX1_bringBack_4 : decode cX1_bringBack 4 = .ok (.bipush 24, 2) := by decide +kernel
theorem dX1_bringBack_6 : decode cX1_bringBack 6 = .ok (.iadd, 1) := by decide +kernel
theorem dX1_bringBack_7 : decode cX1_bringBack 7 = .ok (.iconst 1, 1) := by decide +kernel
theorem dX1_bringBack_8 : decode cX1_bringBack 8 = .ok (.isub, 1) := by decide +kernel
theorem dX1_bringBack_9 : decode cX1_bringBack 9 = .ok (.bipush 24, 2) := by decide +kernel
theorem dX1_bringBack_11 : decode cX1_bringBack 11 = .ok (.irem, 1) := by decide +kernel
theorem dX1_bringBack_12 : decode cX1_bringBack 12 = .ok (.istore_n 2, 1) := by decide +kernel
theorem dX1_bringBack_13 : decode cX1_bringBack 13 = .ok (.aload_n 0, 1) := by decide +kernel
theorem dX1_bringBack_14 : decode cX1_bringBack 14 = .ok (.getfield 17, 3) := by decide +kernel
theorem dX1_bringBack_17 : decode cX1_bringBack 17 = .ok (.ifCond .eq 12, 3) := by decide +kernel
theorem dX1_bringBack_20 : decode cX1_bringBack 20 = .ok (.aload_n 0, 1) := by decide +kernel
theorem dX1_bringBack_21 : decode cX1_bringBack 21 = .ok (.getfield 11, 3) := by decide +kernel
theorem dX1_bringBack_24 : decode cX1_bringBack 24 = .ok (.iload_n 2, 1) := by decide +kernel
theorem dX1_bringBack_25 : decode cX1_bringBack 25 = .ok (.aaload, 1) := by decide +kernel
theorem dX1_bringBack_26 : decode cX1_bringBack 26 = .ok (.ifnonnull 4, 3) := by decide +kernel
theorem dX1_bringBack_29 : decode cX1_bringBack 29 = .ok (.return_, 1) := by decide +kernel
theorem dX1_bringBack_30 : decode cX1_bringBack 30 = .ok (.aload_n 1, 1) := by decide +kernel
theorem dX1_bringBack_31 : decode cX1_bringBack 31 = .ok (.aload_n 0, 1) := by decide +kernel
theorem dX1_bringBack_32 : decode cX1_bringBack 32 = .ok (.getfield 11, 3) := by decide +kernel
theorem dX1_bringBack_35 : decode cX1_bringBack 35 = .ok (.iload_n 2, 1) := by decide +kernel
theorem dX1_bringBack_36 : decode cX1_bringBack 36 = .ok (.aaload, 1) := by decide +kernel
theorem dX1_bringBack_37 : decode cX1_bringBack 37 = .ok (.invokevirtual 25, 3) := by decide +kernel
theorem dX1_bringBack_40 : decode cX1_bringBack 40 = .ok (.aload_n 0, 1) := by decide +kernel
theorem dX1_bringBack_41 : decode cX1_bringBack 41 = .ok (.iload_n 2, 1) := by decide +kernel
theorem dX1_bringBack_42 : decode cX1_bringBack 42 = .ok (.putfield 21, 3) := by decide +kernel
theorem dX1_bringBack_45 : decode cX1_bringBack 45 = .ok (.aload_n 0, 1) := by decide +kernel
theorem dX1_bringBack_46 : decode cX1_bringBack 46 = .ok (.dup, 1) := by decide +kernel
theorem dX1_bringBack_47 : decode cX1_bringBack 47 = .ok (.getfield 17, 3) := by decide +kernel
theorem dX1_bringBack_50 : decode cX1_bringBack 50 = .ok (.iconst 1, 1) := by decide +kernel
theorem dX1_bringBack_51 : decode cX1_bringBack 51 = .ok (.isub, 1) := by decide +kernel
theorem dX1_bringBack_52 : decode cX1_bringBack 52 = .ok (.putfield 17, 3) := by decide +kernel
theorem dX1_bringBack_55 : decode cX1_bringBack 55 = .ok (.return_, 1) := by decide +kernel
def rmX1_bringBack : Room := { frames := 2, cells := 0, slots := 0, locals := 85 }
def wX1_bringBack (M : zM) (o0 : Nat) (o1 : Nat) (Q : zM → Prop) : Prop :=
    ∀ x4 : Int32, x4 = ((((M o0 1) + (24 : Int32)) - (1 : Int32)) - (((M o0 1) + (24 : Int32)) - (1 : Int32)) / (24 : Int32) * (24 : Int32)) →
    (((M o0 0) = 0) → (
    Q M)) ∧
    ((¬ (M o0 0) = 0) → (
    vp_in x4 24 ∧ ¬ M ((o0 + 1) + 1 + 5 * x4.toNatClampNeg) 0 = 0 ∧
    vp_in x4 24 ∧ ¬ M ((o0 + 1) + 1 + 5 * x4.toNatClampNeg) 0 = 0 ∧
    wX2_become M o1 ((o0 + 1) + 1 + 5 * x4.toNatClampNeg) (fun M7 =>
    ∀ M8 : zM, M8 = va_up M7 o0 (upd (M7 o0) 1 x4) →
    ∀ M9 : zM, M9 = va_up M8 o0 (upd (M8 o0) 0 ((M8 o0 0) - (1 : Int32))) →
    Q M9)))
set_option maxHeartbeats 4000000 in
set_option maxRecDepth 100000 in
theorem kX1_bringBack {l : Launch} {D : va_G} {Y : zY} {ad kd : Nat → Nat} {RL : List Nat} {M : zM} {J : zL} {o0 : Nat} {o1 : Nat} (h_o0 : kd o0 = 1) (h_o1 : kd o1 = 2) {Q : zM → Prop} (hq : wX1_bringBack M o0 o1 Q) : zCv l yX1_bringBack wsX1_bringBack rmX1_bringBack [.ref (ad o0), .ref (ad o1)] D Y ad kd RL M J (fun M' J' => Q M' ∧ J = J') := by
  refine z_metv (cc := cX1_bringBack) (maxL := 3) (ret := none) (by decide) rfl (Nat.le_of_ble_eq_true rfl) ?_
  intro p e s m below meth c ls A ar QE hQE hx hb hr hml hown hts hlk hw hl
  have hown : s.vm.findClass RX1 = some m.cls := hown
  have hl : lv_has ls 3 [(0, .ref (ad o0)), (1, .ref (ad o1))] := hl
  have hC := hw.2.2.2.2.2.1
  have g1 : ∀ w ∈ wsX10, w.before ar s = true := (fun w h => hts w (List.mem_cons_of_mem _ (List.mem_append_left _ (List.mem_append_right _ h))))
  have q1 := hts _ (List.mem_of_getElem? (i := 1) rfl)
  have q2 := hts _ (List.mem_of_getElem? (i := 2) rfl)
  have q3 := hts _ (List.mem_of_getElem? (i := 3) rfl)
  unfold wX1_bringBack at hq
  refine lv_aload_n hx hb dX1_bringBack_0 rfl (lv_at hl 0 rfl) ?_
  refine zg1_next hx hb g1 hown hw h_o0 q1 dX1_bringBack_1 ?_
  refine lv_bipush (v := (24 : Int32)) hx hb dX1_bringBack_4 (by decide) ?_
  refine lv_iadd hx hb dX1_bringBack_6 ?_
  refine lv_iconst (v := (1 : Int32)) hx hb dX1_bringBack_7 (by decide) ?_
  refine lv_isub hx hb dX1_bringBack_8 ?_
  refine lv_bipush (v := (24 : Int32)) hx hb dX1_bringBack_9 (by decide) ?_
  refine lv_irem hx hb dX1_bringBack_11 (by decide) ?_
  refine lv_topi (fun x4 e_x4 => ?_)
  have hq := hq x4 e_x4
  refine lv_istore_n (lv' := [(2, .int x4), (0, .ref (ad o0)), (1, .ref (ad o1))]) hx hb dX1_bringBack_12 rfl hl (by decide) rfl (fun ls hl => ?_)
  refine lv_aload_n hx hb dX1_bringBack_13 rfl (lv_at hl 1 rfl) ?_
  refine zg1_held hx hb g1 hown hw h_o0 q2 dX1_bringBack_14 ?_
  refine lv_if_eq (tgt := 29) hx hb dX1_bringBack_17 (by decide) (fun hc => ?_) (fun hc => ?_)
  · have hq := hq.1 hc
    exact z_vret hQE hx hb hr hlk hw dX1_bringBack_29 ⟨hq, rfl⟩
  · have hq := hq.2 hc
    refine lv_aload_n hx hb dX1_bringBack_20 rfl (lv_at hl 1 rfl) ?_
    refine zg1_before hx hb g1 hown hw h_o0 q3 dX1_bringBack_21 ?_
    refine lv_iload_n hx hb dX1_bringBack_24 rfl (lv_at hl 0 rfl) ?_
    obtain ⟨hi, hm, hq⟩ := hq
    have hk5 := z_slot hw (zk_1_1 hC h_o0) hi hm
    refine z_ald14m hx hb hw (zk_1_1 hC h_o0) hi hk5 dX1_bringBack_25 ?_
    refine lv_ifnonnull (tgt := 30) hx hb dX1_bringBack_26 (by decide) ?_
    refine lv_aload_n hx hb dX1_bringBack_30 rfl (lv_at hl 2 rfl) ?_
    refine lv_aload_n hx hb dX1_bringBack_31 rfl (lv_at hl 1 rfl) ?_
    refine zg1_before hx hb g1 hown hw h_o0 q3 dX1_bringBack_32 ?_
    refine lv_iload_n hx hb dX1_bringBack_35 rfl (lv_at hl 0 rfl) ?_
    obtain ⟨hi, hm, hq⟩ := hq
    have hk6 := z_slot hw (zk_1_1 hC h_o0) hi hm
    refine z_ald14m hx hb hw (zk_1_1 hC h_o0) hi hk6 dX1_bringBack_36 ?_
    refine z_cvv ⟨hx, hb, hml, hown, hts⟩ hw h_o1 (kX2_become h_o1 hk6 hq) (by decide) rfl (cwV 1 hts gX1_bringBack_X2_become rfl rfl rfl (by decide +kernel) ⟨Nat.le_of_ble_eq_true rfl, Nat.le_of_ble_eq_true rfl⟩) rfl hl.1 rfl (Nat.le_of_ble_eq_true rfl) dX1_bringBack_37 ⟨Nat.zero_le _, Nat.zero_le _⟩ (fun M7 J0 H locs hq hw => ?_)
    obtain ⟨hq, rfl⟩ := hq
    refine lv_aload_n hx hb dX1_bringBack_40 rfl (lv_at hl 1 rfl) ?_
    refine lv_iload_n hx hb dX1_bringBack_41 rfl (lv_at hl 0 rfl) ?_
    refine zp1_next hx hb g1 hown hw h_o0 q1 dX1_bringBack_42 (fun H locs hw => ?_)
    obtain ⟨M8, e_M8⟩ : ∃ y : zM, y = va_up M7 o0 (upd (M7 o0) 1 x4) := ⟨_, rfl⟩
    rw [← e_M8] at hw
    have hq := hq M8 e_M8
    refine lv_aload_n hx hb dX1_bringBack_45 rfl (lv_at hl 1 rfl) ?_
    refine lv_dup hx hb dX1_bringBack_46 rfl ?_
    refine zg1_held hx hb g1 hown hw h_o0 q2 dX1_bringBack_47 ?_
    refine lv_iconst (v := (1 : Int32)) hx hb dX1_bringBack_50 (by decide) ?_
    refine lv_isub hx hb dX1_bringBack_51 ?_
    refine zp1_held hx hb g1 hown hw h_o0 q2 dX1_bringBack_52 (fun H locs hw => ?_)
    obtain ⟨M9, e_M9⟩ : ∃ y : zM, y = va_up M8 o0 (upd (M8 o0) 0 ((M8 o0 0) - (1 : Int32))) := ⟨_, rfl⟩
    rw [← e_M9] at hw
    have hq := hq M9 e_M9
    exact z_vret hQE hx hb hr hlk hw dX1_bringBack_55 ⟨hq, rfl⟩
theorem dX1_forget_0 : decode cX1_forget 0 = .ok (.aload_n 0, 1) := by decide +kernel
theorem dX1_forget_1 : decode cX1_forget 1 = .ok (.iconst 0, 1) := by decide +kernel
theorem dX1_forget_2 : decode cX1_forget 2 = .ok (.putfield 17, 3) := by decide +kernel
theorem dX1_forget_5 : decode cX1_forget 5 = .ok (.return_, 1) := by decide +kernel
def rmX1_forget : Room := { frames := 0, cells := 0, slots := 0, locals := 0 }
def wX1_forget (M : zM) (o0 : Nat) (Q : zM → Prop) : Prop :=
    ∀ M3 : zM, M3 = va_up M o0 (upd (M o0) 0 (0 : Int32)) →
    Q M3
set_option maxHeartbeats 4000000 in
set_option maxRecDepth 100000 in
theorem kX1_forget {l : Launch} {D : va_G} {Y : zY} {ad kd : Nat → Nat} {RL : List Nat} {M : zM} {J : zL} {o0 : Nat} (h_o0 : kd o0 = 1) {Q : zM → Prop} (hq : wX1_forget M o0 Q) : zCv l yX1_forget wsX1_forget rmX1_forget [.ref (ad o0)] D Y ad kd RL M J (fun M' J' => Q M' ∧ J = J') := by
  refine z_metv (cc := cX1_forget) (maxL := 1) (ret := none) (by decide) rfl (Nat.le_of_ble_eq_true rfl) ?_
  intro p e s m below meth c ls A ar QE hQE hx hb hr hml hown hts hlk hw hl
  have hown : s.vm.findClass RX1 = some m.cls := hown
  have hl : lv_has ls 1 [(0, .ref (ad o0))] := hl
  have hC := hw.2.2.2.2.2.1
  have g1 : ∀ w ∈ wsX10, w.before ar s = true := (fun w h => hts w (List.mem_cons_of_mem _ (List.mem_append_right _ h)))
  have q1 := hts _ (List.mem_of_getElem? (i := 1) rfl)
  unfold wX1_forget at hq
  refine lv_aload_n hx hb dX1_forget_0 rfl (lv_at hl 0 rfl) ?_
  refine lv_iconst (v := (0 : Int32)) hx hb dX1_forget_1 (by decide) ?_
  refine zp1_held hx hb g1 hown hw h_o0 q1 dX1_forget_2 (fun H locs hw => ?_)
  obtain ⟨M3, e_M3⟩ : ∃ y : zM, y = va_up M o0 (upd (M o0) 0 (0 : Int32)) := ⟨_, rfl⟩
  rw [← e_M3] at hw
  have hq := hq M3 e_M3
  exact z_vret hQE hx hb hr hlk hw dX1_forget_5 ⟨hq, rfl⟩
theorem dX7_fine_0 : decode cX7_fine 0 = .ok (.aload_n 0, 1) := by decide +kernel
theorem dX7_fine_1 : decode cX7_fine 1 = .ok (.iconst 0, 1) := by decide +kernel
theorem dX7_fine_2 : decode cX7_fine 2 = .ok (.putfield 61, 3) := by decide +kernel
theorem dX7_fine_5 : decode cX7_fine 5 = .ok (.iload_n 1, 1) := by decide +kernel
theorem dX7_fine_6 : decode cX7_fine 6 = .ok (.ireturn, 1) := by decide +kernel
def rmX7_fine : Room := { frames := 0, cells := 0, slots := 0, locals := 0 }
def wX7_fine (M : zM) (o0 : Nat) (x1 : Int32) (Q : Int32 → zM → Prop) : Prop :=
    ∀ M4 : zM, M4 = va_up M o0 (upd (M o0) 0 (0 : Int32)) →
    Q x1 M4
set_option maxHeartbeats 4000000 in
set_option maxRecDepth 100000 in
theorem kX7_fine {l : Launch} {D : va_G} {Y : zY} {ad kd : Nat → Nat} {RL : List Nat} {M : zM} {J : zL} {o0 : Nat} {x1 : Int32} (h_o0 : kd o0 = 7) {Q : Int32 → zM → Prop} (hq : wX7_fine M o0 x1 Q) : zCi l yX7_fine wsX7_fine rmX7_fine [.ref (ad o0), .int x1] D Y ad kd RL M J (fun r M' J' => Q r M' ∧ J = J') := by
  refine z_meti (cc := cX7_fine) (maxL := 2) (ret := (some .int)) (by decide) rfl (Nat.le_of_ble_eq_true rfl) ?_
  intro p e s m below meth c ls A ar QE hQE hx hb hr hml hown hts hlk hw hl
  have hown : s.vm.findClass RX7 = some m.cls := hown
  have hl : lv_has ls 2 [(0, .ref (ad o0)), (1, .int x1)] := hl
  have hC := hw.2.2.2.2.2.1
  have g7 : ∀ w ∈ wsX70, w.before ar s = true := (fun w h => hts w (List.mem_cons_of_mem _ (List.mem_append_right _ h)))
  have q1 := hts _ (List.mem_of_getElem? (i := 1) rfl)
  unfold wX7_fine at hq
  refine lv_aload_n hx hb dX7_fine_0 rfl (lv_at hl 0 rfl) ?_
  refine lv_iconst (v := (0 : Int32)) hx hb dX7_fine_1 (by decide) ?_
  refine zp7_status hx hb g7 hown hw h_o0 q1 dX7_fine_2 (fun H locs hw => ?_)
  obtain ⟨M4, e_M4⟩ : ∃ y : zM, y = va_up M o0 (upd (M o0) 0 (0 : Int32)) := ⟨_, rfl⟩
  rw [← e_M4] at hw
  have hq := hq M4 e_M4
  refine lv_iload_n hx hb dX7_fine_5 rfl (lv_at hl 1 rfl) ?_
  exact z_iret hQE hx hb hr hlk hw dX7_fine_6 ⟨hq, rfl⟩
theorem dX7_isWithin_0 : decode cX7_isWithin 0 = .ok (.iload_n 0, 1) := by decide +kernel
theorem dX7_isWithin_1 : decode cX7_isWithin 1 = .ok (.iload_n 1, 1) := by decide +kernel
theorem dX7_isWithin_2 : decode cX7_isWithin 2 = .ok (.if_icmp .lt 12, 3) := by decide +kernel
theorem dX7_isWithin_5 : decode cX7_isWithin 5 = .ok (.iload_n 0, 1) := by decide +kernel
theorem dX7_isWithin_6 : decode cX7_isWithin 6 = .ok (.iload_n 2, 1) := by decide +kernel
theorem dX7_isWithin_7 : decode cX7_isWithin 7 = .ok (.if_icmp .gt 7, 3) := by decide +kernel
theorem dX7_isWithin_10 : decode cX7_isWithin 10 = .ok (.iconst 1, 1) := by decide +kernel
theorem dX7_isWithin_11 : decode cX7_isWithin 11 = .ok (.goto 4, 3) := by decide +kernel
theorem dX7_isWithin_14 : decode cX7_isWithin 14 = .ok (.iconst 0, 1) := by decide +kernel
theorem dX7_isWithin_15 : decode cX7_isWithin 15 = .ok (.ireturn, 1) := by decide +kernel
def rmX7_isWithin : Room := { frames := 0, cells := 0, slots := 0, locals := 0 }
def wX7_isWithin (M : zM) (x0 : Int32) (x1 : Int32) (x2 : Int32) (Q : Int32 → Prop) : Prop :=
    ((x0 < x1) → (
    Q (0 : Int32))) ∧
    ((¬ x0 < x1) → (
    ((x2 < x0) → (
    Q (0 : Int32))) ∧
    ((¬ x2 < x0) → (
    Q (1 : Int32)))))
set_option maxHeartbeats 4000000 in
set_option maxRecDepth 100000 in
theorem kX7_isWithin {l : Launch} {D : va_G} {Y : zY} {ad kd : Nat → Nat} {RL : List Nat} {M : zM} {J : zL} {x0 : Int32} {x1 : Int32} {x2 : Int32}  {Q : Int32 → Prop} (hq : wX7_isWithin M x0 x1 x2 Q) : zCi l yX7_isWithin wsX7_isWithin rmX7_isWithin [.int x0, .int x1, .int x2] D Y ad kd RL M J (fun r M' J' => Q r ∧ M = M' ∧ J = J') := by
  refine z_meti (cc := cX7_isWithin) (maxL := 3) (ret := (some .boolean)) (by decide) rfl (Nat.le_of_ble_eq_true rfl) ?_
  intro p e s m below meth c ls A ar QE hQE hx hb hr hml hown hts hlk hw hl
  have hown : s.vm.findClass RX7 = some m.cls := hown
  have hl : lv_has ls 3 [(0, .int x0), (1, .int x1), (2, .int x2)] := hl
  have hC := hw.2.2.2.2.2.1
  unfold wX7_isWithin at hq
  refine lv_iload_n hx hb dX7_isWithin_0 rfl (lv_at hl 0 rfl) ?_
  refine lv_iload_n hx hb dX7_isWithin_1 rfl (lv_at hl 1 rfl) ?_
  refine lv_icmp_lt (tgt := 14) hx hb dX7_isWithin_2 (by decide) (fun hc => ?_) (fun hc => ?_)
  · have hq := hq.1 hc
    refine lv_iconst (v := (0 : Int32)) hx hb dX7_isWithin_14 (by decide) ?_
    exact z_zret hQE hx hb hr hlk hw dX7_isWithin_15 (by decide) ⟨hq, rfl, rfl⟩
  · have hq := hq.2 hc
    refine lv_iload_n hx hb dX7_isWithin_5 rfl (lv_at hl 0 rfl) ?_
    refine lv_iload_n hx hb dX7_isWithin_6 rfl (lv_at hl 2 rfl) ?_
    refine lv_icmp_gt (tgt := 14) hx hb dX7_isWithin_7 (by decide) (fun hc => ?_) (fun hc => ?_)
    · have hq := hq.1 hc
      refine lv_iconst (v := (0 : Int32)) hx hb dX7_isWithin_14 (by decide) ?_
      exact z_zret hQE hx hb hr hlk hw dX7_isWithin_15 (by decide) ⟨hq, rfl, rfl⟩
    · have hq := hq.2 hc
      refine lv_iconst (v := (1 : Int32)) hx hb dX7_isWithin_10 (by decide) ?_
      refine lv_goto (tgt := 15) hx hb dX7_isWithin_11 (by decide) ?_
      exact z_zret hQE hx hb hr hlk hw dX7_isWithin_15 (by decide) ⟨hq, rfl, rfl⟩
set_option maxRecDepth 20000 in
theorem ggX7_isRow_X7_isWithin : GoodIn wsX7_isRow wsX7_isWithin := goodIn_r _ [4] (by decide +kernel) (by decide +kernel)
set_option maxRecDepth 20000 in
theorem gX7_isRow_X7_isWithin : GoodIn wsX7_isRow (va_wsS RX7 70 yX7_isWithin wsX7_isWithin) := goodIn_app (goodIn_of _ (by decide +kernel)) ggX7_isRow_X7_isWithin
theorem dX7_isRow_0 : decode cX7_isRow 0 = .ok (.iload_n 0, 1) := by decide +kernel
theorem dX7_isRow_1 : decode cX7_isRow 1 = .ok (.iconst 0, 1) := by decide +kernel
theorem dX7_isRow_2 : decode cX7_isRow 2 = .ok (.bipush 7, 2) := by decide +kernel
theorem dX7_isRow_4 : decode cX7_isRow 4 = .ok (.invokestatic 70, 3) := by decide +kernel
theorem dX7_isRow_7 : decode cX7_isRow 7 = .ok (.ireturn, 1) := by decide +kernel
def rmX7_isRow : Room := { frames := 1, cells := 0, slots := 0, locals := 22 }
def wX7_isRow (M : zM) (x0 : Int32) (Q : Int32 → Prop) : Prop :=
    wX7_isWithin M x0 (0 : Int32) (7 : Int32) (fun r3 =>
    narrow .boolean (.int r3) = .int r3 ∧
    Q r3)
set_option maxHeartbeats 4000000 in
set_option maxRecDepth 100000 in
theorem kX7_isRow {l : Launch} {D : va_G} {Y : zY} {ad kd : Nat → Nat} {RL : List Nat} {M : zM} {J : zL} {x0 : Int32}  {Q : Int32 → Prop} (hq : wX7_isRow M x0 Q) : zCi l yX7_isRow wsX7_isRow rmX7_isRow [.int x0] D Y ad kd RL M J (fun r M' J' => Q r ∧ M = M' ∧ J = J') := by
  refine z_meti (cc := cX7_isRow) (maxL := 1) (ret := (some .boolean)) (by decide) rfl (Nat.le_of_ble_eq_true rfl) ?_
  intro p e s m below meth c ls A ar QE hQE hx hb hr hml hown hts hlk hw hl
  have hown : s.vm.findClass RX7 = some m.cls := hown
  have hl : lv_has ls 1 [(0, .int x0)] := hl
  have hC := hw.2.2.2.2.2.1
  unfold wX7_isRow at hq
  refine lv_iload_n hx hb dX7_isRow_0 rfl (lv_at hl 0 rfl) ?_
  refine lv_iconst (v := (0 : Int32)) hx hb dX7_isRow_1 (by decide) ?_
  refine lv_bipush (v := (7 : Int32)) hx hb dX7_isRow_2 (by decide) ?_
  refine z_csi ⟨hx, hb, hml, hown, hts⟩ hw (kX7_isWithin  hq) (va_cwS 3 hts gX7_isRow_X7_isWithin rfl rfl rfl (by decide +kernel) ⟨Nat.le_of_ble_eq_true rfl, Nat.le_of_ble_eq_true rfl⟩) rfl hl.1 rfl (Nat.le_of_ble_eq_true rfl) dX7_isRow_4 ⟨Nat.zero_le _, Nat.zero_le _⟩ (fun r3 M0 J0 H locs hq hw => ?_)
  obtain ⟨hq, rfl, rfl⟩ := hq
  obtain ⟨hn, hq⟩ := hq
  exact z_zret hQE hx hb hr hlk hw dX7_isRow_7 hn ⟨hq, rfl, rfl⟩
theorem dX7_found_0 : decode cX7_found 0 = .ok (.aload_n 0, 1) := by decide +kernel
theorem dX7_found_1 : decode cX7_found 1 = .ok (.iload_n 1, 1) := by decide +kernel
theorem dX7_found_2 : decode cX7_found 2 = .ok (.putfield 61, 3) := by decide +kernel
theorem dX7_found_5 : decode cX7_found 5 = .ok (.ldc_w 312, 3) := by decide +kernel
theorem dX7_found_8 : decode cX7_found 8 = .ok (.iload_n 1, 1) := by decide +kernel
theorem dX7_found_9 : decode cX7_found 9 = .ok (.isub, 1) := by decide +kernel
theorem dX7_found_10 : decode cX7_found 10 = .ok (.ireturn, 1) := by decide +kernel
def rmX7_found : Room := { frames := 0, cells := 0, slots := 0, locals := 0 }
def wX7_found (M : zM) (o0 : Nat) (x1 : Int32) (Q : Int32 → zM → Prop) : Prop :=
    ∀ M4 : zM, M4 = va_up M o0 (upd (M o0) 0 x1) →
    Q ((-1000010 : Int32) - x1) M4
set_option maxHeartbeats 4000000 in
set_option maxRecDepth 100000 in
theorem kX7_found {l : Launch} {D : va_G} {Y : zY} {ad kd : Nat → Nat} {RL : List Nat} {M : zM} {J : zL} {o0 : Nat} {x1 : Int32} (h_o0 : kd o0 = 7) {Q : Int32 → zM → Prop} (hq : wX7_found M o0 x1 Q) : zCi l yX7_found wsX7_found rmX7_found [.ref (ad o0), .int x1] D Y ad kd RL M J (fun r M' J' => Q r M' ∧ J = J') := by
  refine z_meti (cc := cX7_found) (maxL := 2) (ret := (some .int)) (by decide) rfl (Nat.le_of_ble_eq_true rfl) ?_
  intro p e s m below meth c ls A ar QE hQE hx hb hr hml hown hts hlk hw hl
  have hown : s.vm.findClass RX7 = some m.cls := hown
  have hl : lv_has ls 2 [(0, .ref (ad o0)), (1, .int x1)] := hl
  have hC := hw.2.2.2.2.2.1
  have g7 : ∀ w ∈ wsX70, w.before ar s = true := (fun w h => hts w (List.mem_cons_of_mem _ (List.mem_append_right _ h)))
  have q1 := hts _ (List.mem_of_getElem? (i := 1) rfl)
  have q2 := hts _ (List.mem_of_getElem? (i := 2) rfl)
  unfold wX7_found at hq
  refine lv_aload_n hx hb dX7_found_0 rfl (lv_at hl 0 rfl) ?_
  refine lv_iload_n hx hb dX7_found_1 rfl (lv_at hl 1 rfl) ?_
  refine zp7_status hx hb g7 hown hw h_o0 q1 dX7_found_2 (fun H locs hw => ?_)
  obtain ⟨M4, e_M4⟩ : ∃ y : zM, y = va_up M o0 (upd (M o0) 0 x1) := ⟨_, rfl⟩
  rw [← e_M4] at hw
  have hq := hq M4 e_M4
  refine lv_ldcw (v := (-1000010 : Int32)) hx hb hown q2 dX7_found_5 ?_
  refine lv_iload_n hx hb dX7_found_8 rfl (lv_at hl 1 rfl) ?_
  refine lv_isub hx hb dX7_found_9 ?_
  exact z_iret hQE hx hb hr hlk hw dX7_found_10 ⟨hq, rfl⟩
set_option maxRecDepth 20000 in
theorem ggX7_row_X7_isRow : GoodIn wsX7_row wsX7_isRow := goodIn_r _ [6, 7, 8, 5, 9] (by decide +kernel) (by decide +kernel)
set_option maxRecDepth 20000 in
theorem gX7_row_X7_isRow : GoodIn wsX7_row (va_wsS RX7 66 yX7_isRow wsX7_isRow) := goodIn_app (goodIn_of _ (by decide +kernel)) ggX7_row_X7_isRow
set_option maxRecDepth 20000 in
theorem ggX7_row_X7_isWithin : GoodIn wsX7_row wsX7_isWithin := goodIn_r _ [9] (by decide +kernel) (by decide +kernel)
set_option maxRecDepth 20000 in
theorem gX7_row_X7_isWithin : GoodIn wsX7_row (va_wsS RX7 70 yX7_isWithin wsX7_isWithin) := goodIn_app (goodIn_of _ (by decide +kernel)) ggX7_row_X7_isWithin
set_option maxRecDepth 20000 in
theorem ggX7_row_X7_found : GoodIn wsX7_row wsX7_found := goodIn_r _ [13, 14, 15, 32, 33, 34, 35, 36, 37, 38, 39, 40, 41] (by decide +kernel) (by decide +kernel)
set_option maxRecDepth 20000 in
theorem gX7_row_X7_found : GoodIn wsX7_row (wsV RX7 75 RX7 yX7_found wsX7_found) := goodIn_app (goodIn_of _ (by decide +kernel)) ggX7_row_X7_found
set_option maxRecDepth 20000 in
theorem ggX7_row_X3_begin : GoodIn wsX7_row wsX3_begin := goodIn_r _ [20, 21, 22, 23, 24, 25, 26, 27, 42, 43, 44] (by decide +kernel) (by decide +kernel)
set_option maxRecDepth 20000 in
theorem gX7_row_X3_begin : GoodIn wsX7_row (wsV RX7 79 RX3 yX3_begin wsX3_begin) := goodIn_app (goodIn_of _ (by decide +kernel)) ggX7_row_X3_begin
set_option maxRecDepth 20000 in
theorem ggX7_row_X7_fine : GoodIn wsX7_row wsX7_fine := goodIn_r _ [31, 14, 32, 33, 34, 35, 36, 37, 38, 39, 40, 41] (by decide +kernel) (by decide +kernel)
set_option maxRecDepth 20000 in
theorem gX7_row_X7_fine : GoodIn wsX7_row (wsV RX7 83 RX7 yX7_fine wsX7_fine) := goodIn_app (goodIn_of _ (by decide +kernel)) ggX7_row_X7_fine
theorem dX7_row_0 : decode cX7_row 0 = .ok (.iload_n 1, 1) := by decide +kernel
theorem dX7_row_1 : decode cX7_row 1 = .ok (.invokestatic 66, 3) := by decide +kernel
theorem dX7_row_4 : decode cX7_row 4 = .ok (.ifCond .eq 18, 3) := by decide +kernel
theorem dX7_row_7 : decode cX7_row 7 = .ok (.iload_n 2, 1) := by decide +kernel
theorem dX7_row_8 : decode cX7_row 8 = .ok (.iconst 0, 1) := by decide +kernel
theorem dX7_row_9 : decode cX7_row 9 = .ok (.iconst 2, 1) := by decide +kernel
theorem dX7_row_10 : decode cX7_row 10 = .ok (.invokestatic 70, 3) := by decide +kernel
theorem dX7_row_13 : decode cX7_row 13 = .ok (.ifCond .eq 9, 3) := by decide +kernel
theorem dX7_row_16 : decode cX7_row 16 = .ok (.iload_n 3, 1) := by decide +kernel
theorem dX7_row_17 : decode cX7_row 17 = .ok (.bipush 40, 2) := by decide +kernel
theorem dX7_row_19 : decode cX7_row 19 = .ok (.if_icmp .le 6, 3) := by decide +kernel
theorem dX7_row_22 : decode cX7_row 22 = .ok (.ldc 74, 2) := by decide +kernel
theorem dX7_row_24 : decode cX7_row 24 = .ok (.ireturn, 1) := by decide +kernel
theorem dX7_row_25 : decode cX7_row 25 = .ok (.iload_n 3, 1) := by decide +kernel
theorem dX7_row_26 : decode cX7_row 26 = .ok (.ifCond .ge 9, 3) := by decide +kernel
theorem dX7_row_29 : decode cX7_row 29 = .ok (.aload_n 0, 1) := by decide +kernel
theorem dX7_row_30 : decode cX7_row 30 = .ok (.iconst 4, 1) := by decide +kernel
theorem dX7_row_31 : decode cX7_row 31 = .ok (.invokevirtual 75, 3) := by decide +kernel
theorem dX7_row_34 : decode cX7_row 34 = .ok (.ireturn, 1) := by decide +kernel
theorem dX7_row_35 : decode cX7_row 35 = .ok (.aload_n 0, 1) := by decide +kernel
theorem dX7_row_36 : decode cX7_row 36 = .ok (.getfield 11, 3) := by decide +kernel
theorem dX7_row_39 : decode cX7_row 39 = .ok (.iload_n 1, 1) := by decide +kernel
theorem dX7_row_40 : decode cX7_row 40 = .ok (.aaload, 1) := by decide +kernel
theorem dX7_row_41 : decode cX7_row 41 = .ok (.iload_n 2, 1) := by decide +kernel
theorem dX7_row_42 : decode cX7_row 42 = .ok (.iload_n 3, 1) := by decide +kernel
theorem dX7_row_43 : decode cX7_row 43 = .ok (.invokevirtual 79, 3) := by decide +kernel
theorem dX7_row_46 : decode cX7_row 46 = .ok (.aload_n 0, 1) := by decide +kernel
theorem dX7_row_47 : decode cX7_row 47 = .ok (.iload_n 3, 1) := by decide +kernel
theorem dX7_row_48 : decode cX7_row 48 = .ok (.invokevirtual 83, 3) := by decide +kernel
theorem dX7_row_51 : decode cX7_row 51 = .ok (.ireturn, 1) := by decide +kernel
def rmX7_row : Room := { frames := 2, cells := 0, slots := 0, locals := 45 }
def wX7_row (M : zM) (o0 : Nat) (x1 : Int32) (x2 : Int32) (x3 : Int32) (Q : Int32 → zM → Prop) : Prop :=
    wX7_isRow M x1 (fun r6 =>
    ((r6 = 0) → (
    Q (-1000001 : Int32) M)) ∧
    ((¬ r6 = 0) → (
    wX7_isWithin M x2 (0 : Int32) (2 : Int32) (fun r7 =>
    ((r7 = 0) → (
    Q (-1000001 : Int32) M)) ∧
    ((¬ r7 = 0) → (
    ((x3 ≤ (40 : Int32)) → (
    ((0 ≤ x3) → (
    vp_in x1 8 ∧
    wX3_begin M ((o0 + 1) + 1 + 2 * x1.toNatClampNeg) x2 x3 (fun M9 =>
    wX7_fine M9 o0 x3 (fun r10 M11 =>
    Q r10 M11)))) ∧
    ((¬ 0 ≤ x3) → (
    wX7_found M o0 (4 : Int32) (fun r12 M13 =>
    Q r12 M13))))) ∧
    ((¬ x3 ≤ (40 : Int32)) → (
    Q (-1000001 : Int32) M))))))))
set_option maxHeartbeats 4000000 in
set_option maxRecDepth 100000 in
theorem kX7_row {l : Launch} {D : va_G} {Y : zY} {ad kd : Nat → Nat} {RL : List Nat} {M : zM} {J : zL} {o0 : Nat} {x1 : Int32} {x2 : Int32} {x3 : Int32} (h_o0 : kd o0 = 7) {Q : Int32 → zM → Prop} (hq : wX7_row M o0 x1 x2 x3 Q) : zCi l yX7_row wsX7_row rmX7_row [.ref (ad o0), .int x1, .int x2, .int x3] D Y ad kd RL M J (fun r M' J' => Q r M' ∧ J = J') := by
  refine z_meti (cc := cX7_row) (maxL := 4) (ret := (some .int)) (by decide) rfl (Nat.le_of_ble_eq_true rfl) ?_
  intro p e s m below meth c ls A ar QE hQE hx hb hr hml hown hts hlk hw hl
  have hown : s.vm.findClass RX7 = some m.cls := hown
  have hl : lv_has ls 4 [(0, .ref (ad o0)), (1, .int x1), (2, .int x2), (3, .int x3)] := hl
  have hC := hw.2.2.2.2.2.1
  have g7 : ∀ w ∈ wsX70, w.before ar s = true := (fun w h => hts w (List.mem_cons_of_mem _ (List.mem_append_left _ (List.mem_append_right _ h))))
  have q1 := hts _ (List.mem_of_getElem? (i := 1) rfl)
  have q2 := hts _ (List.mem_of_getElem? (i := 2) rfl)
  unfold wX7_row at hq
  refine lv_iload_n hx hb dX7_row_0 rfl (lv_at hl 1 rfl) ?_
  refine z_csi ⟨hx, hb, hml, hown, hts⟩ hw (kX7_isRow  hq) (va_cwS 1 hts gX7_row_X7_isRow rfl rfl rfl (by decide +kernel) ⟨Nat.le_of_ble_eq_true rfl, Nat.le_of_ble_eq_true rfl⟩) rfl hl.1 rfl (Nat.le_of_ble_eq_true rfl) dX7_row_1 ⟨Nat.zero_le _, Nat.zero_le _⟩ (fun r6 M0 J0 H locs hq hw => ?_)
  obtain ⟨hq, rfl, rfl⟩ := hq
  refine lv_if_eq (tgt := 22) hx hb dX7_row_4 (by decide) (fun hc => ?_) (fun hc => ?_)
  · have hq := hq.1 hc
    refine lv_ldc (v := (-1000001 : Int32)) hx hb hown q1 dX7_row_22 ?_
    exact z_iret hQE hx hb hr hlk hw dX7_row_24 ⟨hq, rfl⟩
  · have hq := hq.2 hc
    refine lv_iload_n hx hb dX7_row_7 rfl (lv_at hl 2 rfl) ?_
    refine lv_iconst (v := (0 : Int32)) hx hb dX7_row_8 (by decide) ?_
    refine lv_iconst (v := (2 : Int32)) hx hb dX7_row_9 (by decide) ?_
    refine z_csi ⟨hx, hb, hml, hown, hts⟩ hw (kX7_isWithin  hq) (va_cwS 3 hts gX7_row_X7_isWithin rfl rfl rfl (by decide +kernel) ⟨Nat.le_of_ble_eq_true rfl, Nat.le_of_ble_eq_true rfl⟩) rfl hl.1 rfl (Nat.le_of_ble_eq_true rfl) dX7_row_10 ⟨Nat.zero_le _, Nat.zero_le _⟩ (fun r7 M0 J0 H locs hq hw => ?_)
    obtain ⟨hq, rfl, rfl⟩ := hq
    refine lv_if_eq (tgt := 22) hx hb dX7_row_13 (by decide) (fun hc => ?_) (fun hc => ?_)
    · have hq := hq.1 hc
      refine lv_ldc (v := (-1000001 : Int32)) hx hb hown q1 dX7_row_22 ?_
      exact z_iret hQE hx hb hr hlk hw dX7_row_24 ⟨hq, rfl⟩
    · have hq := hq.2 hc
      refine lv_iload_n hx hb dX7_row_16 rfl (lv_at hl 3 rfl) ?_
      refine lv_bipush (v := (40 : Int32)) hx hb dX7_row_17 (by decide) ?_
      refine lv_icmp_le (tgt := 25) hx hb dX7_row_19 (by decide) (fun hc => ?_) (fun hc => ?_)
      · have hq := hq.1 hc
        refine lv_iload_n hx hb dX7_row_25 rfl (lv_at hl 3 rfl) ?_
        refine lv_if_ge (tgt := 35) hx hb dX7_row_26 (by decide) (fun hc => ?_) (fun hc => ?_)
        · have hq := hq.1 hc
          refine lv_aload_n hx hb dX7_row_35 rfl (lv_at hl 0 rfl) ?_
          refine zg7_rows hx hb g7 hown hw h_o0 q2 dX7_row_36 ?_
          refine lv_iload_n hx hb dX7_row_39 rfl (lv_at hl 1 rfl) ?_
          obtain ⟨hi, hq⟩ := hq
          have hk8 := zk_13 hC (zk_7_1 hC h_o0) (z_lt hi)
          refine z_ald13 hx hb hw (zk_7_1 hC h_o0) hi dX7_row_40 ?_
          refine lv_iload_n hx hb dX7_row_41 rfl (lv_at hl 2 rfl) ?_
          refine lv_iload_n hx hb dX7_row_42 rfl (lv_at hl 3 rfl) ?_
          refine z_cvv ⟨hx, hb, hml, hown, hts⟩ hw hk8 (kX3_begin hk8 hq) (by decide) rfl (cwV 2 hts gX7_row_X3_begin rfl rfl rfl (by decide +kernel) ⟨Nat.le_of_ble_eq_true rfl, Nat.le_of_ble_eq_true rfl⟩) rfl hl.1 rfl (Nat.le_of_ble_eq_true rfl) dX7_row_43 ⟨Nat.zero_le _, Nat.zero_le _⟩ (fun M9 J0 H locs hq hw => ?_)
          obtain ⟨hq, rfl⟩ := hq
          refine lv_aload_n hx hb dX7_row_46 rfl (lv_at hl 0 rfl) ?_
          refine lv_iload_n hx hb dX7_row_47 rfl (lv_at hl 3 rfl) ?_
          refine z_cvi ⟨hx, hb, hml, hown, hts⟩ hw h_o0 (kX7_fine h_o0 hq) (by decide) rfl (cwV 1 hts gX7_row_X7_fine rfl rfl rfl (by decide +kernel) ⟨Nat.le_of_ble_eq_true rfl, Nat.le_of_ble_eq_true rfl⟩) rfl hl.1 rfl (Nat.le_of_ble_eq_true rfl) dX7_row_48 ⟨Nat.zero_le _, Nat.zero_le _⟩ (fun r10 M11 J0 H locs hq hw => ?_)
          obtain ⟨hq, rfl⟩ := hq
          exact z_iret hQE hx hb hr hlk hw dX7_row_51 ⟨hq, rfl⟩
        · have hq := hq.2 hc
          refine lv_aload_n hx hb dX7_row_29 rfl (lv_at hl 0 rfl) ?_
          refine lv_iconst (v := (4 : Int32)) hx hb dX7_row_30 (by decide) ?_
          refine z_cvi ⟨hx, hb, hml, hown, hts⟩ hw h_o0 (kX7_found h_o0 hq) (by decide) rfl (cwV 1 hts gX7_row_X7_found rfl rfl rfl (by decide +kernel) ⟨Nat.le_of_ble_eq_true rfl, Nat.le_of_ble_eq_true rfl⟩) rfl hl.1 rfl (Nat.le_of_ble_eq_true rfl) dX7_row_31 ⟨Nat.zero_le _, Nat.zero_le _⟩ (fun r12 M13 J0 H locs hq hw => ?_)
          obtain ⟨hq, rfl⟩ := hq
          exact z_iret hQE hx hb hr hlk hw dX7_row_34 ⟨hq, rfl⟩
      · have hq := hq.2 hc
        refine lv_ldc (v := (-1000001 : Int32)) hx hb hown q1 dX7_row_22 ?_
        exact z_iret hQE hx hb hr hlk hw dX7_row_24 ⟨hq, rfl⟩
set_option maxRecDepth 20000 in
theorem ggX7_set_X7_isRow : GoodIn wsX7_set wsX7_isRow := goodIn_r _ [6, 7, 8, 5, 9] (by decide +kernel) (by decide +kernel)
set_option maxRecDepth 20000 in
theorem gX7_set_X7_isRow : GoodIn wsX7_set (va_wsS RX7 66 yX7_isRow wsX7_isRow) := goodIn_app (goodIn_of _ (by decide +kernel)) ggX7_set_X7_isRow
set_option maxRecDepth 20000 in
theorem ggX7_set_X3_isMissing : GoodIn wsX7_set wsX3_isMissing := goodIn_r _ [14, 15, 46, 47, 48] (by decide +kernel) (by decide +kernel)
set_option maxRecDepth 20000 in
theorem gX7_set_X3_isMissing : GoodIn wsX7_set (wsV RX7 86 RX3 yX3_isMissing wsX3_isMissing) := goodIn_app (goodIn_of _ (by decide +kernel)) ggX7_set_X3_isMissing
set_option maxRecDepth 20000 in
theorem ggX7_set_X7_found : GoodIn wsX7_set wsX7_found := goodIn_r _ [19, 20, 21, 36, 37, 38, 39, 40, 41, 42, 43, 44, 45] (by decide +kernel) (by decide +kernel)
set_option maxRecDepth 20000 in
theorem gX7_set_X7_found : GoodIn wsX7_set (wsV RX7 75 RX7 yX7_found wsX7_found) := goodIn_app (goodIn_of _ (by decide +kernel)) ggX7_set_X7_found
set_option maxRecDepth 20000 in
theorem ggX7_set_X3_holds : GoodIn wsX7_set wsX3_holds := goodIn_r _ [25, 26, 46, 47, 48] (by decide +kernel) (by decide +kernel)
set_option maxRecDepth 20000 in
theorem gX7_set_X3_holds : GoodIn wsX7_set (wsV RX7 90 RX3 yX3_holds wsX3_holds) := goodIn_app (goodIn_of _ (by decide +kernel)) ggX7_set_X3_holds
set_option maxRecDepth 20000 in
theorem ggX7_set_X3_put : GoodIn wsX7_set wsX3_put := goodIn_r _ [30, 31, 15, 46, 47, 48] (by decide +kernel) (by decide +kernel)
set_option maxRecDepth 20000 in
theorem gX7_set_X3_put : GoodIn wsX7_set (wsV RX7 94 RX3 yX3_put wsX3_put) := goodIn_app (goodIn_of _ (by decide +kernel)) ggX7_set_X3_put
set_option maxRecDepth 20000 in
theorem ggX7_set_X7_fine : GoodIn wsX7_set wsX7_fine := goodIn_r _ [35, 20, 36, 37, 38, 39, 40, 41, 42, 43, 44, 45] (by decide +kernel) (by decide +kernel)
set_option maxRecDepth 20000 in
theorem gX7_set_X7_fine : GoodIn wsX7_set (wsV RX7 83 RX7 yX7_fine wsX7_fine) := goodIn_app (goodIn_of _ (by decide +kernel)) ggX7_set_X7_fine
theorem dX7_set_0 : decode cX7_set 0 = .ok (.iload_n 1, 1) := by decide +kernel
theorem dX7_set_1 : decode cX7_set 1 = .ok (.invokestatic 66, 3) := by decide +kernel
theorem dX7_set_4 : decode cX7_set 4 = .ok (.ifCond .ne 6, 3) := by decide +kernel
theorem dX7_set_7 : decode cX7_set 7 = .ok (.ldc 74, 2) := by decide +kernel
theorem dX7_set_9 : decode cX7_set 9 = .ok (.ireturn, 1) := by decide +kernel
theorem dX7_set_10 : decode cX7_set 10 = .ok (.aload_n 0, 1) := by decide +kernel
theorem dX7_set_11 : decode cX7_set 11 = .ok (.getfield 11, 3) := by decide +kernel
theorem dX7_set_14 : decode cX7_set 14 = .ok (.iload_n 1, 1) := by decide +kernel
theorem dX7_set_15 : decode cX7_set 15 = .ok (.aaload, 1) := by decide +kernel
theorem dX7_set_16 : decode cX7_set 16 = .ok (.astore 4, 2) := by decide +kernel
theorem dX7_set_18 : decode cX7_set 18 = .ok (.aload 4, 2) := by decide +kernel
theorem dX7_set_20 : decode cX7_set 20 = .ok (.invokevirtual 86, 3) := by decide +kernel
theorem dX7_set_23 : decode cX7_set 23 = .ok (.ifCond .eq 9, 3) := by decide +kernel
theorem dX7_set_26 : decode cX7_set 26 = .ok (.aload_n 0, 1) := by decide +kernel
theorem dX7_set_27 : decode cX7_set 27 = .ok (.iconst 1, 1) := by decide +kernel
theorem dX7_set_28 : decode cX7_set 28 = .ok (.invokevirtual 75, 3) := by decide +kernel
theorem dX7_set_31 : decode cX7_set 31 = .ok (.ireturn, 1) := by decide +kernel
theorem dX7_set_32 : decode cX7_set 32 = .ok (.aload 4, 2) := by decide +kernel
theorem dX7_set_34 : decode cX7_set 34 = .ok (.iload_n 2, 1) := by decide +kernel
theorem dX7_set_35 : decode cX7_set 35 = .ok (.iconst 1, 1) := by decide +kernel
theorem dX7_set_36 : decode cX7_set 36 = .ok (.invokevirtual 90, 3) := by decide +kernel
theorem dX7_set_39 : decode cX7_set 39 = .ok (.ifCond .ne 9, 3) := by decide +kernel
theorem dX7_set_42 : decode cX7_set 42 = .ok (.aload_n 0, 1) := by decide +kernel
theorem dX7_set_43 : decode cX7_set 43 = .ok (.iconst 2, 1) := by decide +kernel
theorem dX7_set_44 : decode cX7_set 44 = .ok (.invokevirtual 75, 3) := by decide +kernel
theorem dX7_set_47 : decode cX7_set 47 = .ok (.ireturn, 1) := by decide +kernel
theorem dX7_set_48 : decode cX7_set 48 = .ok (.aload_n 0, 1) := by decide +kernel
theorem dX7_set_49 : decode cX7_set 49 = .ok (.aload 4, 2) := by decide +kernel
theorem dX7_set_51 : decode cX7_set 51 = .ok (.iload_n 2, 1) := by decide +kernel
theorem dX7_set_52 : decode cX7_set 52 = .ok (.iload_n 3, 1) := by decide +kernel
theorem dX7_set_53 : decode cX7_set 53 = .ok (.invokevirtual 94, 3) := by decide +kernel
theorem dX7_set_56 : decode cX7_set 56 = .ok (.invokevirtual 83, 3) := by decide +kernel
theorem dX7_set_59 : decode cX7_set 59 = .ok (.ireturn, 1) := by decide +kernel
def rmX7_set : Room := { frames := 2, cells := 0, slots := 0, locals := 42 }
def wX7_set (M : zM) (o0 : Nat) (x1 : Int32) (x2 : Int32) (x3 : Int32) (Q : Int32 → zM → Prop) : Prop :=
    wX7_isRow M x1 (fun r6 =>
    ((¬ r6 = 0) → (
    vp_in x1 8 ∧
    wX3_isMissing M ((o0 + 1) + 1 + 2 * x1.toNatClampNeg) (fun r8 =>
    ((r8 = 0) → (
    wX3_holds M ((o0 + 1) + 1 + 2 * x1.toNatClampNeg) x2 (1 : Int32) (fun r9 =>
    ((¬ r9 = 0) → (
    wX3_put M ((o0 + 1) + 1 + 2 * x1.toNatClampNeg) x2 x3 (fun r10 M11 =>
    wX7_fine M11 o0 r10 (fun r12 M13 =>
    Q r12 M13)))) ∧
    ((r9 = 0) → (
    wX7_found M o0 (2 : Int32) (fun r14 M15 =>
    Q r14 M15)))))) ∧
    ((¬ r8 = 0) → (
    wX7_found M o0 (1 : Int32) (fun r16 M17 =>
    Q r16 M17)))))) ∧
    ((r6 = 0) → (
    Q (-1000001 : Int32) M)))
set_option maxHeartbeats 4000000 in
set_option maxRecDepth 100000 in
theorem kX7_set {l : Launch} {D : va_G} {Y : zY} {ad kd : Nat → Nat} {RL : List Nat} {M : zM} {J : zL} {o0 : Nat} {x1 : Int32} {x2 : Int32} {x3 : Int32} (h_o0 : kd o0 = 7) {Q : Int32 → zM → Prop} (hq : wX7_set M o0 x1 x2 x3 Q) : zCi l yX7_set wsX7_set rmX7_set [.ref (ad o0), .int x1, .int x2, .int x3] D Y ad kd RL M J (fun r M' J' => Q r M' ∧ J = J') := by
  refine z_meti (cc := cX7_set) (maxL := 5) (ret := (some .int)) (by decide) rfl (Nat.le_of_ble_eq_true rfl) ?_
  intro p e s m below meth c ls A ar QE hQE hx hb hr hml hown hts hlk hw hl
  have hown : s.vm.findClass RX7 = some m.cls := hown
  have hl : lv_has ls 5 [(0, .ref (ad o0)), (1, .int x1), (2, .int x2), (3, .int x3)] := hl
  have hC := hw.2.2.2.2.2.1
  have g7 : ∀ w ∈ wsX70, w.before ar s = true := (fun w h => hts w (List.mem_cons_of_mem _ (List.mem_append_left _ (List.mem_append_right _ h))))
  have q1 := hts _ (List.mem_of_getElem? (i := 1) rfl)
  have q2 := hts _ (List.mem_of_getElem? (i := 2) rfl)
  unfold wX7_set at hq
  refine lv_iload_n hx hb dX7_set_0 rfl (lv_at hl 1 rfl) ?_
  refine z_csi ⟨hx, hb, hml, hown, hts⟩ hw (kX7_isRow  hq) (va_cwS 1 hts gX7_set_X7_isRow rfl rfl rfl (by decide +kernel) ⟨Nat.le_of_ble_eq_true rfl, Nat.le_of_ble_eq_true rfl⟩) rfl hl.1 rfl (Nat.le_of_ble_eq_true rfl) dX7_set_1 ⟨Nat.zero_le _, Nat.zero_le _⟩ (fun r6 M0 J0 H locs hq hw => ?_)
  obtain ⟨hq, rfl, rfl⟩ := hq
  refine lv_if_ne (tgt := 10) hx hb dX7_set_4 (by decide) (fun hc => ?_) (fun hc => ?_)
  · have hq := hq.1 hc
    refine lv_aload_n hx hb dX7_set_10 rfl (lv_at hl 0 rfl) ?_
    refine zg7_rows hx hb g7 hown hw h_o0 q2 dX7_set_11 ?_
    refine lv_iload_n hx hb dX7_set_14 rfl (lv_at hl 1 rfl) ?_
    obtain ⟨hi, hq⟩ := hq
    have hk7 := zk_13 hC (zk_7_1 hC h_o0) (z_lt hi)
    refine z_ald13 hx hb hw (zk_7_1 hC h_o0) hi dX7_set_15 ?_
    refine lv_astore (lv' := [(4, .ref (ad ((o0 + 1) + 1 + 2 * x1.toNatClampNeg))), (0, .ref (ad o0)), (1, .int x1), (2, .int x2), (3, .int x3)]) hx hb dX7_set_16 hl (by decide) rfl (fun ls hl => ?_)
    refine lv_aload hx hb dX7_set_18 (lv_at hl 0 rfl) ?_
    refine z_cvi ⟨hx, hb, hml, hown, hts⟩ hw hk7 (kX3_isMissing hk7 hq) (by decide) rfl (cwV 0 hts gX7_set_X3_isMissing rfl rfl rfl (by decide +kernel) ⟨Nat.le_of_ble_eq_true rfl, Nat.le_of_ble_eq_true rfl⟩) rfl hl.1 rfl (Nat.le_of_ble_eq_true rfl) dX7_set_20 ⟨Nat.zero_le _, Nat.zero_le _⟩ (fun r8 M0 J0 H locs hq hw => ?_)
    obtain ⟨hq, rfl, rfl⟩ := hq
    refine lv_if_eq (tgt := 32) hx hb dX7_set_23 (by decide) (fun hc => ?_) (fun hc => ?_)
    · have hq := hq.1 hc
      refine lv_aload hx hb dX7_set_32 (lv_at hl 0 rfl) ?_
      refine lv_iload_n hx hb dX7_set_34 rfl (lv_at hl 3 rfl) ?_
      refine lv_iconst (v := (1 : Int32)) hx hb dX7_set_35 (by decide) ?_
      refine z_cvi ⟨hx, hb, hml, hown, hts⟩ hw hk7 (kX3_holds hk7 hq) (by decide) rfl (cwV 2 hts gX7_set_X3_holds rfl rfl rfl (by decide +kernel) ⟨Nat.le_of_ble_eq_true rfl, Nat.le_of_ble_eq_true rfl⟩) rfl hl.1 rfl (Nat.le_of_ble_eq_true rfl) dX7_set_36 ⟨Nat.zero_le _, Nat.zero_le _⟩ (fun r9 M0 J0 H locs hq hw => ?_)
      obtain ⟨hq, rfl, rfl⟩ := hq
      refine lv_if_ne (tgt := 48) hx hb dX7_set_39 (by decide) (fun hc => ?_) (fun hc => ?_)
      · have hq := hq.1 hc
        refine lv_aload_n hx hb dX7_set_48 rfl (lv_at hl 1 rfl) ?_
        refine lv_aload hx hb dX7_set_49 (lv_at hl 0 rfl) ?_
        refine lv_iload_n hx hb dX7_set_51 rfl (lv_at hl 3 rfl) ?_
        refine lv_iload_n hx hb dX7_set_52 rfl (lv_at hl 4 rfl) ?_
        refine z_cvi ⟨hx, hb, hml, hown, hts⟩ hw hk7 (kX3_put hk7 hq) (by decide) rfl (cwV 2 hts gX7_set_X3_put rfl rfl rfl (by decide +kernel) ⟨Nat.le_of_ble_eq_true rfl, Nat.le_of_ble_eq_true rfl⟩) rfl hl.1 rfl (Nat.le_of_ble_eq_true rfl) dX7_set_53 ⟨Nat.zero_le _, Nat.zero_le _⟩ (fun r10 M11 J0 H locs hq hw => ?_)
        obtain ⟨hq, rfl⟩ := hq
        refine z_cvi ⟨hx, hb, hml, hown, hts⟩ hw h_o0 (kX7_fine h_o0 hq) (by decide) rfl (cwV 1 hts gX7_set_X7_fine rfl rfl rfl (by decide +kernel) ⟨Nat.le_of_ble_eq_true rfl, Nat.le_of_ble_eq_true rfl⟩) rfl hl.1 rfl (Nat.le_of_ble_eq_true rfl) dX7_set_56 ⟨Nat.zero_le _, Nat.zero_le _⟩ (fun r12 M13 J0 H locs hq hw => ?_)
        obtain ⟨hq, rfl⟩ := hq
        exact z_iret hQE hx hb hr hlk hw dX7_set_59 ⟨hq, rfl⟩
      · have hq := hq.2 hc
        refine lv_aload_n hx hb dX7_set_42 rfl (lv_at hl 1 rfl) ?_
        refine lv_iconst (v := (2 : Int32)) hx hb dX7_set_43 (by decide) ?_
        refine z_cvi ⟨hx, hb, hml, hown, hts⟩ hw h_o0 (kX7_found h_o0 hq) (by decide) rfl (cwV 1 hts gX7_set_X7_found rfl rfl rfl (by decide +kernel) ⟨Nat.le_of_ble_eq_true rfl, Nat.le_of_ble_eq_true rfl⟩) rfl hl.1 rfl (Nat.le_of_ble_eq_true rfl) dX7_set_44 ⟨Nat.zero_le _, Nat.zero_le _⟩ (fun r14 M15 J0 H locs hq hw => ?_)
        obtain ⟨hq, rfl⟩ := hq
        exact z_iret hQE hx hb hr hlk hw dX7_set_47 ⟨hq, rfl⟩
    · have hq := hq.2 hc
      refine lv_aload_n hx hb dX7_set_26 rfl (lv_at hl 1 rfl) ?_
      refine lv_iconst (v := (1 : Int32)) hx hb dX7_set_27 (by decide) ?_
      refine z_cvi ⟨hx, hb, hml, hown, hts⟩ hw h_o0 (kX7_found h_o0 hq) (by decide) rfl (cwV 1 hts gX7_set_X7_found rfl rfl rfl (by decide +kernel) ⟨Nat.le_of_ble_eq_true rfl, Nat.le_of_ble_eq_true rfl⟩) rfl hl.1 rfl (Nat.le_of_ble_eq_true rfl) dX7_set_28 ⟨Nat.zero_le _, Nat.zero_le _⟩ (fun r16 M17 J0 H locs hq hw => ?_)
      obtain ⟨hq, rfl⟩ := hq
      exact z_iret hQE hx hb hr hlk hw dX7_set_31 ⟨hq, rfl⟩
  · have hq := hq.2 hc
    refine lv_ldc (v := (-1000001 : Int32)) hx hb hown q1 dX7_set_7 ?_
    exact z_iret hQE hx hb hr hlk hw dX7_set_9 ⟨hq, rfl⟩
set_option maxRecDepth 20000 in
theorem ggX7_copy_X7_isRow : GoodIn wsX7_copy wsX7_isRow := goodIn_r _ [12, 13, 14, 11, 15] (by decide +kernel) (by decide +kernel)
set_option maxRecDepth 20000 in
theorem gX7_copy_X7_isRow : GoodIn wsX7_copy (va_wsS RX7 66 yX7_isRow wsX7_isRow) := goodIn_app (goodIn_of _ (by decide +kernel)) ggX7_copy_X7_isRow
set_option maxRecDepth 20000 in
theorem ggX7_copy_X3_isMissing : GoodIn wsX7_copy wsX3_isMissing := goodIn_r _ [20, 21, 47, 48, 49] (by decide +kernel) (by decide +kernel)
set_option maxRecDepth 20000 in
theorem gX7_copy_X3_isMissing : GoodIn wsX7_copy (wsV RX7 86 RX3 yX3_isMissing wsX3_isMissing) := goodIn_app (goodIn_of _ (by decide +kernel)) ggX7_copy_X3_isMissing
set_option maxRecDepth 20000 in
theorem ggX7_copy_X7_found : GoodIn wsX7_copy wsX7_found := goodIn_r _ [25, 26, 27, 37, 38, 39, 40, 41, 42, 43, 44, 45, 46] (by decide +kernel) (by decide +kernel)
set_option maxRecDepth 20000 in
theorem gX7_copy_X7_found : GoodIn wsX7_copy (wsV RX7 75 RX7 yX7_found wsX7_found) := goodIn_app (goodIn_of _ (by decide +kernel)) ggX7_copy_X7_found
set_option maxRecDepth 20000 in
theorem ggX7_copy_X3_holds : GoodIn wsX7_copy wsX3_holds := goodIn_r _ [31, 32, 47, 48, 49] (by decide +kernel) (by decide +kernel)
set_option maxRecDepth 20000 in
theorem gX7_copy_X3_holds : GoodIn wsX7_copy (wsV RX7 90 RX3 yX3_holds wsX3_holds) := goodIn_app (goodIn_of _ (by decide +kernel)) ggX7_copy_X3_holds
set_option maxRecDepth 20000 in
theorem ggX7_copy_X7_fine : GoodIn wsX7_copy wsX7_fine := goodIn_r _ [36, 26, 37, 38, 39, 40, 41, 42, 43, 44, 45, 46] (by decide +kernel) (by decide +kernel)
set_option maxRecDepth 20000 in
theorem gX7_copy_X7_fine : GoodIn wsX7_copy (wsV RX7 83 RX7 yX7_fine wsX7_fine) := goodIn_app (goodIn_of _ (by decide +kernel)) ggX7_copy_X7_fine
theorem dX7_copy_0 : decode cX7_copy 0 = .ok (.iload_n 1, 1) := by decide +kernel
theorem dX7_copy_1 : decode cX7_copy 1 = .ok (.invokestatic 66, 3) := by decide +kernel
theorem dX7_copy_4 : decode cX7_copy 4 = .ok (.ifCond .eq 10, 3) := by decide +kernel
theorem dX7_copy_7 : decode cX7_copy 7 = .ok (.iload_n 3, 1) := by decide +kernel
theorem dX7_copy_8 : decode cX7_copy 8 = .ok (.invokestatic 66, 3) := by decide +kernel
theorem dX7_copy_11 : decode cX7_copy 11 = .ok (.ifCond .ne 6, 3) := by decide +kernel
theorem dX7_copy_14 : decode cX7_copy 14 = .ok (.ldc 74, 2) := by decide +kernel
theorem dX7_copy_16 : decode cX7_copy 16 = .ok (.ireturn, 1) := by decide +kernel
theorem dX7_copy_17 : decode cX7_copy 17 = .ok (.aload_n 0, 1) := by decide +kernel
theorem dX7_copy_18 : decode cX7_copy 18 = .ok (.getfield 11, 3) := by decide +kernel
theorem dX7_copy_21 : decode cX7_copy 21 = .ok (.iload_n 1, 1) := by decide +kernel
theorem dX7_copy_22 : decode cX7_copy 22 = .ok (.aaload, 1) := by decide +kernel
theorem dX7_copy_23 : decode cX7_copy 23 = .ok (.astore 6, 2) := by decide +kernel
theorem dX7_copy_25 : decode cX7_copy 25 = .ok (.aload_n 0, 1) := by decide +kernel
theorem dX7_copy_26 : decode cX7_copy 26 = .ok (.getfield 11, 3) := by decide +kernel
theorem dX7_copy_29 : decode cX7_copy 29 = .ok (.iload_n 3, 1) := by decide +kernel
theorem dX7_copy_30 : decode cX7_copy 30 = .ok (.aaload, 1) := by decide +kernel
theorem dX7_copy_31 : decode cX7_copy 31 = .ok (.astore 7, 2) := by decide +kernel
theorem dX7_copy_33 : decode cX7_copy 33 = .ok (.aload 6, 2) := by decide +kernel
theorem dX7_copy_35 : decode cX7_copy 35 = .ok (.invokevirtual 86, 3) := by decide +kernel
theorem dX7_copy_38 : decode cX7_copy 38 = .ok (.ifCond .ne 11, 3) := by decide +kernel
theorem dX7_copy_41 : decode cX7_copy 41 = .ok (.aload 7, 2) := by decide +kernel
theorem dX7_copy_43 : decode cX7_copy 43 = .ok (.invokevirtual 86, 3) := by decide +kernel
theorem dX7_copy_46 : decode cX7_copy 46 = .ok (.ifCond .eq 9, 3) := by decide +kernel
theorem dX7_copy_49 : decode cX7_copy 49 = .ok (.aload_n 0, 1) := by decide +kernel
theorem dX7_copy_50 : decode cX7_copy 50 = .ok (.iconst 1, 1) := by decide +kernel
theorem dX7_copy_51 : decode cX7_copy 51 = .ok (.invokevirtual 75, 3) := by decide +kernel
theorem dX7_copy_54 : decode cX7_copy 54 = .ok (.ireturn, 1) := by decide +kernel
theorem dX7_copy_55 : decode cX7_copy 55 = .ok (.aload 6, 2) := by decide +kernel
theorem dX7_copy_57 : decode cX7_copy 57 = .ok (.getfield 98, 3) := by decide +kernel
theorem dX7_copy_60 : decode cX7_copy 60 = .ok (.aload 7, 2) := by decide +kernel
theorem dX7_copy_62 : decode cX7_copy 62 = .ok (.getfield 98, 3) := by decide +kernel
theorem dX7_copy_65 : decode cX7_copy 65 = .ok (.if_icmp .eq 9, 3) := by decide +kernel
theorem dX7_copy_68 : decode cX7_copy 68 = .ok (.aload_n 0, 1) := by decide +kernel
theorem dX7_copy_69 : decode cX7_copy 69 = .ok (.iconst 5, 1) := by decide +kernel
theorem dX7_copy_70 : decode cX7_copy 70 = .ok (.invokevirtual 75, 3) := by decide +kernel
theorem dX7_copy_73 : decode cX7_copy 73 = .ok (.ireturn, 1) := by decide +kernel
theorem dX7_copy_74 : decode cX7_copy 74 = .ok (.aload 6, 2) := by decide +kernel
theorem dX7_copy_76 : decode cX7_copy 76 = .ok (.iload_n 2, 1) := by decide +kernel
theorem dX7_copy_77 : decode cX7_copy 77 = .ok (.iload 5, 2) := by decide +kernel
theorem dX7_copy_79 : decode cX7_copy 79 = .ok (.invokevirtual 90, 3) := by decide +kernel
theorem dX7_copy_82 : decode cX7_copy 82 = .ok (.ifCond .eq 15, 3) := by decide +kernel
theorem dX7_copy_85 : decode cX7_copy 85 = .ok (.aload 7, 2) := by decide +kernel
theorem dX7_copy_87 : decode cX7_copy 87 = .ok (.iload 4, 2) := by decide +kernel
theorem dX7_copy_89 : decode cX7_copy 89 = .ok (.iload 5, 2) := by decide +kernel
theorem dX7_copy_91 : decode cX7_copy 91 = .ok (.invokevirtual 90, 3) := by decide +kernel
theorem dX7_copy_94 : decode cX7_copy 94 = .ok (.ifCond .ne 9, 3) := by decide +kernel
theorem dX7_copy_97 : decode cX7_copy 97 = .ok (.aload_n 0, 1) := by decide +kernel
theorem dX7_copy_98 : decode cX7_copy 98 = .ok (.iconst 2, 1) := by decide +kernel
theorem dX7_copy_99 : decode cX7_copy 99 = .ok (.invokevirtual 75, 3) := by decide +kernel
theorem dX7_copy_102 : decode cX7_copy 102 = .ok (.ireturn, 1) := by decide +kernel
theorem dX7_copy_103 : decode cX7_copy 103 = .ok (.aload 6, 2) := by decide +kernel
theorem dX7_copy_105 : decode cX7_copy 105 = .ok (.getfield 101, 3) := by decide +kernel
theorem dX7_copy_108 : decode cX7_copy 108 = .ok (.iload_n 2, 1) := by decide +kernel
theorem dX7_copy_109 : decode cX7_copy 109 = .ok (.aload 7, 2) := by decide +kernel
theorem dX7_copy_111 : decode cX7_copy 111 = .ok (.getfield 101, 3) := by decide +kernel
theorem dX7_copy_114 : decode cX7_copy 114 = .ok (.iload 4, 2) := by decide +kernel
theorem dX7_copy_116 : decode cX7_copy 116 = .ok (.iload 5, 2) := by decide +kernel
theorem dX7_copy_118 : decode cX7_copy 118 = .ok (.invokestatic 105, 3) := by decide +kernel
theorem dX7_copy_121 : decode cX7_copy 121 = .ok (.aload_n 0, 1) := by decide +kernel
theorem dX7_copy_122 : decode cX7_copy 122 = .ok (.iload 5, 2) := by decide +kernel
theorem dX7_copy_124 : decode cX7_copy 124 = .ok (.invokevirtual 83, 3) := by decide +kernel
theorem dX7_copy_127 : decode cX7_copy 127 = .ok (.ireturn, 1) := by decide +kernel
def rmX7_copy : Room := { frames := 2, cells := 0, slots := 0, locals := 64 }
def wX7_copy (M : zM) (o0 : Nat) (x1 : Int32) (x2 : Int32) (x3 : Int32) (x4 : Int32) (x5 : Int32) (Q : Int32 → zM → Prop) : Prop :=
    wX7_isRow M x1 (fun r8 =>
    ((r8 = 0) → (
    Q (-1000001 : Int32) M)) ∧
    ((¬ r8 = 0) → (
    wX7_isRow M x3 (fun r9 =>
    ((¬ r9 = 0) → (
    vp_in x1 8 ∧
    vp_in x3 8 ∧
    wX3_isMissing M ((o0 + 1) + 1 + 2 * x1.toNatClampNeg) (fun r12 =>
    ((¬ r12 = 0) → (
    wX7_found M o0 (1 : Int32) (fun r13 M14 =>
    Q r13 M14))) ∧
    ((r12 = 0) → (
    wX3_isMissing M ((o0 + 1) + 1 + 2 * x3.toNatClampNeg) (fun r15 =>
    ((r15 = 0) → (
    (((M ((o0 + 1) + 1 + 2 * x1.toNatClampNeg) 0) = (M ((o0 + 1) + 1 + 2 * x3.toNatClampNeg) 0)) → (
    wX3_holds M ((o0 + 1) + 1 + 2 * x1.toNatClampNeg) x2 x5 (fun r16 =>
    ((r16 = 0) → (
    wX7_found M o0 (2 : Int32) (fun r17 M18 =>
    Q r17 M18))) ∧
    ((¬ r16 = 0) → (
    wX3_holds M ((o0 + 1) + 1 + 2 * x3.toNatClampNeg) x4 x5 (fun r19 =>
    ((¬ r19 = 0) → (
    (¬ x2 < 0 ∧ ¬ x4 < 0 ∧ ¬ x5 < 0 ∧ x2.toNatClampNeg + x5.toNatClampNeg ≤ 40 ∧ x4.toNatClampNeg + x5.toNatClampNeg ≤ 40) ∧
    ∀ M20 : zM, M20 = va_up M (((o0 + 1) + 1 + 2 * x3.toNatClampNeg) + 1) (va_cpy (M (((o0 + 1) + 1 + 2 * x1.toNatClampNeg) + 1)) (M (((o0 + 1) + 1 + 2 * x3.toNatClampNeg) + 1)) x2.toNatClampNeg x4.toNatClampNeg x5.toNatClampNeg) →
    wX7_fine M20 o0 x5 (fun r21 M22 =>
    Q r21 M22))) ∧
    ((r19 = 0) → (
    wX7_found M o0 (2 : Int32) (fun r23 M24 =>
    Q r23 M24))))))))) ∧
    ((¬ (M ((o0 + 1) + 1 + 2 * x1.toNatClampNeg) 0) = (M ((o0 + 1) + 1 + 2 * x3.toNatClampNeg) 0)) → (
    wX7_found M o0 (5 : Int32) (fun r25 M26 =>
    Q r25 M26))))) ∧
    ((¬ r15 = 0) → (
    wX7_found M o0 (1 : Int32) (fun r27 M28 =>
    Q r27 M28))))))))) ∧
    ((r9 = 0) → (
    Q (-1000001 : Int32) M))))))
set_option maxHeartbeats 4000000 in
set_option maxRecDepth 100000 in
theorem kX7_copy {l : Launch} {D : va_G} {Y : zY} {ad kd : Nat → Nat} {RL : List Nat} {M : zM} {J : zL} {o0 : Nat} {x1 : Int32} {x2 : Int32} {x3 : Int32} {x4 : Int32} {x5 : Int32} (h_o0 : kd o0 = 7) {Q : Int32 → zM → Prop} (hq : wX7_copy M o0 x1 x2 x3 x4 x5 Q) : zCi l yX7_copy wsX7_copy rmX7_copy [.ref (ad o0), .int x1, .int x2, .int x3, .int x4, .int x5] D Y ad kd RL M J (fun r M' J' => Q r M' ∧ J = J') := by
  refine z_meti (cc := cX7_copy) (maxL := 8) (ret := (some .int)) (by decide) rfl (Nat.le_of_ble_eq_true rfl) ?_
  intro p e s m below meth c ls A ar QE hQE hx hb hr hml hown hts hlk hw hl
  have hown : s.vm.findClass RX7 = some m.cls := hown
  have hl : lv_has ls 8 [(0, .ref (ad o0)), (1, .int x1), (2, .int x2), (3, .int x3), (4, .int x4), (5, .int x5)] := hl
  have hC := hw.2.2.2.2.2.1
  have g3 : ∀ w ∈ wsX30, w.before ar s = true := (fun w h => hts w (List.mem_cons_of_mem _ (List.mem_append_right _ h)))
  have g7 : ∀ w ∈ wsX70, w.before ar s = true := (fun w h => hts w (List.mem_cons_of_mem _ (List.mem_append_left _ (List.mem_append_right _ h))))
  have q1 := hts _ (List.mem_of_getElem? (i := 1) rfl)
  have q2 := hts _ (List.mem_of_getElem? (i := 2) rfl)
  have q3 := hts _ (List.mem_of_getElem? (i := 3) rfl)
  have q4 := hts _ (List.mem_of_getElem? (i := 4) rfl)
  have q5 := hts _ (List.mem_of_getElem? (i := 5) rfl)
  have q6 := hts _ (List.mem_of_getElem? (i := 6) rfl)
  have q7 := hts _ (List.mem_of_getElem? (i := 7) rfl)
  have q8 := hts _ (List.mem_of_getElem? (i := 8) rfl)
  unfold wX7_copy at hq
  refine lv_iload_n hx hb dX7_copy_0 rfl (lv_at hl 1 rfl) ?_
  refine z_csi ⟨hx, hb, hml, hown, hts⟩ hw (kX7_isRow  hq) (va_cwS 1 hts gX7_copy_X7_isRow rfl rfl rfl (by decide +kernel) ⟨Nat.le_of_ble_eq_true rfl, Nat.le_of_ble_eq_true rfl⟩) rfl hl.1 rfl (Nat.le_of_ble_eq_true rfl) dX7_copy_1 ⟨Nat.zero_le _, Nat.zero_le _⟩ (fun r8 M0 J0 H locs hq hw => ?_)
  obtain ⟨hq, rfl, rfl⟩ := hq
  refine lv_if_eq (tgt := 14) hx hb dX7_copy_4 (by decide) (fun hc => ?_) (fun hc => ?_)
  · have hq := hq.1 hc
    refine lv_ldc (v := (-1000001 : Int32)) hx hb hown q1 dX7_copy_14 ?_
    exact z_iret hQE hx hb hr hlk hw dX7_copy_16 ⟨hq, rfl⟩
  · have hq := hq.2 hc
    refine lv_iload_n hx hb dX7_copy_7 rfl (lv_at hl 3 rfl) ?_
    refine z_csi ⟨hx, hb, hml, hown, hts⟩ hw (kX7_isRow  hq) (va_cwS 1 hts gX7_copy_X7_isRow rfl rfl rfl (by decide +kernel) ⟨Nat.le_of_ble_eq_true rfl, Nat.le_of_ble_eq_true rfl⟩) rfl hl.1 rfl (Nat.le_of_ble_eq_true rfl) dX7_copy_8 ⟨Nat.zero_le _, Nat.zero_le _⟩ (fun r9 M0 J0 H locs hq hw => ?_)
    obtain ⟨hq, rfl, rfl⟩ := hq
    refine lv_if_ne (tgt := 17) hx hb dX7_copy_11 (by decide) (fun hc => ?_) (fun hc => ?_)
    · have hq := hq.1 hc
      refine lv_aload_n hx hb dX7_copy_17 rfl (lv_at hl 0 rfl) ?_
      refine zg7_rows hx hb g7 hown hw h_o0 q2 dX7_copy_18 ?_
      refine lv_iload_n hx hb dX7_copy_21 rfl (lv_at hl 1 rfl) ?_
      obtain ⟨hi, hq⟩ := hq
      have hk10 := zk_13 hC (zk_7_1 hC h_o0) (z_lt hi)
      refine z_ald13 hx hb hw (zk_7_1 hC h_o0) hi dX7_copy_22 ?_
      refine lv_astore (lv' := [(6, .ref (ad ((o0 + 1) + 1 + 2 * x1.toNatClampNeg))), (0, .ref (ad o0)), (1, .int x1), (2, .int x2), (3, .int x3), (4, .int x4), (5, .int x5)]) hx hb dX7_copy_23 hl (by decide) rfl (fun ls hl => ?_)
      refine lv_aload_n hx hb dX7_copy_25 rfl (lv_at hl 1 rfl) ?_
      refine zg7_rows hx hb g7 hown hw h_o0 q2 dX7_copy_26 ?_
      refine lv_iload_n hx hb dX7_copy_29 rfl (lv_at hl 4 rfl) ?_
      obtain ⟨hi, hq⟩ := hq
      have hk11 := zk_13 hC (zk_7_1 hC h_o0) (z_lt hi)
      refine z_ald13 hx hb hw (zk_7_1 hC h_o0) hi dX7_copy_30 ?_
      refine lv_astore (lv' := [(7, .ref (ad ((o0 + 1) + 1 + 2 * x3.toNatClampNeg))), (6, .ref (ad ((o0 + 1) + 1 + 2 * x1.toNatClampNeg))), (0, .ref (ad o0)), (1, .int x1), (2, .int x2), (3, .int x3), (4, .int x4), (5, .int x5)]) hx hb dX7_copy_31 hl (by decide) rfl (fun ls hl => ?_)
      refine lv_aload hx hb dX7_copy_33 (lv_at hl 1 rfl) ?_
      refine z_cvi ⟨hx, hb, hml, hown, hts⟩ hw hk10 (kX3_isMissing hk10 hq) (by decide) rfl (cwV 0 hts gX7_copy_X3_isMissing rfl rfl rfl (by decide +kernel) ⟨Nat.le_of_ble_eq_true rfl, Nat.le_of_ble_eq_true rfl⟩) rfl hl.1 rfl (Nat.le_of_ble_eq_true rfl) dX7_copy_35 ⟨Nat.zero_le _, Nat.zero_le _⟩ (fun r12 M0 J0 H locs hq hw => ?_)
      obtain ⟨hq, rfl, rfl⟩ := hq
      refine lv_if_ne (tgt := 49) hx hb dX7_copy_38 (by decide) (fun hc => ?_) (fun hc => ?_)
      · have hq := hq.1 hc
        refine lv_aload_n hx hb dX7_copy_49 rfl (lv_at hl 2 rfl) ?_
        refine lv_iconst (v := (1 : Int32)) hx hb dX7_copy_50 (by decide) ?_
        refine z_cvi ⟨hx, hb, hml, hown, hts⟩ hw h_o0 (kX7_found h_o0 hq) (by decide) rfl (cwV 1 hts gX7_copy_X7_found rfl rfl rfl (by decide +kernel) ⟨Nat.le_of_ble_eq_true rfl, Nat.le_of_ble_eq_true rfl⟩) rfl hl.1 rfl (Nat.le_of_ble_eq_true rfl) dX7_copy_51 ⟨Nat.zero_le _, Nat.zero_le _⟩ (fun r13 M14 J0 H locs hq hw => ?_)
        obtain ⟨hq, rfl⟩ := hq
        exact z_iret hQE hx hb hr hlk hw dX7_copy_54 ⟨hq, rfl⟩
      · have hq := hq.2 hc
        refine lv_aload hx hb dX7_copy_41 (lv_at hl 0 rfl) ?_
        refine z_cvi ⟨hx, hb, hml, hown, hts⟩ hw hk11 (kX3_isMissing hk11 hq) (by decide) rfl (cwV 0 hts gX7_copy_X3_isMissing rfl rfl rfl (by decide +kernel) ⟨Nat.le_of_ble_eq_true rfl, Nat.le_of_ble_eq_true rfl⟩) rfl hl.1 rfl (Nat.le_of_ble_eq_true rfl) dX7_copy_43 ⟨Nat.zero_le _, Nat.zero_le _⟩ (fun r15 M0 J0 H locs hq hw => ?_)
        obtain ⟨hq, rfl, rfl⟩ := hq
        refine lv_if_eq (tgt := 55) hx hb dX7_copy_46 (by decide) (fun hc => ?_) (fun hc => ?_)
        · have hq := hq.1 hc
          refine lv_aload hx hb dX7_copy_55 (lv_at hl 1 rfl) ?_
          refine zg3_lane hx hb g3 hown hw hk10 q3 dX7_copy_57 ?_
          refine lv_aload hx hb dX7_copy_60 (lv_at hl 0 rfl) ?_
          refine zg3_lane hx hb g3 hown hw hk11 q3 dX7_copy_62 ?_
          refine lv_icmp_eq (tgt := 74) hx hb dX7_copy_65 (by decide) (fun hc => ?_) (fun hc => ?_)
          · have hq := hq.1 hc
            refine lv_aload hx hb dX7_copy_74 (lv_at hl 1 rfl) ?_
            refine lv_iload_n hx hb dX7_copy_76 rfl (lv_at hl 4 rfl) ?_
            refine lv_iload hx hb dX7_copy_77 (lv_at hl 7 rfl) ?_
            refine z_cvi ⟨hx, hb, hml, hown, hts⟩ hw hk10 (kX3_holds hk10 hq) (by decide) rfl (cwV 2 hts gX7_copy_X3_holds rfl rfl rfl (by decide +kernel) ⟨Nat.le_of_ble_eq_true rfl, Nat.le_of_ble_eq_true rfl⟩) rfl hl.1 rfl (Nat.le_of_ble_eq_true rfl) dX7_copy_79 ⟨Nat.zero_le _, Nat.zero_le _⟩ (fun r16 M0 J0 H locs hq hw => ?_)
            obtain ⟨hq, rfl, rfl⟩ := hq
            refine lv_if_eq (tgt := 97) hx hb dX7_copy_82 (by decide) (fun hc => ?_) (fun hc => ?_)
            · have hq := hq.1 hc
              refine lv_aload_n hx hb dX7_copy_97 rfl (lv_at hl 2 rfl) ?_
              refine lv_iconst (v := (2 : Int32)) hx hb dX7_copy_98 (by decide) ?_
              refine z_cvi ⟨hx, hb, hml, hown, hts⟩ hw h_o0 (kX7_found h_o0 hq) (by decide) rfl (cwV 1 hts gX7_copy_X7_found rfl rfl rfl (by decide +kernel) ⟨Nat.le_of_ble_eq_true rfl, Nat.le_of_ble_eq_true rfl⟩) rfl hl.1 rfl (Nat.le_of_ble_eq_true rfl) dX7_copy_99 ⟨Nat.zero_le _, Nat.zero_le _⟩ (fun r17 M18 J0 H locs hq hw => ?_)
              obtain ⟨hq, rfl⟩ := hq
              exact z_iret hQE hx hb hr hlk hw dX7_copy_102 ⟨hq, rfl⟩
            · have hq := hq.2 hc
              refine lv_aload hx hb dX7_copy_85 (lv_at hl 0 rfl) ?_
              refine lv_iload hx hb dX7_copy_87 (lv_at hl 6 rfl) ?_
              refine lv_iload hx hb dX7_copy_89 (lv_at hl 7 rfl) ?_
              refine z_cvi ⟨hx, hb, hml, hown, hts⟩ hw hk11 (kX3_holds hk11 hq) (by decide) rfl (cwV 2 hts gX7_copy_X3_holds rfl rfl rfl (by decide +kernel) ⟨Nat.le_of_ble_eq_true rfl, Nat.le_of_ble_eq_true rfl⟩) rfl hl.1 rfl (Nat.le_of_ble_eq_true rfl) dX7_copy_91 ⟨Nat.zero_le _, Nat.zero_le _⟩ (fun r19 M0 J0 H locs hq hw => ?_)
              obtain ⟨hq, rfl, rfl⟩ := hq
              refine lv_if_ne (tgt := 103) hx hb dX7_copy_94 (by decide) (fun hc => ?_) (fun hc => ?_)
              · have hq := hq.1 hc
                refine lv_aload hx hb dX7_copy_103 (lv_at hl 1 rfl) ?_
                refine zg3_items hx hb g3 hown hw hk10 q4 dX7_copy_105 ?_
                refine lv_iload_n hx hb dX7_copy_108 rfl (lv_at hl 4 rfl) ?_
                refine lv_aload hx hb dX7_copy_109 (lv_at hl 0 rfl) ?_
                refine zg3_items hx hb g3 hown hw hk11 q4 dX7_copy_111 ?_
                refine lv_iload hx hb dX7_copy_114 (lv_at hl 6 rfl) ?_
                refine lv_iload hx hb dX7_copy_116 (lv_at hl 7 rfl) ?_
                obtain ⟨hi, hq⟩ := hq
                refine z_copy (n0 := 40) (n1 := 40) hx hb (hml.trans hl.1.symm) hown q5 q6 q7 q8 hw (zk_3_1 hC hk10) (zk_3_1 hC hk11) hi (Nat.le_of_ble_eq_true rfl) (Nat.le_of_ble_eq_true rfl) dX7_copy_118 (fun H locs hw => ?_)
                obtain ⟨M20, e_M20⟩ : ∃ y : zM, y = va_up M (((o0 + 1) + 1 + 2 * x3.toNatClampNeg) + 1) (va_cpy (M (((o0 + 1) + 1 + 2 * x1.toNatClampNeg) + 1)) (M (((o0 + 1) + 1 + 2 * x3.toNatClampNeg) + 1)) x2.toNatClampNeg x4.toNatClampNeg x5.toNatClampNeg) := ⟨_, rfl⟩
                rw [← e_M20] at hw
                have hq := hq M20 e_M20
                refine lv_aload_n hx hb dX7_copy_121 rfl (lv_at hl 2 rfl) ?_
                refine lv_iload hx hb dX7_copy_122 (lv_at hl 7 rfl) ?_
                refine z_cvi ⟨hx, hb, hml, hown, hts⟩ hw h_o0 (kX7_fine h_o0 hq) (by decide) rfl (cwV 1 hts gX7_copy_X7_fine rfl rfl rfl (by decide +kernel) ⟨Nat.le_of_ble_eq_true rfl, Nat.le_of_ble_eq_true rfl⟩) rfl hl.1 rfl (Nat.le_of_ble_eq_true rfl) dX7_copy_124 ⟨Nat.zero_le _, Nat.zero_le _⟩ (fun r21 M22 J0 H locs hq hw => ?_)
                obtain ⟨hq, rfl⟩ := hq
                exact z_iret hQE hx hb hr hlk hw dX7_copy_127 ⟨hq, rfl⟩
              · have hq := hq.2 hc
                refine lv_aload_n hx hb dX7_copy_97 rfl (lv_at hl 2 rfl) ?_
                refine lv_iconst (v := (2 : Int32)) hx hb dX7_copy_98 (by decide) ?_
                refine z_cvi ⟨hx, hb, hml, hown, hts⟩ hw h_o0 (kX7_found h_o0 hq) (by decide) rfl (cwV 1 hts gX7_copy_X7_found rfl rfl rfl (by decide +kernel) ⟨Nat.le_of_ble_eq_true rfl, Nat.le_of_ble_eq_true rfl⟩) rfl hl.1 rfl (Nat.le_of_ble_eq_true rfl) dX7_copy_99 ⟨Nat.zero_le _, Nat.zero_le _⟩ (fun r23 M24 J0 H locs hq hw => ?_)
                obtain ⟨hq, rfl⟩ := hq
                exact z_iret hQE hx hb hr hlk hw dX7_copy_102 ⟨hq, rfl⟩
          · have hq := hq.2 hc
            refine lv_aload_n hx hb dX7_copy_68 rfl (lv_at hl 2 rfl) ?_
            refine lv_iconst (v := (5 : Int32)) hx hb dX7_copy_69 (by decide) ?_
            refine z_cvi ⟨hx, hb, hml, hown, hts⟩ hw h_o0 (kX7_found h_o0 hq) (by decide) rfl (cwV 1 hts gX7_copy_X7_found rfl rfl rfl (by decide +kernel) ⟨Nat.le_of_ble_eq_true rfl, Nat.le_of_ble_eq_true rfl⟩) rfl hl.1 rfl (Nat.le_of_ble_eq_true rfl) dX7_copy_70 ⟨Nat.zero_le _, Nat.zero_le _⟩ (fun r25 M26 J0 H locs hq hw => ?_)
            obtain ⟨hq, rfl⟩ := hq
            exact z_iret hQE hx hb hr hlk hw dX7_copy_73 ⟨hq, rfl⟩
        · have hq := hq.2 hc
          refine lv_aload_n hx hb dX7_copy_49 rfl (lv_at hl 2 rfl) ?_
          refine lv_iconst (v := (1 : Int32)) hx hb dX7_copy_50 (by decide) ?_
          refine z_cvi ⟨hx, hb, hml, hown, hts⟩ hw h_o0 (kX7_found h_o0 hq) (by decide) rfl (cwV 1 hts gX7_copy_X7_found rfl rfl rfl (by decide +kernel) ⟨Nat.le_of_ble_eq_true rfl, Nat.le_of_ble_eq_true rfl⟩) rfl hl.1 rfl (Nat.le_of_ble_eq_true rfl) dX7_copy_51 ⟨Nat.zero_le _, Nat.zero_le _⟩ (fun r27 M28 J0 H locs hq hw => ?_)
          obtain ⟨hq, rfl⟩ := hq
          exact z_iret hQE hx hb hr hlk hw dX7_copy_54 ⟨hq, rfl⟩
    · have hq := hq.2 hc
      refine lv_ldc (v := (-1000001 : Int32)) hx hb hown q1 dX7_copy_14 ?_
      exact z_iret hQE hx hb hr hlk hw dX7_copy_16 ⟨hq, rfl⟩
set_option maxRecDepth 20000 in
theorem ggX7_drop_X7_isRow : GoodIn wsX7_drop wsX7_isRow := goodIn_r _ [6, 7, 8, 5, 9] (by decide +kernel) (by decide +kernel)
set_option maxRecDepth 20000 in
theorem gX7_drop_X7_isRow : GoodIn wsX7_drop (va_wsS RX7 66 yX7_isRow wsX7_isRow) := goodIn_app (goodIn_of _ (by decide +kernel)) ggX7_drop_X7_isRow
set_option maxRecDepth 20000 in
theorem ggX7_drop_X3_isMissing : GoodIn wsX7_drop wsX3_isMissing := goodIn_r _ [14, 15, 41, 42, 43] (by decide +kernel) (by decide +kernel)
set_option maxRecDepth 20000 in
theorem gX7_drop_X3_isMissing : GoodIn wsX7_drop (wsV RX7 86 RX3 yX3_isMissing wsX3_isMissing) := goodIn_app (goodIn_of _ (by decide +kernel)) ggX7_drop_X3_isMissing
set_option maxRecDepth 20000 in
theorem ggX7_drop_X7_found : GoodIn wsX7_drop wsX7_found := goodIn_r _ [19, 20, 21, 31, 32, 33, 34, 35, 36, 37, 38, 39, 40] (by decide +kernel) (by decide +kernel)
set_option maxRecDepth 20000 in
theorem gX7_drop_X7_found : GoodIn wsX7_drop (wsV RX7 75 RX7 yX7_found wsX7_found) := goodIn_app (goodIn_of _ (by decide +kernel)) ggX7_drop_X7_found
set_option maxRecDepth 20000 in
theorem ggX7_drop_X3_end : GoodIn wsX7_drop wsX3_end := goodIn_r _ [25, 26, 15, 41, 42, 43] (by decide +kernel) (by decide +kernel)
set_option maxRecDepth 20000 in
theorem gX7_drop_X3_end : GoodIn wsX7_drop (wsV RX7 111 RX3 yX3_end wsX3_end) := goodIn_app (goodIn_of _ (by decide +kernel)) ggX7_drop_X3_end
set_option maxRecDepth 20000 in
theorem ggX7_drop_X7_fine : GoodIn wsX7_drop wsX7_fine := goodIn_r _ [30, 20, 31, 32, 33, 34, 35, 36, 37, 38, 39, 40] (by decide +kernel) (by decide +kernel)
set_option maxRecDepth 20000 in
theorem gX7_drop_X7_fine : GoodIn wsX7_drop (wsV RX7 83 RX7 yX7_fine wsX7_fine) := goodIn_app (goodIn_of _ (by decide +kernel)) ggX7_drop_X7_fine
theorem dX7_drop_0 : decode cX7_drop 0 = .ok (.iload_n 1, 1) := by decide +kernel
theorem dX7_drop_1 : decode cX7_drop 1 = .ok (.invokestatic 66, 3) := by decide +kernel
theorem dX7_drop_4 : decode cX7_drop 4 = .ok (.ifCond .ne 6, 3) := by decide +kernel
theorem dX7_drop_7 : decode cX7_drop 7 = .ok (.ldc 74, 2) := by decide +kernel
theorem dX7_drop_9 : decode cX7_drop 9 = .ok (.ireturn, 1) := by decide +kernel
theorem dX7_drop_10 : decode cX7_drop 10 = .ok (.aload_n 0, 1) := by decide +kernel
theorem dX7_drop_11 : decode cX7_drop 11 = .ok (.getfield 11, 3) := by decide +kernel
theorem dX7_drop_14 : decode cX7_drop 14 = .ok (.iload_n 1, 1) := by decide +kernel
theorem dX7_drop_15 : decode cX7_drop 15 = .ok (.aaload, 1) := by decide +kernel
theorem dX7_drop_16 : decode cX7_drop 16 = .ok (.invokevirtual 86, 3) := by decide +kernel
theorem dX7_drop_19 : decode cX7_drop 19 = .ok (.ifCond .eq 9, 3) := by decide +kernel
theorem dX7_drop_22 : decode cX7_drop 22 = .ok (.aload_n 0, 1) := by decide +kernel
theorem dX7_drop_23 : decode cX7_drop 23 = .ok (.iconst 1, 1) := by decide +kernel
theorem dX7_drop_24 : decode cX7_drop 24 = .ok (.invokevirtual 75, 3) := by decide +kernel
theorem dX7_drop_27 : decode cX7_drop 27 = .ok (.ireturn, 1) := by decide +kernel
theorem dX7_drop_28 : decode cX7_drop 28 = .ok (.aload_n 0, 1) := by decide +kernel
theorem dX7_drop_29 : decode cX7_drop 29 = .ok (.aload_n 0, 1) := by decide +kernel
theorem dX7_drop_30 : decode cX7_drop 30 = .ok (.getfield 11, 3) := by decide +kernel
theorem dX7_drop_33 : decode cX7_drop 33 = .ok (.iload_n 1, 1) := by decide +kernel
theorem dX7_drop_34 : decode cX7_drop 34 = .ok (.aaload, 1) := by decide +kernel
theorem dX7_drop_35 : decode cX7_drop 35 = .ok (.invokevirtual 111, 3) := by decide +kernel
theorem dX7_drop_38 : decode cX7_drop 38 = .ok (.invokevirtual 83, 3) := by decide +kernel
theorem dX7_drop_41 : decode cX7_drop 41 = .ok (.ireturn, 1) := by decide +kernel
def rmX7_drop : Room := { frames := 2, cells := 0, slots := 0, locals := 42 }
def wX7_drop (M : zM) (o0 : Nat) (x1 : Int32) (Q : Int32 → zM → Prop) : Prop :=
    wX7_isRow M x1 (fun r4 =>
    ((¬ r4 = 0) → (
    vp_in x1 8 ∧
    wX3_isMissing M ((o0 + 1) + 1 + 2 * x1.toNatClampNeg) (fun r6 =>
    ((r6 = 0) → (
    vp_in x1 8 ∧
    wX3_end M ((o0 + 1) + 1 + 2 * x1.toNatClampNeg) (fun r8 M9 =>
    wX7_fine M9 o0 r8 (fun r10 M11 =>
    Q r10 M11)))) ∧
    ((¬ r6 = 0) → (
    wX7_found M o0 (1 : Int32) (fun r12 M13 =>
    Q r12 M13)))))) ∧
    ((r4 = 0) → (
    Q (-1000001 : Int32) M)))
set_option maxHeartbeats 4000000 in
set_option maxRecDepth 100000 in
theorem kX7_drop {l : Launch} {D : va_G} {Y : zY} {ad kd : Nat → Nat} {RL : List Nat} {M : zM} {J : zL} {o0 : Nat} {x1 : Int32} (h_o0 : kd o0 = 7) {Q : Int32 → zM → Prop} (hq : wX7_drop M o0 x1 Q) : zCi l yX7_drop wsX7_drop rmX7_drop [.ref (ad o0), .int x1] D Y ad kd RL M J (fun r M' J' => Q r M' ∧ J = J') := by
  refine z_meti (cc := cX7_drop) (maxL := 2) (ret := (some .int)) (by decide) rfl (Nat.le_of_ble_eq_true rfl) ?_
  intro p e s m below meth c ls A ar QE hQE hx hb hr hml hown hts hlk hw hl
  have hown : s.vm.findClass RX7 = some m.cls := hown
  have hl : lv_has ls 2 [(0, .ref (ad o0)), (1, .int x1)] := hl
  have hC := hw.2.2.2.2.2.1
  have g7 : ∀ w ∈ wsX70, w.before ar s = true := (fun w h => hts w (List.mem_cons_of_mem _ (List.mem_append_left _ (List.mem_append_right _ h))))
  have q1 := hts _ (List.mem_of_getElem? (i := 1) rfl)
  have q2 := hts _ (List.mem_of_getElem? (i := 2) rfl)
  unfold wX7_drop at hq
  refine lv_iload_n hx hb dX7_drop_0 rfl (lv_at hl 1 rfl) ?_
  refine z_csi ⟨hx, hb, hml, hown, hts⟩ hw (kX7_isRow  hq) (va_cwS 1 hts gX7_drop_X7_isRow rfl rfl rfl (by decide +kernel) ⟨Nat.le_of_ble_eq_true rfl, Nat.le_of_ble_eq_true rfl⟩) rfl hl.1 rfl (Nat.le_of_ble_eq_true rfl) dX7_drop_1 ⟨Nat.zero_le _, Nat.zero_le _⟩ (fun r4 M0 J0 H locs hq hw => ?_)
  obtain ⟨hq, rfl, rfl⟩ := hq
  refine lv_if_ne (tgt := 10) hx hb dX7_drop_4 (by decide) (fun hc => ?_) (fun hc => ?_)
  · have hq := hq.1 hc
    refine lv_aload_n hx hb dX7_drop_10 rfl (lv_at hl 0 rfl) ?_
    refine zg7_rows hx hb g7 hown hw h_o0 q2 dX7_drop_11 ?_
    refine lv_iload_n hx hb dX7_drop_14 rfl (lv_at hl 1 rfl) ?_
    obtain ⟨hi, hq⟩ := hq
    have hk5 := zk_13 hC (zk_7_1 hC h_o0) (z_lt hi)
    refine z_ald13 hx hb hw (zk_7_1 hC h_o0) hi dX7_drop_15 ?_
    refine z_cvi ⟨hx, hb, hml, hown, hts⟩ hw hk5 (kX3_isMissing hk5 hq) (by decide) rfl (cwV 0 hts gX7_drop_X3_isMissing rfl rfl rfl (by decide +kernel) ⟨Nat.le_of_ble_eq_true rfl, Nat.le_of_ble_eq_true rfl⟩) rfl hl.1 rfl (Nat.le_of_ble_eq_true rfl) dX7_drop_16 ⟨Nat.zero_le _, Nat.zero_le _⟩ (fun r6 M0 J0 H locs hq hw => ?_)
    obtain ⟨hq, rfl, rfl⟩ := hq
    refine lv_if_eq (tgt := 28) hx hb dX7_drop_19 (by decide) (fun hc => ?_) (fun hc => ?_)
    · have hq := hq.1 hc
      refine lv_aload_n hx hb dX7_drop_28 rfl (lv_at hl 0 rfl) ?_
      refine lv_aload_n hx hb dX7_drop_29 rfl (lv_at hl 0 rfl) ?_
      refine zg7_rows hx hb g7 hown hw h_o0 q2 dX7_drop_30 ?_
      refine lv_iload_n hx hb dX7_drop_33 rfl (lv_at hl 1 rfl) ?_
      obtain ⟨hi, hq⟩ := hq
      have hk7 := zk_13 hC (zk_7_1 hC h_o0) (z_lt hi)
      refine z_ald13 hx hb hw (zk_7_1 hC h_o0) hi dX7_drop_34 ?_
      refine z_cvi ⟨hx, hb, hml, hown, hts⟩ hw hk7 (kX3_end hk7 hq) (by decide) rfl (cwV 0 hts gX7_drop_X3_end rfl rfl rfl (by decide +kernel) ⟨Nat.le_of_ble_eq_true rfl, Nat.le_of_ble_eq_true rfl⟩) rfl hl.1 rfl (Nat.le_of_ble_eq_true rfl) dX7_drop_35 ⟨Nat.zero_le _, Nat.zero_le _⟩ (fun r8 M9 J0 H locs hq hw => ?_)
      obtain ⟨hq, rfl⟩ := hq
      refine z_cvi ⟨hx, hb, hml, hown, hts⟩ hw h_o0 (kX7_fine h_o0 hq) (by decide) rfl (cwV 1 hts gX7_drop_X7_fine rfl rfl rfl (by decide +kernel) ⟨Nat.le_of_ble_eq_true rfl, Nat.le_of_ble_eq_true rfl⟩) rfl hl.1 rfl (Nat.le_of_ble_eq_true rfl) dX7_drop_38 ⟨Nat.zero_le _, Nat.zero_le _⟩ (fun r10 M11 J0 H locs hq hw => ?_)
      obtain ⟨hq, rfl⟩ := hq
      exact z_iret hQE hx hb hr hlk hw dX7_drop_41 ⟨hq, rfl⟩
    · have hq := hq.2 hc
      refine lv_aload_n hx hb dX7_drop_22 rfl (lv_at hl 0 rfl) ?_
      refine lv_iconst (v := (1 : Int32)) hx hb dX7_drop_23 (by decide) ?_
      refine z_cvi ⟨hx, hb, hml, hown, hts⟩ hw h_o0 (kX7_found h_o0 hq) (by decide) rfl (cwV 1 hts gX7_drop_X7_found rfl rfl rfl (by decide +kernel) ⟨Nat.le_of_ble_eq_true rfl, Nat.le_of_ble_eq_true rfl⟩) rfl hl.1 rfl (Nat.le_of_ble_eq_true rfl) dX7_drop_24 ⟨Nat.zero_le _, Nat.zero_le _⟩ (fun r12 M13 J0 H locs hq hw => ?_)
      obtain ⟨hq, rfl⟩ := hq
      exact z_iret hQE hx hb hr hlk hw dX7_drop_27 ⟨hq, rfl⟩
  · have hq := hq.2 hc
    refine lv_ldc (v := (-1000001 : Int32)) hx hb hown q1 dX7_drop_7 ?_
    exact z_iret hQE hx hb hr hlk hw dX7_drop_9 ⟨hq, rfl⟩
set_option maxRecDepth 20000 in
theorem ggX7_feed_X7_isWithin : GoodIn wsX7_feed wsX7_isWithin := goodIn_r _ [7] (by decide +kernel) (by decide +kernel)
set_option maxRecDepth 20000 in
theorem gX7_feed_X7_isWithin : GoodIn wsX7_feed (va_wsS RX7 70 yX7_isWithin wsX7_isWithin) := goodIn_app (goodIn_of _ (by decide +kernel)) ggX7_feed_X7_isWithin
set_option maxRecDepth 20000 in
theorem ggX7_feed_X6_isFull : GoodIn wsX7_feed wsX6_isFull := goodIn_r _ [12, 13, 29, 30, 31, 32] (by decide +kernel) (by decide +kernel)
set_option maxRecDepth 20000 in
theorem gX7_feed_X6_isFull : GoodIn wsX7_feed (wsV RX7 115 RX6 yX6_isFull wsX6_isFull) := goodIn_app (goodIn_of _ (by decide +kernel)) ggX7_feed_X6_isFull
set_option maxRecDepth 20000 in
theorem ggX7_feed_X6_append : GoodIn wsX7_feed wsX6_append := goodIn_r _ [17, 18, 13, 29, 30, 31, 32] (by decide +kernel) (by decide +kernel)
set_option maxRecDepth 20000 in
theorem gX7_feed_X6_append : GoodIn wsX7_feed (wsV RX7 119 RX6 yX6_append wsX6_append) := goodIn_app (goodIn_of _ (by decide +kernel)) ggX7_feed_X6_append
theorem dX7_feed_0 : decode cX7_feed 0 = .ok (.iload_n 1, 1) := by decide +kernel
theorem dX7_feed_1 : decode cX7_feed 1 = .ok (.iconst 0, 1) := by decide +kernel
theorem dX7_feed_2 : decode cX7_feed 2 = .ok (.sipush 255, 3) := by decide +kernel
theorem dX7_feed_5 : decode cX7_feed 5 = .ok (.invokestatic 70, 3) := by decide +kernel
theorem dX7_feed_8 : decode cX7_feed 8 = .ok (.ifCond .ne 6, 3) := by decide +kernel
theorem dX7_feed_11 : decode cX7_feed 11 = .ok (.ldc 74, 2) := by decide +kernel
theorem dX7_feed_13 : decode cX7_feed 13 = .ok (.ireturn, 1) := by decide +kernel
theorem dX7_feed_14 : decode cX7_feed 14 = .ok (.aload_n 0, 1) := by decide +kernel
theorem dX7_feed_15 : decode cX7_feed 15 = .ok (.getfield 18, 3) := by decide +kernel
theorem dX7_feed_18 : decode cX7_feed 18 = .ok (.invokevirtual 115, 3) := by decide +kernel
theorem dX7_feed_21 : decode cX7_feed 21 = .ok (.ifCond .eq 6, 3) := by decide +kernel
theorem dX7_feed_24 : decode cX7_feed 24 = .ok (.ldc 118, 2) := by decide +kernel
theorem dX7_feed_26 : decode cX7_feed 26 = .ok (.ireturn, 1) := by decide +kernel
theorem dX7_feed_27 : decode cX7_feed 27 = .ok (.aload_n 0, 1) := by decide +kernel
theorem dX7_feed_28 : decode cX7_feed 28 = .ok (.getfield 18, 3) := by decide +kernel
theorem dX7_feed_31 : decode cX7_feed 31 = .ok (.iload_n 1, 1) := by decide +kernel
theorem dX7_feed_32 : decode cX7_feed 32 = .ok (.invokevirtual 119, 3) := by decide +kernel
theorem dX7_feed_35 : decode cX7_feed 35 = .ok (.ireturn, 1) := by decide +kernel
def rmX7_feed : Room := { frames := 1, cells := 0, slots := 0, locals := 22 }
def wX7_feed (M : zM) (o0 : Nat) (x1 : Int32) (Q : Int32 → zM → Prop) : Prop :=
    wX7_isWithin M x1 (0 : Int32) (255 : Int32) (fun r4 =>
    ((¬ r4 = 0) → (
    wX6_isFull M (o0 + 18) (fun r5 =>
    ((r5 = 0) → (
    wX6_append M (o0 + 18) x1 (fun r6 M7 =>
    Q r6 M7))) ∧
    ((¬ r5 = 0) → (
    Q (-1000003 : Int32) M))))) ∧
    ((r4 = 0) → (
    Q (-1000001 : Int32) M)))
set_option maxHeartbeats 4000000 in
set_option maxRecDepth 100000 in
theorem kX7_feed {l : Launch} {D : va_G} {Y : zY} {ad kd : Nat → Nat} {RL : List Nat} {M : zM} {J : zL} {o0 : Nat} {x1 : Int32} (h_o0 : kd o0 = 7) {Q : Int32 → zM → Prop} (hq : wX7_feed M o0 x1 Q) : zCi l yX7_feed wsX7_feed rmX7_feed [.ref (ad o0), .int x1] D Y ad kd RL M J (fun r M' J' => Q r M' ∧ J = J') := by
  refine z_meti (cc := cX7_feed) (maxL := 2) (ret := (some .int)) (by decide) rfl (Nat.le_of_ble_eq_true rfl) ?_
  intro p e s m below meth c ls A ar QE hQE hx hb hr hml hown hts hlk hw hl
  have hown : s.vm.findClass RX7 = some m.cls := hown
  have hl : lv_has ls 2 [(0, .ref (ad o0)), (1, .int x1)] := hl
  have hC := hw.2.2.2.2.2.1
  have g7 : ∀ w ∈ wsX70, w.before ar s = true := (fun w h => hts w (List.mem_cons_of_mem _ (List.mem_append_left _ (List.mem_append_right _ h))))
  have q1 := hts _ (List.mem_of_getElem? (i := 1) rfl)
  have q2 := hts _ (List.mem_of_getElem? (i := 2) rfl)
  have q3 := hts _ (List.mem_of_getElem? (i := 3) rfl)
  unfold wX7_feed at hq
  refine lv_iload_n hx hb dX7_feed_0 rfl (lv_at hl 1 rfl) ?_
  refine lv_iconst (v := (0 : Int32)) hx hb dX7_feed_1 (by decide) ?_
  refine lv_sipush (v := (255 : Int32)) hx hb dX7_feed_2 (by decide) ?_
  refine z_csi ⟨hx, hb, hml, hown, hts⟩ hw (kX7_isWithin  hq) (va_cwS 3 hts gX7_feed_X7_isWithin rfl rfl rfl (by decide +kernel) ⟨Nat.le_of_ble_eq_true rfl, Nat.le_of_ble_eq_true rfl⟩) rfl hl.1 rfl (Nat.le_of_ble_eq_true rfl) dX7_feed_5 ⟨Nat.zero_le _, Nat.zero_le _⟩ (fun r4 M0 J0 H locs hq hw => ?_)
  obtain ⟨hq, rfl, rfl⟩ := hq
  refine lv_if_ne (tgt := 14) hx hb dX7_feed_8 (by decide) (fun hc => ?_) (fun hc => ?_)
  · have hq := hq.1 hc
    refine lv_aload_n hx hb dX7_feed_14 rfl (lv_at hl 0 rfl) ?_
    refine zg7_tape hx hb g7 hown hw h_o0 q2 dX7_feed_15 ?_
    refine z_cvi ⟨hx, hb, hml, hown, hts⟩ hw (zk_7_18 hC h_o0) (kX6_isFull (zk_7_18 hC h_o0) hq) (by decide) rfl (cwV 0 hts gX7_feed_X6_isFull rfl rfl rfl (by decide +kernel) ⟨Nat.le_of_ble_eq_true rfl, Nat.le_of_ble_eq_true rfl⟩) rfl hl.1 rfl (Nat.le_of_ble_eq_true rfl) dX7_feed_18 ⟨Nat.zero_le _, Nat.zero_le _⟩ (fun r5 M0 J0 H locs hq hw => ?_)
    obtain ⟨hq, rfl, rfl⟩ := hq
    refine lv_if_eq (tgt := 27) hx hb dX7_feed_21 (by decide) (fun hc => ?_) (fun hc => ?_)
    · have hq := hq.1 hc
      refine lv_aload_n hx hb dX7_feed_27 rfl (lv_at hl 0 rfl) ?_
      refine zg7_tape hx hb g7 hown hw h_o0 q2 dX7_feed_28 ?_
      refine lv_iload_n hx hb dX7_feed_31 rfl (lv_at hl 1 rfl) ?_
      refine z_cvi ⟨hx, hb, hml, hown, hts⟩ hw (zk_7_18 hC h_o0) (kX6_append (zk_7_18 hC h_o0) hq) (by decide) rfl (cwV 1 hts gX7_feed_X6_append rfl rfl rfl (by decide +kernel) ⟨Nat.le_of_ble_eq_true rfl, Nat.le_of_ble_eq_true rfl⟩) rfl hl.1 rfl (Nat.le_of_ble_eq_true rfl) dX7_feed_32 ⟨Nat.zero_le _, Nat.zero_le _⟩ (fun r6 M7 J0 H locs hq hw => ?_)
      obtain ⟨hq, rfl⟩ := hq
      exact z_iret hQE hx hb hr hlk hw dX7_feed_35 ⟨hq, rfl⟩
    · have hq := hq.2 hc
      refine lv_ldc (v := (-1000003 : Int32)) hx hb hown q3 dX7_feed_24 ?_
      exact z_iret hQE hx hb hr hlk hw dX7_feed_26 ⟨hq, rfl⟩
  · have hq := hq.2 hc
    refine lv_ldc (v := (-1000001 : Int32)) hx hb hown q1 dX7_feed_11 ?_
    exact z_iret hQE hx hb hr hlk hw dX7_feed_13 ⟨hq, rfl⟩
set_option maxRecDepth 20000 in
theorem ggX7_rail_X6_parse : GoodIn wsX7_rail wsX6_parse := goodIn_r _ [12, 13, 14, 15, 16, 17, 18, 19, 20, 21, 22, 23, 24, 25, 26, 27, 28, 29, 11, 30, 31, 32, 33, 34, 35, 36, 37, 38, 39, 40, 41, 42, 43, 44, 45, 46, 47, 48, 49, 50, 51, 52, 53, 54, 55, 56, 57, 58, 59, 60, 61, 62, 91, 92, 93, 94, 95, 96, 97, 98, 99, 100] (by decide +kernel) (by decide +kernel)
set_option maxRecDepth 20000 in
theorem gX7_rail_X6_parse : GoodIn wsX7_rail (wsV RX7 122 RX6 yX6_parse wsX6_parse) := goodIn_app (goodIn_of _ (by decide +kernel)) ggX7_rail_X6_parse
set_option maxRecDepth 20000 in
theorem ggX7_rail_X6_clear : GoodIn wsX7_rail wsX6_clear := goodIn_r _ [66, 13, 91, 92, 93, 94] (by decide +kernel) (by decide +kernel)
set_option maxRecDepth 20000 in
theorem gX7_rail_X6_clear : GoodIn wsX7_rail (wsV RX7 126 RX6 yX6_clear wsX6_clear) := goodIn_app (goodIn_of _ (by decide +kernel)) ggX7_rail_X6_clear
set_option maxRecDepth 20000 in
theorem ggX7_rail_X2_become : GoodIn wsX7_rail wsX2_become := goodIn_r _ [70, 25, 26, 59, 71, 72, 73, 74, 60, 61, 62, 95, 96, 97, 98, 99, 100] (by decide +kernel) (by decide +kernel)
set_option maxRecDepth 20000 in
theorem gX7_rail_X2_become : GoodIn wsX7_rail (wsV RX7 133 RX2 yX2_become wsX2_become) := goodIn_app (goodIn_of _ (by decide +kernel)) ggX7_rail_X2_become
set_option maxRecDepth 20000 in
theorem ggX7_rail_X1_forget : GoodIn wsX7_rail wsX1_forget := goodIn_r _ [79, 80, 101, 102, 103] (by decide +kernel) (by decide +kernel)
set_option maxRecDepth 20000 in
theorem gX7_rail_X1_forget : GoodIn wsX7_rail (wsV RX7 137 RX1 yX1_forget wsX1_forget) := goodIn_app (goodIn_of _ (by decide +kernel)) ggX7_rail_X1_forget
theorem dX7_rail_0 : decode cX7_rail 0 = .ok (.aload_n 0, 1) := by decide +kernel
theorem dX7_rail_1 : decode cX7_rail 1 = .ok (.getfield 18, 3) := by decide +kernel
theorem dX7_rail_4 : decode cX7_rail 4 = .ok (.aload_n 0, 1) := by decide +kernel
theorem dX7_rail_5 : decode cX7_rail 5 = .ok (.getfield 29, 3) := by decide +kernel
theorem dX7_rail_8 : decode cX7_rail 8 = .ok (.invokevirtual 122, 3) := by decide +kernel
theorem dX7_rail_11 : decode cX7_rail 11 = .ok (.istore_n 1, 1) := by decide +kernel
theorem dX7_rail_12 : decode cX7_rail 12 = .ok (.aload_n 0, 1) := by decide +kernel
theorem dX7_rail_13 : decode cX7_rail 13 = .ok (.getfield 18, 3) := by decide +kernel
theorem dX7_rail_16 : decode cX7_rail 16 = .ok (.invokevirtual 126, 3) := by decide +kernel
theorem dX7_rail_19 : decode cX7_rail 19 = .ok (.iload_n 1, 1) := by decide +kernel
theorem dX7_rail_20 : decode cX7_rail 20 = .ok (.ifCond .ne 14, 3) := by decide +kernel
theorem dX7_rail_23 : decode cX7_rail 23 = .ok (.ldc 129, 2) := by decide +kernel
theorem dX7_rail_25 : decode cX7_rail 25 = .ok (.aload_n 0, 1) := by decide +kernel
theorem dX7_rail_26 : decode cX7_rail 26 = .ok (.getfield 18, 3) := by decide +kernel
theorem dX7_rail_29 : decode cX7_rail 29 = .ok (.getfield 130, 3) := by decide +kernel
theorem dX7_rail_32 : decode cX7_rail 32 = .ok (.isub, 1) := by decide +kernel
theorem dX7_rail_33 : decode cX7_rail 33 = .ok (.ireturn, 1) := by decide +kernel
theorem dX7_rail_34 : decode cX7_rail 34 = .ok (.aload_n 0, 1) := by decide +kernel
theorem dX7_rail_35 : decode cX7_rail 35 = .ok (.getfield 25, 3) := by decide +kernel
theorem dX7_rail_38 : decode cX7_rail 38 = .ok (.aload_n 0, 1) := by decide +kernel
theorem dX7_rail_39 : decode cX7_rail 39 = .ok (.getfield 29, 3) := by decide +kernel
theorem dX7_rail_42 : decode cX7_rail 42 = .ok (.invokevirtual 133, 3) := by decide +kernel
theorem dX7_rail_45 : decode cX7_rail 45 = .ok (.aload_n 0, 1) := by decide +kernel
theorem dX7_rail_46 : decode cX7_rail 46 = .ok (.getfield 39, 3) := by decide +kernel
theorem dX7_rail_49 : decode cX7_rail 49 = .ok (.invokevirtual 137, 3) := by decide +kernel
theorem dX7_rail_52 : decode cX7_rail 52 = .ok (.aload_n 0, 1) := by decide +kernel
theorem dX7_rail_53 : decode cX7_rail 53 = .ok (.getfield 25, 3) := by decide +kernel
theorem dX7_rail_56 : decode cX7_rail 56 = .ok (.getfield 140, 3) := by decide +kernel
theorem dX7_rail_59 : decode cX7_rail 59 = .ok (.ireturn, 1) := by decide +kernel
def rmX7_rail : Room := { frames := 5, cells := 0, slots := 0, locals := 120 }
def wX7_rail (M : zM) (o0 : Nat) (Q : Int32 → zM → Prop) : Prop :=
    wX6_parse M (o0 + 18) (o0 + 25) (fun r3 M4 =>
    wX6_clear M4 (o0 + 18) (fun M5 =>
    ((¬ r3 = 0) → (
    wX2_become M5 (o0 + 20) (o0 + 25) (fun M6 =>
    wX1_forget M6 (o0 + 41) (fun M7 =>
    Q (M7 (o0 + 20) 0) M7)))) ∧
    ((r3 = 0) → (
    Q ((-1000100 : Int32) - (M5 (o0 + 18) 2)) M5))))
set_option maxHeartbeats 4000000 in
set_option maxRecDepth 100000 in
theorem kX7_rail {l : Launch} {D : va_G} {Y : zY} {ad kd : Nat → Nat} {RL : List Nat} {M : zM} {J : zL} {o0 : Nat} (h_o0 : kd o0 = 7) {Q : Int32 → zM → Prop} (hq : wX7_rail M o0 Q) : zCi l yX7_rail wsX7_rail rmX7_rail [.ref (ad o0)] D Y ad kd RL M J (fun r M' J' => Q r M' ∧ J = J') := by
  refine z_meti (cc := cX7_rail) (maxL := 2) (ret := (some .int)) (by decide) rfl (Nat.le_of_ble_eq_true rfl) ?_
  intro p e s m below meth c ls A ar QE hQE hx hb hr hml hown hts hlk hw hl
  have hown : s.vm.findClass RX7 = some m.cls := hown
  have hl : lv_has ls 2 [(0, .ref (ad o0))] := hl
  have hC := hw.2.2.2.2.2.1
  have g2 : ∀ w ∈ wsX20, w.before ar s = true := (fun w h => hts w (List.mem_cons_of_mem _ (List.mem_append_left _ (List.mem_append_right _ h))))
  have g6 : ∀ w ∈ wsX60, w.before ar s = true := (fun w h => hts w (List.mem_cons_of_mem _ (List.mem_append_left _ (List.mem_append_left _ (List.mem_append_right _ h)))))
  have g7 : ∀ w ∈ wsX70, w.before ar s = true := (fun w h => hts w (List.mem_cons_of_mem _ (List.mem_append_left _ (List.mem_append_left _ (List.mem_append_left _ (List.mem_append_right _ h))))))
  have q1 := hts _ (List.mem_of_getElem? (i := 1) rfl)
  have q2 := hts _ (List.mem_of_getElem? (i := 2) rfl)
  have q3 := hts _ (List.mem_of_getElem? (i := 3) rfl)
  have q4 := hts _ (List.mem_of_getElem? (i := 4) rfl)
  have q5 := hts _ (List.mem_of_getElem? (i := 5) rfl)
  have q6 := hts _ (List.mem_of_getElem? (i := 6) rfl)
  have q7 := hts _ (List.mem_of_getElem? (i := 7) rfl)
  unfold wX7_rail at hq
  refine lv_aload_n hx hb dX7_rail_0 rfl (lv_at hl 0 rfl) ?_
  refine zg7_tape hx hb g7 hown hw h_o0 q1 dX7_rail_1 ?_
  refine lv_aload_n hx hb dX7_rail_4 rfl (lv_at hl 0 rfl) ?_
  refine zg7_draft hx hb g7 hown hw h_o0 q2 dX7_rail_5 ?_
  refine z_cvi ⟨hx, hb, hml, hown, hts⟩ hw (zk_7_18 hC h_o0) (kX6_parse (zk_7_18 hC h_o0) (zk_7_25 hC h_o0) hq) (by decide) rfl (cwV 1 hts gX7_rail_X6_parse rfl rfl rfl (by decide +kernel) ⟨Nat.le_of_ble_eq_true rfl, Nat.le_of_ble_eq_true rfl⟩) rfl hl.1 rfl (Nat.le_of_ble_eq_true rfl) dX7_rail_8 ⟨Nat.zero_le _, Nat.zero_le _⟩ (fun r3 M4 J0 H locs hq hw => ?_)
  obtain ⟨hq, rfl⟩ := hq
  refine lv_istore_n (lv' := [(1, .int r3), (0, .ref (ad o0))]) hx hb dX7_rail_11 rfl hl (by decide) rfl (fun ls hl => ?_)
  refine lv_aload_n hx hb dX7_rail_12 rfl (lv_at hl 1 rfl) ?_
  refine zg7_tape hx hb g7 hown hw h_o0 q1 dX7_rail_13 ?_
  refine z_cvv ⟨hx, hb, hml, hown, hts⟩ hw (zk_7_18 hC h_o0) (kX6_clear (zk_7_18 hC h_o0) hq) (by decide) rfl (cwV 0 hts gX7_rail_X6_clear rfl rfl rfl (by decide +kernel) ⟨Nat.le_of_ble_eq_true rfl, Nat.le_of_ble_eq_true rfl⟩) rfl hl.1 rfl (Nat.le_of_ble_eq_true rfl) dX7_rail_16 ⟨Nat.zero_le _, Nat.zero_le _⟩ (fun M5 J0 H locs hq hw => ?_)
  obtain ⟨hq, rfl⟩ := hq
  refine lv_iload_n hx hb dX7_rail_19 rfl (lv_at hl 0 rfl) ?_
  refine lv_if_ne (tgt := 34) hx hb dX7_rail_20 (by decide) (fun hc => ?_) (fun hc => ?_)
  · have hq := hq.1 hc
    refine lv_aload_n hx hb dX7_rail_34 rfl (lv_at hl 1 rfl) ?_
    refine zg7_rail hx hb g7 hown hw h_o0 q5 dX7_rail_35 ?_
    refine lv_aload_n hx hb dX7_rail_38 rfl (lv_at hl 1 rfl) ?_
    refine zg7_draft hx hb g7 hown hw h_o0 q2 dX7_rail_39 ?_
    refine z_cvv ⟨hx, hb, hml, hown, hts⟩ hw (zk_7_20 hC h_o0) (kX2_become (zk_7_20 hC h_o0) (zk_7_25 hC h_o0) hq) (by decide) rfl (cwV 1 hts gX7_rail_X2_become rfl rfl rfl (by decide +kernel) ⟨Nat.le_of_ble_eq_true rfl, Nat.le_of_ble_eq_true rfl⟩) rfl hl.1 rfl (Nat.le_of_ble_eq_true rfl) dX7_rail_42 ⟨Nat.zero_le _, Nat.zero_le _⟩ (fun M6 J0 H locs hq hw => ?_)
    obtain ⟨hq, rfl⟩ := hq
    refine lv_aload_n hx hb dX7_rail_45 rfl (lv_at hl 1 rfl) ?_
    refine zg7_history hx hb g7 hown hw h_o0 q6 dX7_rail_46 ?_
    refine z_cvv ⟨hx, hb, hml, hown, hts⟩ hw (zk_7_41 hC h_o0) (kX1_forget (zk_7_41 hC h_o0) hq) (by decide) rfl (cwV 0 hts gX7_rail_X1_forget rfl rfl rfl (by decide +kernel) ⟨Nat.le_of_ble_eq_true rfl, Nat.le_of_ble_eq_true rfl⟩) rfl hl.1 rfl (Nat.le_of_ble_eq_true rfl) dX7_rail_49 ⟨Nat.zero_le _, Nat.zero_le _⟩ (fun M7 J0 H locs hq hw => ?_)
    obtain ⟨hq, rfl⟩ := hq
    refine lv_aload_n hx hb dX7_rail_52 rfl (lv_at hl 1 rfl) ?_
    refine zg7_rail hx hb g7 hown hw h_o0 q5 dX7_rail_53 ?_
    refine zg2_pegs hx hb g2 hown hw (zk_7_20 hC h_o0) q7 dX7_rail_56 ?_
    exact z_iret hQE hx hb hr hlk hw dX7_rail_59 ⟨hq, rfl⟩
  · have hq := hq.2 hc
    refine lv_ldc (v := (-1000100 : Int32)) hx hb hown q3 dX7_rail_23 ?_
    refine lv_aload_n hx hb dX7_rail_25 rfl (lv_at hl 1 rfl) ?_
    refine zg7_tape hx hb g7 hown hw h_o0 q1 dX7_rail_26 ?_
    refine zg6_faultPlace hx hb g6 hown hw (zk_7_18 hC h_o0) q4 dX7_rail_29 ?_
    refine lv_isub hx hb dX7_rail_32 ?_
    exact z_iret hQE hx hb hr hlk hw dX7_rail_33 ⟨hq, rfl⟩
theorem dX7_fault_0 : decode cX7_fault 0 = .ok (.aload_n 0, 1) := by decide +kernel
theorem dX7_fault_1 : decode cX7_fault 1 = .ok (.getfield 18, 3) := by decide +kernel
theorem dX7_fault_4 : decode cX7_fault 4 = .ok (.getfield 143, 3) := by decide +kernel
theorem dX7_fault_7 : decode cX7_fault 7 = .ok (.ireturn, 1) := by decide +kernel
def rmX7_fault : Room := { frames := 0, cells := 0, slots := 0, locals := 0 }
def wX7_fault (M : zM) (o0 : Nat) (Q : Int32 → Prop) : Prop :=
    Q (M (o0 + 18) 1)
set_option maxHeartbeats 4000000 in
set_option maxRecDepth 100000 in
theorem kX7_fault {l : Launch} {D : va_G} {Y : zY} {ad kd : Nat → Nat} {RL : List Nat} {M : zM} {J : zL} {o0 : Nat} (h_o0 : kd o0 = 7) {Q : Int32 → Prop} (hq : wX7_fault M o0 Q) : zCi l yX7_fault wsX7_fault rmX7_fault [.ref (ad o0)] D Y ad kd RL M J (fun r M' J' => Q r ∧ M = M' ∧ J = J') := by
  refine z_meti (cc := cX7_fault) (maxL := 1) (ret := (some .int)) (by decide) rfl (Nat.le_of_ble_eq_true rfl) ?_
  intro p e s m below meth c ls A ar QE hQE hx hb hr hml hown hts hlk hw hl
  have hown : s.vm.findClass RX7 = some m.cls := hown
  have hl : lv_has ls 1 [(0, .ref (ad o0))] := hl
  have hC := hw.2.2.2.2.2.1
  have g6 : ∀ w ∈ wsX60, w.before ar s = true := (fun w h => hts w (List.mem_cons_of_mem _ (List.mem_append_right _ h)))
  have g7 : ∀ w ∈ wsX70, w.before ar s = true := (fun w h => hts w (List.mem_cons_of_mem _ (List.mem_append_left _ (List.mem_append_right _ h))))
  have q1 := hts _ (List.mem_of_getElem? (i := 1) rfl)
  have q2 := hts _ (List.mem_of_getElem? (i := 2) rfl)
  unfold wX7_fault at hq
  refine lv_aload_n hx hb dX7_fault_0 rfl (lv_at hl 0 rfl) ?_
  refine zg7_tape hx hb g7 hown hw h_o0 q1 dX7_fault_1 ?_
  refine zg6_fault hx hb g6 hown hw (zk_7_18 hC h_o0) q2 dX7_fault_4 ?_
  exact z_iret hQE hx hb hr hlk hw dX7_fault_7 ⟨hq, rfl, rfl⟩
set_option maxRecDepth 20000 in
theorem ggX7_laySlew_X1_keep : GoodIn wsX7_laySlew wsX1_keep := goodIn_r _ [8, 9, 10, 11, 12, 13, 14, 15, 16, 17, 18, 19, 20, 21, 22, 23, 24, 25, 26, 27, 28, 29, 30, 31, 32, 33, 34, 35, 36, 37, 38, 55, 56, 57, 49, 50, 51, 52, 53, 54] (by decide +kernel) (by decide +kernel)
set_option maxRecDepth 20000 in
theorem gX7_laySlew_X1_keep : GoodIn wsX7_laySlew (wsV RX7 167 RX1 yX1_keep wsX1_keep) := goodIn_app (goodIn_of _ (by decide +kernel)) ggX7_laySlew_X1_keep
theorem dX7_laySlew_0 : decode cX7_laySlew 0 = .ok (.aload_n 0, 1) := by decide +kernel
theorem dX7_laySlew_1 : decode cX7_laySlew 1 = .ok (.getfield 39, 3) := by decide +kernel
theorem dX7_laySlew_4 : decode cX7_laySlew 4 = .ok (.aload_n 0, 1) := by decide +kernel
theorem dX7_laySlew_5 : decode cX7_laySlew 5 = .ok (.getfield 25, 3) := by decide +kernel
theorem dX7_laySlew_8 : decode cX7_laySlew 8 = .ok (.invokevirtual 167, 3) := by decide +kernel
theorem dX7_laySlew_11 : decode cX7_laySlew 11 = .ok (.aload_n 0, 1) := by decide +kernel
theorem dX7_laySlew_12 : decode cX7_laySlew 12 = .ok (.getfield 25, 3) := by decide +kernel
theorem dX7_laySlew_15 : decode cX7_laySlew 15 = .ok (.getfield 158, 3) := by decide +kernel
theorem dX7_laySlew_18 : decode cX7_laySlew 18 = .ok (.iload_n 1, 1) := by decide +kernel
theorem dX7_laySlew_19 : decode cX7_laySlew 19 = .ok (.iload_n 2, 1) := by decide +kernel
theorem dX7_laySlew_20 : decode cX7_laySlew 20 = .ok (.iastore, 1) := by decide +kernel
theorem dX7_laySlew_21 : decode cX7_laySlew 21 = .ok (.return_, 1) := by decide +kernel
def rmX7_laySlew : Room := { frames := 5, cells := 5, slots := 54, locals := 221 }
def wX7_laySlew (M : zM) (o0 : Nat) (x1 : Int32) (x2 : Int32) (Q : zM → Prop) : Prop :=
    wX1_keep M (o0 + 41) (o0 + 20) (fun M5 =>
    vp_in x1 12 ∧
    ∀ M6 : zM, M6 = va_up M5 ((o0 + 20) + 4) (upd (M5 ((o0 + 20) + 4)) x1.toNatClampNeg x2) →
    Q M6)
set_option maxHeartbeats 4000000 in
set_option maxRecDepth 100000 in
theorem kX7_laySlew {l : Launch} {D : va_G} {Y : zY} {ad kd : Nat → Nat} {RL : List Nat} {M : zM} {J : zL} {o0 : Nat} {x1 : Int32} {x2 : Int32} (h_o0 : kd o0 = 7) {Q : zM → Prop} (hq : wX7_laySlew M o0 x1 x2 Q) : zCva l yX7_laySlew wsX7_laySlew rmX7_laySlew [.ref (ad o0), .int x1, .int x2] D Y ad kd RL M J 5 54 (fun M' J' => Q M' ∧ J = J') := by
  refine z_metva (cc := cX7_laySlew) (maxL := 3) (ret := none) (by decide) rfl (Nat.le_of_ble_eq_true rfl) ?_
  intro p e s m below meth c ls A ar QE hQE hx hb hr hml hown hts hlk hw hl
  have hown : s.vm.findClass RX7 = some m.cls := hown
  have hl : lv_has ls 3 [(0, .ref (ad o0)), (1, .int x1), (2, .int x2)] := hl
  have hC := hw.2.2.2.2.2.1
  have hE0 : zE ad kd ad kd := zE.rf
  have g2 : ∀ w ∈ wsX20, w.before ar s = true := (fun w h => hts w (List.mem_cons_of_mem _ (List.mem_append_left _ (List.mem_append_right _ h))))
  have g7 : ∀ w ∈ wsX70, w.before ar s = true := (fun w h => hts w (List.mem_cons_of_mem _ (List.mem_append_left _ (List.mem_append_left _ (List.mem_append_right _ h)))))
  have q1 := hts _ (List.mem_of_getElem? (i := 1) rfl)
  have q2 := hts _ (List.mem_of_getElem? (i := 2) rfl)
  have q3 := hts _ (List.mem_of_getElem? (i := 3) rfl)
  unfold wX7_laySlew at hq
  refine lv_aload_n hx hb dX7_laySlew_0 rfl (lv_at hl 0 rfl) ?_
  refine zg7_history hx hb g7 hown hw h_o0 q1 dX7_laySlew_1 ?_
  refine lv_aload_n hx hb dX7_laySlew_4 rfl (lv_at hl 0 rfl) ?_
  refine zg7_rail hx hb g7 hown hw h_o0 q2 dX7_laySlew_5 ?_
  refine z_cav ⟨hx, hb, hml, hown, hts⟩ hw (zk_7_41 hC h_o0) (kX1_keep (zk_7_41 hC h_o0) (zk_7_20 hC h_o0) hq) (by decide) rfl (cwV 1 hts gX7_laySlew_X1_keep rfl rfl rfl (by decide +kernel) ⟨Nat.le_of_ble_eq_true rfl, Nat.le_of_ble_eq_true rfl⟩) rfl hl.1 rfl (Nat.le_of_ble_eq_true rfl) dX7_laySlew_8 ⟨Nat.le_of_ble_eq_true rfl, Nat.le_of_ble_eq_true rfl⟩ (fun ad kd RL M5 J0 H locs hq hE hw => ?_)
  obtain ⟨hq, rfl⟩ := hq
  have hA_o0 := (hE o0 (by rw [h_o0]; decide)).2
  have h_o0 := ((hE o0 (by rw [h_o0]; decide)).1).trans h_o0
  rw [← hA_o0] at hl
  have hC := hw.2.2.2.2.2.1
  have hE0 := hE0.tr hE
  refine lv_aload_n hx hb dX7_laySlew_11 rfl (lv_at hl 0 rfl) ?_
  refine zg7_rail hx hb g7 hown hw h_o0 q2 dX7_laySlew_12 ?_
  refine zg2_slews hx hb g2 hown hw (zk_7_20 hC h_o0) q3 dX7_laySlew_15 ?_
  refine lv_iload_n hx hb dX7_laySlew_18 rfl (lv_at hl 1 rfl) ?_
  refine lv_iload_n hx hb dX7_laySlew_19 rfl (lv_at hl 2 rfl) ?_
  obtain ⟨hi, hq⟩ := hq
  refine z_iast (n := 12) hx hb hw (zk_2_4 hC (zk_7_20 hC h_o0)) hi dX7_laySlew_20 (fun H locs hw => ?_)
  obtain ⟨M6, e_M6⟩ : ∃ y : zM, y = va_up M5 ((o0 + 20) + 4) (upd (M5 ((o0 + 20) + 4)) x1.toNatClampNeg x2) := ⟨_, rfl⟩
  rw [← e_M6] at hw
  have hq := hq M6 e_M6
  exact z_vreta hQE hx hb hr hlk hw hE0 (Nat.le_of_ble_eq_true rfl) (Nat.le_of_ble_eq_true rfl) dX7_laySlew_21 ⟨hq, rfl⟩
set_option maxRecDepth 20000 in
theorem ggX7_isPeg_X7_isWithin : GoodIn wsX7_isPeg wsX7_isWithin := goodIn_r _ [6] (by decide +kernel) (by decide +kernel)
set_option maxRecDepth 20000 in
theorem gX7_isPeg_X7_isWithin : GoodIn wsX7_isPeg (va_wsS RX7 70 yX7_isWithin wsX7_isWithin) := goodIn_app (goodIn_of _ (by decide +kernel)) ggX7_isPeg_X7_isWithin
theorem dX7_isPeg_0 : decode cX7_isPeg 0 = .ok (.iload_n 1, 1) := by decide +kernel
theorem dX7_isPeg_1 : decode cX7_isPeg 1 = .ok (.iconst 0, 1) := by decide +kernel
theorem dX7_isPeg_2 : decode cX7_isPeg 2 = .ok (.aload_n 0, 1) := by decide +kernel
theorem dX7_isPeg_3 : decode cX7_isPeg 3 = .ok (.getfield 25, 3) := by decide +kernel
theorem dX7_isPeg_6 : decode cX7_isPeg 6 = .ok (.getfield 140, 3) := by decide +kernel
theorem dX7_isPeg_9 : decode cX7_isPeg 9 = .ok (.iconst 1, 1) := by decide +kernel
theorem dX7_isPeg_10 : decode cX7_isPeg 10 = .ok (.isub, 1) := by decide +kernel
theorem dX7_isPeg_11 : decode cX7_isPeg 11 = .ok (.invokestatic 70, 3) := by decide +kernel
theorem dX7_isPeg_14 : decode cX7_isPeg 14 = .ok (.ireturn, 1) := by decide +kernel
def rmX7_isPeg : Room := { frames := 1, cells := 0, slots := 0, locals := 22 }
def wX7_isPeg (M : zM) (o0 : Nat) (x1 : Int32) (Q : Int32 → Prop) : Prop :=
    wX7_isWithin M x1 (0 : Int32) ((M (o0 + 20) 0) - (1 : Int32)) (fun r4 =>
    narrow .boolean (.int r4) = .int r4 ∧
    Q r4)
set_option maxHeartbeats 4000000 in
set_option maxRecDepth 100000 in
theorem kX7_isPeg {l : Launch} {D : va_G} {Y : zY} {ad kd : Nat → Nat} {RL : List Nat} {M : zM} {J : zL} {o0 : Nat} {x1 : Int32} (h_o0 : kd o0 = 7) {Q : Int32 → Prop} (hq : wX7_isPeg M o0 x1 Q) : zCi l yX7_isPeg wsX7_isPeg rmX7_isPeg [.ref (ad o0), .int x1] D Y ad kd RL M J (fun r M' J' => Q r ∧ M = M' ∧ J = J') := by
  refine z_meti (cc := cX7_isPeg) (maxL := 2) (ret := (some .boolean)) (by decide) rfl (Nat.le_of_ble_eq_true rfl) ?_
  intro p e s m below meth c ls A ar QE hQE hx hb hr hml hown hts hlk hw hl
  have hown : s.vm.findClass RX7 = some m.cls := hown
  have hl : lv_has ls 2 [(0, .ref (ad o0)), (1, .int x1)] := hl
  have hC := hw.2.2.2.2.2.1
  have g2 : ∀ w ∈ wsX20, w.before ar s = true := (fun w h => hts w (List.mem_cons_of_mem _ (List.mem_append_right _ h)))
  have g7 : ∀ w ∈ wsX70, w.before ar s = true := (fun w h => hts w (List.mem_cons_of_mem _ (List.mem_append_left _ (List.mem_append_right _ h))))
  have q1 := hts _ (List.mem_of_getElem? (i := 1) rfl)
  have q2 := hts _ (List.mem_of_getElem? (i := 2) rfl)
  unfold wX7_isPeg at hq
  refine lv_iload_n hx hb dX7_isPeg_0 rfl (lv_at hl 1 rfl) ?_
  refine lv_iconst (v := (0 : Int32)) hx hb dX7_isPeg_1 (by decide) ?_
  refine lv_aload_n hx hb dX7_isPeg_2 rfl (lv_at hl 0 rfl) ?_
  refine zg7_rail hx hb g7 hown hw h_o0 q1 dX7_isPeg_3 ?_
  refine zg2_pegs hx hb g2 hown hw (zk_7_20 hC h_o0) q2 dX7_isPeg_6 ?_
  refine lv_iconst (v := (1 : Int32)) hx hb dX7_isPeg_9 (by decide) ?_
  refine lv_isub hx hb dX7_isPeg_10 ?_
  refine z_csi ⟨hx, hb, hml, hown, hts⟩ hw (kX7_isWithin  hq) (va_cwS 3 hts gX7_isPeg_X7_isWithin rfl rfl rfl (by decide +kernel) ⟨Nat.le_of_ble_eq_true rfl, Nat.le_of_ble_eq_true rfl⟩) rfl hl.1 rfl (Nat.le_of_ble_eq_true rfl) dX7_isPeg_11 ⟨Nat.zero_le _, Nat.zero_le _⟩ (fun r4 M0 J0 H locs hq hw => ?_)
  obtain ⟨hq, rfl, rfl⟩ := hq
  obtain ⟨hn, hq⟩ := hq
  exact z_zret hQE hx hb hr hlk hw dX7_isPeg_14 hn ⟨hq, rfl, rfl⟩
set_option maxRecDepth 20000 in
theorem ggX7_lay_X7_isPeg : GoodIn wsX7_lay wsX7_isPeg := goodIn_r _ [13, 6, 14, 15, 16, 12, 17, 64, 65, 66, 67, 68, 69, 70, 71, 72, 73, 74, 75, 76, 77, 78, 79] (by decide +kernel) (by decide +kernel)
set_option maxRecDepth 20000 in
theorem gX7_lay_X7_isPeg : GoodIn wsX7_lay (wsV RX7 146 RX7 yX7_isPeg wsX7_isPeg) := goodIn_app (goodIn_of _ (by decide +kernel)) ggX7_lay_X7_isPeg
set_option maxRecDepth 20000 in
theorem ggX7_lay_X7_isWithin : GoodIn wsX7_lay wsX7_isWithin := goodIn_r _ [17] (by decide +kernel) (by decide +kernel)
set_option maxRecDepth 20000 in
theorem gX7_lay_X7_isWithin : GoodIn wsX7_lay (va_wsS RX7 70 yX7_isWithin wsX7_isWithin) := goodIn_app (goodIn_of _ (by decide +kernel)) ggX7_lay_X7_isWithin
set_option maxRecDepth 20000 in
theorem ggX7_lay_X2_reach : GoodIn wsX7_lay wsX2_reach := goodIn_r _ [22, 23, 24, 25, 26, 27, 4, 28, 74, 75, 76, 77, 78, 79] (by decide +kernel) (by decide +kernel)
set_option maxRecDepth 20000 in
theorem gX7_lay_X2_reach : GoodIn wsX7_lay (wsV RX7 154 RX2 yX2_reach wsX2_reach) := goodIn_app (goodIn_of _ (by decide +kernel)) ggX7_lay_X2_reach
set_option maxRecDepth 20000 in
theorem ggX7_lay_X7_laySlew : GoodIn wsX7_lay wsX7_laySlew := goodIn_r _ [32, 33, 6, 8, 34, 35, 36, 37, 38, 39, 40, 41, 42, 21, 43, 44, 45, 4, 46, 47, 48, 49, 50, 51, 23, 52, 53, 24, 54, 25, 55, 56, 57, 58, 59, 60, 61, 62, 63, 64, 65, 66, 67, 68, 69, 70, 71, 72, 73, 74, 75, 76, 77, 78, 79, 80, 81, 82] (by decide +kernel) (by decide +kernel)
set_option maxRecDepth 20000 in
theorem gX7_lay_X7_laySlew : GoodIn wsX7_lay (wsV RX7 161 RX7 yX7_laySlew wsX7_laySlew) := goodIn_app (goodIn_of _ (by decide +kernel)) ggX7_lay_X7_laySlew
theorem dX7_lay_0 : decode cX7_lay 0 = .ok (.aload_n 0, 1) := by decide +kernel
theorem dX7_lay_1 : decode cX7_lay 1 = .ok (.iload_n 1, 1) := by decide +kernel
theorem dX7_lay_2 : decode cX7_lay 2 = .ok (.invokevirtual 146, 3) := by decide +kernel
theorem dX7_lay_5 : decode cX7_lay 5 = .ok (.ifCond .eq 13, 3) := by decide +kernel
theorem dX7_lay_8 : decode cX7_lay 8 = .ok (.iload_n 2, 1) := by decide +kernel
theorem dX7_lay_9 : decode cX7_lay 9 = .ok (.bipush (-3), 2) := by decide +kernel
theorem dX7_lay_11 : decode cX7_lay 11 = .ok (.iconst 3, 1) := by decide +kernel
theorem dX7_lay_12 : decode cX7_lay 12 = .ok (.invokestatic 70, 3) := by decide +kernel
theorem dX7_lay_15 : decode cX7_lay 15 = .ok (.ifCond .ne 6, 3) := by decide +kernel
theorem dX7_lay_18 : decode cX7_lay 18 = .ok (.ldc 74, 2) := by decide +kernel
theorem dX7_lay_20 : decode cX7_lay 20 = .ok (.ireturn, 1) := by decide +kernel
theorem dX7_lay_21 : decode cX7_lay 21 = .ok (.iload_n 2, 1) := by decide +kernel
theorem dX7_lay_22 : decode cX7_lay 22 = .ok (.invokestatic 149, 3) := by decide +kernel
theorem dX7_lay_25 : decode cX7_lay 25 = .ok (.aload_n 0, 1) := by decide +kernel
theorem dX7_lay_26 : decode cX7_lay 26 = .ok (.getfield 25, 3) := by decide +kernel
theorem dX7_lay_29 : decode cX7_lay 29 = .ok (.iload_n 1, 1) := by decide +kernel
theorem dX7_lay_30 : decode cX7_lay 30 = .ok (.invokevirtual 154, 3) := by decide +kernel
theorem dX7_lay_33 : decode cX7_lay 33 = .ok (.if_icmp .le 6, 3) := by decide +kernel
theorem dX7_lay_36 : decode cX7_lay 36 = .ok (.ldc 157, 2) := by decide +kernel
theorem dX7_lay_38 : decode cX7_lay 38 = .ok (.ireturn, 1) := by decide +kernel
theorem dX7_lay_39 : decode cX7_lay 39 = .ok (.aload_n 0, 1) := by decide +kernel
theorem dX7_lay_40 : decode cX7_lay 40 = .ok (.getfield 25, 3) := by decide +kernel
theorem dX7_lay_43 : decode cX7_lay 43 = .ok (.getfield 158, 3) := by decide +kernel
theorem dX7_lay_46 : decode cX7_lay 46 = .ok (.iload_n 1, 1) := by decide +kernel
theorem dX7_lay_47 : decode cX7_lay 47 = .ok (.iaload, 1) := by decide +kernel
theorem dX7_lay_48 : decode cX7_lay 48 = .ok (.istore_n 3, 1) := by decide +kernel
theorem dX7_lay_49 : decode cX7_lay 49 = .ok (.aload_n 0, 1) := by decide +kernel
theorem dX7_lay_50 : decode cX7_lay 50 = .ok (.iload_n 1, 1) := by decide +kernel
theorem dX7_lay_51 : decode cX7_lay 51 = .ok (.iload_n 2, 1) := by decide +kernel
theorem dX7_lay_52 : decode cX7_lay 52 = .ok (.invokevirtual 161, 3) := by decide +kernel
theorem dX7_lay_55 : decode cX7_lay 55 = .ok (.iload_n 3, 1) := by decide +kernel
theorem dX7_lay_56 : decode cX7_lay 56 = .ok (.ireturn, 1) := by decide +kernel
def rmX7_lay : Room := { frames := 6, cells := 5, slots := 54, locals := 243 }
def wX7_lay (M : zM) (o0 : Nat) (x1 : Int32) (x2 : Int32) (Q : Int32 → zM → Prop) : Prop :=
    wX7_isPeg M o0 x1 (fun r5 =>
    ((r5 = 0) → (
    Q (-1000001 : Int32) M)) ∧
    ((¬ r5 = 0) → (
    wX7_isWithin M x2 (-3 : Int32) (3 : Int32) (fun r6 =>
    ((¬ r6 = 0) → (
    wX2_reach M (o0 + 20) x1 (fun r7 =>
    (((zabs x2) ≤ r7) → (
    vp_in x1 12 ∧
    wX7_laySlew M o0 x1 x2 (fun M8 =>
    Q (M ((o0 + 20) + 4) x1.toNatClampNeg) M8))) ∧
    ((¬ (zabs x2) ≤ r7) → (
    Q (-1000002 : Int32) M))))) ∧
    ((r6 = 0) → (
    Q (-1000001 : Int32) M))))))
set_option maxHeartbeats 4000000 in
set_option maxRecDepth 100000 in
theorem kX7_lay {l : Launch} {D : va_G} {Y : zY} {ad kd : Nat → Nat} {RL : List Nat} {M : zM} {J : zL} {o0 : Nat} {x1 : Int32} {x2 : Int32} (h_o0 : kd o0 = 7) {Q : Int32 → zM → Prop} (hq : wX7_lay M o0 x1 x2 Q) : zCia l yX7_lay wsX7_lay rmX7_lay [.ref (ad o0), .int x1, .int x2] D Y ad kd RL M J 5 54 (fun r M' J' => Q r M' ∧ J = J') := by
  refine z_metia (cc := cX7_lay) (maxL := 4) (ret := (some .int)) (by decide) rfl (Nat.le_of_ble_eq_true rfl) ?_
  intro p e s m below meth c ls A ar QE hQE hx hb hr hml hown hts hlk hw hl
  have hown : s.vm.findClass RX7 = some m.cls := hown
  have hl : lv_has ls 4 [(0, .ref (ad o0)), (1, .int x1), (2, .int x2)] := hl
  have hC := hw.2.2.2.2.2.1
  have hE0 : zE ad kd ad kd := zE.rf
  have g2 : ∀ w ∈ wsX20, w.before ar s = true := (fun w h => hts w (List.mem_cons_of_mem _ (List.mem_append_left _ (List.mem_append_right _ h))))
  have g7 : ∀ w ∈ wsX70, w.before ar s = true := (fun w h => hts w (List.mem_cons_of_mem _ (List.mem_append_left _ (List.mem_append_left _ (List.mem_append_right _ h)))))
  have q1 := hts _ (List.mem_of_getElem? (i := 1) rfl)
  have q2 := hts _ (List.mem_of_getElem? (i := 2) rfl)
  have q3 := hts _ (List.mem_of_getElem? (i := 3) rfl)
  have q4 := hts _ (List.mem_of_getElem? (i := 4) rfl)
  have q5 := hts _ (List.mem_of_getElem? (i := 5) rfl)
  have q6 := hts _ (List.mem_of_getElem? (i := 6) rfl)
  have q7 := hts _ (List.mem_of_getElem? (i := 7) rfl)
  have q8 := hts _ (List.mem_of_getElem? (i := 8) rfl)
  unfold wX7_lay at hq
  refine lv_aload_n hx hb dX7_lay_0 rfl (lv_at hl 0 rfl) ?_
  refine lv_iload_n hx hb dX7_lay_1 rfl (lv_at hl 1 rfl) ?_
  refine z_cvi ⟨hx, hb, hml, hown, hts⟩ hw h_o0 (kX7_isPeg h_o0 hq) (by decide) rfl (cwV 1 hts gX7_lay_X7_isPeg rfl rfl rfl (by decide +kernel) ⟨Nat.le_of_ble_eq_true rfl, Nat.le_of_ble_eq_true rfl⟩) rfl hl.1 rfl (Nat.le_of_ble_eq_true rfl) dX7_lay_2 ⟨Nat.zero_le _, Nat.zero_le _⟩ (fun r5 M0 J0 H locs hq hw => ?_)
  obtain ⟨hq, rfl, rfl⟩ := hq
  refine lv_if_eq (tgt := 18) hx hb dX7_lay_5 (by decide) (fun hc => ?_) (fun hc => ?_)
  · have hq := hq.1 hc
    refine lv_ldc (v := (-1000001 : Int32)) hx hb hown q1 dX7_lay_18 ?_
    exact z_ireta hQE hx hb hr hlk hw hE0 (Nat.le_of_ble_eq_true rfl) (Nat.le_of_ble_eq_true rfl) dX7_lay_20 ⟨hq, rfl⟩
  · have hq := hq.2 hc
    refine lv_iload_n hx hb dX7_lay_8 rfl (lv_at hl 2 rfl) ?_
    refine lv_bipush (v := (-3 : Int32)) hx hb dX7_lay_9 (by decide) ?_
    refine lv_iconst (v := (3 : Int32)) hx hb dX7_lay_11 (by decide) ?_
    refine z_csi ⟨hx, hb, hml, hown, hts⟩ hw (kX7_isWithin  hq) (va_cwS 3 hts gX7_lay_X7_isWithin rfl rfl rfl (by decide +kernel) ⟨Nat.le_of_ble_eq_true rfl, Nat.le_of_ble_eq_true rfl⟩) rfl hl.1 rfl (Nat.le_of_ble_eq_true rfl) dX7_lay_12 ⟨Nat.zero_le _, Nat.zero_le _⟩ (fun r6 M0 J0 H locs hq hw => ?_)
    obtain ⟨hq, rfl, rfl⟩ := hq
    refine lv_if_ne (tgt := 21) hx hb dX7_lay_15 (by decide) (fun hc => ?_) (fun hc => ?_)
    · have hq := hq.1 hc
      refine lv_iload_n hx hb dX7_lay_21 rfl (lv_at hl 2 rfl) ?_
      refine va_mabs hx hb (hml.trans hl.1.symm) hown q2 q3 q4 q5 (Nat.le_of_ble_eq_true rfl) (Nat.le_of_ble_eq_true rfl) (Nat.zero_le _) (Nat.zero_le _) dX7_lay_22 ?_
      refine lv_aload_n hx hb dX7_lay_25 rfl (lv_at hl 0 rfl) ?_
      refine zg7_rail hx hb g7 hown hw h_o0 q6 dX7_lay_26 ?_
      refine lv_iload_n hx hb dX7_lay_29 rfl (lv_at hl 1 rfl) ?_
      refine z_cvi ⟨hx, hb, hml, hown, hts⟩ hw (zk_7_20 hC h_o0) (kX2_reach (zk_7_20 hC h_o0) hq) (by decide) rfl (cwV 1 hts gX7_lay_X2_reach rfl rfl rfl (by decide +kernel) ⟨Nat.le_of_ble_eq_true rfl, Nat.le_of_ble_eq_true rfl⟩) rfl hl.1 rfl (Nat.le_of_ble_eq_true rfl) dX7_lay_30 ⟨Nat.zero_le _, Nat.zero_le _⟩ (fun r7 M0 J0 H locs hq hw => ?_)
      obtain ⟨hq, rfl, rfl⟩ := hq
      refine lv_icmp_le (tgt := 39) hx hb dX7_lay_33 (by decide) (fun hc => ?_) (fun hc => ?_)
      · have hq := hq.1 hc
        refine lv_aload_n hx hb dX7_lay_39 rfl (lv_at hl 0 rfl) ?_
        refine zg7_rail hx hb g7 hown hw h_o0 q6 dX7_lay_40 ?_
        refine zg2_slews hx hb g2 hown hw (zk_7_20 hC h_o0) q8 dX7_lay_43 ?_
        refine lv_iload_n hx hb dX7_lay_46 rfl (lv_at hl 1 rfl) ?_
        obtain ⟨hi, hq⟩ := hq
        refine z_iald (n := 12) hx hb hw (zk_2_4 hC (zk_7_20 hC h_o0)) hi dX7_lay_47 ?_
        refine lv_istore_n (lv' := [(3, .int (M ((o0 + 20) + 4) x1.toNatClampNeg)), (0, .ref (ad o0)), (1, .int x1), (2, .int x2)]) hx hb dX7_lay_48 rfl hl (by decide) rfl (fun ls hl => ?_)
        refine lv_aload_n hx hb dX7_lay_49 rfl (lv_at hl 1 rfl) ?_
        refine lv_iload_n hx hb dX7_lay_50 rfl (lv_at hl 2 rfl) ?_
        refine lv_iload_n hx hb dX7_lay_51 rfl (lv_at hl 3 rfl) ?_
        refine z_cav ⟨hx, hb, hml, hown, hts⟩ hw h_o0 (kX7_laySlew h_o0 hq) (by decide) rfl (cwV 2 hts gX7_lay_X7_laySlew rfl rfl rfl (by decide +kernel) ⟨Nat.le_of_ble_eq_true rfl, Nat.le_of_ble_eq_true rfl⟩) rfl hl.1 rfl (Nat.le_of_ble_eq_true rfl) dX7_lay_52 ⟨Nat.le_of_ble_eq_true rfl, Nat.le_of_ble_eq_true rfl⟩ (fun ad kd RL M8 J0 H locs hq hE hw => ?_)
        obtain ⟨hq, rfl⟩ := hq
        have hA_o0 := (hE o0 (by rw [h_o0]; decide)).2
        have h_o0 := ((hE o0 (by rw [h_o0]; decide)).1).trans h_o0
        rw [← hA_o0] at hl
        have hC := hw.2.2.2.2.2.1
        have hE0 := hE0.tr hE
        refine lv_iload_n hx hb dX7_lay_55 rfl (lv_at hl 0 rfl) ?_
        exact z_ireta hQE hx hb hr hlk hw hE0 (Nat.le_of_ble_eq_true rfl) (Nat.le_of_ble_eq_true rfl) dX7_lay_56 ⟨hq, rfl⟩
      · have hq := hq.2 hc
        refine lv_ldc (v := (-1000002 : Int32)) hx hb hown q7 dX7_lay_36 ?_
        exact z_ireta hQE hx hb hr hlk hw hE0 (Nat.le_of_ble_eq_true rfl) (Nat.le_of_ble_eq_true rfl) dX7_lay_38 ⟨hq, rfl⟩
    · have hq := hq.2 hc
      refine lv_ldc (v := (-1000001 : Int32)) hx hb hown q1 dX7_lay_18 ?_
      exact z_ireta hQE hx hb hr hlk hw hE0 (Nat.le_of_ble_eq_true rfl) (Nat.le_of_ble_eq_true rfl) dX7_lay_20 ⟨hq, rfl⟩
set_option maxRecDepth 20000 in
theorem ggX7_work_X2_isThere : GoodIn wsX7_work wsX2_isThere := goodIn_r _ [9, 10, 93, 94, 95, 96, 97, 98] (by decide +kernel) (by decide +kernel)
set_option maxRecDepth 20000 in
theorem gX7_work_X2_isThere : GoodIn wsX7_work (wsV RX7 164 RX2 yX2_isThere wsX2_isThere) := goodIn_app (goodIn_of _ (by decide +kernel)) ggX7_work_X2_isThere
set_option maxRecDepth 20000 in
theorem ggX7_work_X1_keep : GoodIn wsX7_work wsX1_keep := goodIn_r _ [15, 16, 17, 18, 19, 8, 20, 21, 22, 23, 24, 25, 26, 27, 28, 29, 10, 30, 31, 32, 33, 34, 35, 36, 37, 38, 39, 40, 41, 42, 43, 99, 100, 101, 93, 94, 95, 96, 97, 98] (by decide +kernel) (by decide +kernel)
set_option maxRecDepth 20000 in
theorem gX7_work_X1_keep : GoodIn wsX7_work (wsV RX7 167 RX1 yX1_keep wsX1_keep) := goodIn_app (goodIn_of _ (by decide +kernel)) ggX7_work_X1_keep
set_option maxRecDepth 20000 in
theorem ggX7_work_X2_moved : GoodIn wsX7_work wsX2_moved := goodIn_r _ [47, 10, 35, 48, 49, 23, 50, 93, 94, 95, 96, 97, 98] (by decide +kernel) (by decide +kernel)
set_option maxRecDepth 20000 in
theorem gX7_work_X2_moved : GoodIn wsX7_work (wsV RX7 170 RX2 yX2_moved wsX2_moved) := goodIn_app (goodIn_of _ (by decide +kernel)) ggX7_work_X2_moved
set_option maxRecDepth 20000 in
theorem ggX7_work_X2_workIn : GoodIn wsX7_work wsX2_workIn := goodIn_r _ [54, 10, 35, 33, 55, 22, 23, 24, 56, 57, 58, 59, 60, 61, 8, 62, 63, 64, 65, 66, 67, 68, 69, 70, 32, 71, 72, 73, 74, 75, 76, 77, 78, 79, 80, 81, 82, 93, 94, 95, 96, 97, 98] (by decide +kernel) (by decide +kernel)
set_option maxRecDepth 20000 in
theorem gX7_work_X2_workIn : GoodIn wsX7_work (wsV RX7 173 RX2 yX2_workIn wsX2_workIn) := goodIn_app (goodIn_of _ (by decide +kernel)) ggX7_work_X2_workIn
theorem dX7_work_0 : decode cX7_work 0 = .ok (.aload_n 0, 1) := by decide +kernel
theorem dX7_work_1 : decode cX7_work 1 = .ok (.getfield 25, 3) := by decide +kernel
theorem dX7_work_4 : decode cX7_work 4 = .ok (.invokevirtual 164, 3) := by decide +kernel
theorem dX7_work_7 : decode cX7_work 7 = .ok (.ifCond .ne 6, 3) := by decide +kernel
theorem dX7_work_10 : decode cX7_work 10 = .ok (.ldc 157, 2) := by decide +kernel
theorem dX7_work_12 : decode cX7_work 12 = .ok (.ireturn, 1) := by decide +kernel
theorem dX7_work_13 : decode cX7_work 13 = .ok (.aload_n 0, 1) := by decide +kernel
theorem dX7_work_14 : decode cX7_work 14 = .ok (.getfield 39, 3) := by decide +kernel
theorem dX7_work_17 : decode cX7_work 17 = .ok (.aload_n 0, 1) := by decide +kernel
theorem dX7_work_18 : decode cX7_work 18 = .ok (.getfield 25, 3) := by decide +kernel
theorem dX7_work_21 : decode cX7_work 21 = .ok (.invokevirtual 167, 3) := by decide +kernel
theorem dX7_work_24 : decode cX7_work 24 = .ok (.aload_n 0, 1) := by decide +kernel
theorem dX7_work_25 : decode cX7_work 25 = .ok (.getfield 25, 3) := by decide +kernel
theorem dX7_work_28 : decode cX7_work 28 = .ok (.invokevirtual 170, 3) := by decide +kernel
theorem dX7_work_31 : decode cX7_work 31 = .ok (.istore_n 1, 1) := by decide +kernel
theorem dX7_work_32 : decode cX7_work 32 = .ok (.aload_n 0, 1) := by decide +kernel
theorem dX7_work_33 : decode cX7_work 33 = .ok (.getfield 25, 3) := by decide +kernel
theorem dX7_work_36 : decode cX7_work 36 = .ok (.invokevirtual 173, 3) := by decide +kernel
theorem dX7_work_39 : decode cX7_work 39 = .ok (.aload_n 0, 1) := by decide +kernel
theorem dX7_work_40 : decode cX7_work 40 = .ok (.getfield 25, 3) := by decide +kernel
theorem dX7_work_43 : decode cX7_work 43 = .ok (.getfield 176, 3) := by decide +kernel
theorem dX7_work_46 : decode cX7_work 46 = .ok (.sipush 999, 3) := by decide +kernel
theorem dX7_work_49 : decode cX7_work 49 = .ok (.if_icmp .ge 16, 3) := by decide +kernel
theorem dX7_work_52 : decode cX7_work 52 = .ok (.aload_n 0, 1) := by decide +kernel
theorem dX7_work_53 : decode cX7_work 53 = .ok (.getfield 25, 3) := by decide +kernel
theorem dX7_work_56 : decode cX7_work 56 = .ok (.dup, 1) := by decide +kernel
theorem dX7_work_57 : decode cX7_work 57 = .ok (.getfield 176, 3) := by decide +kernel
theorem dX7_work_60 : decode cX7_work 60 = .ok (.iconst 1, 1) := by decide +kernel
theorem dX7_work_61 : decode cX7_work 61 = .ok (.iadd, 1) := by decide +kernel
theorem dX7_work_62 : decode cX7_work 62 = .ok (.putfield 176, 3) := by decide +kernel
theorem dX7_work_65 : decode cX7_work 65 = .ok (.iload_n 1, 1) := by decide +kernel
theorem dX7_work_66 : decode cX7_work 66 = .ok (.ireturn, 1) := by decide +kernel
def rmX7_work : Room := { frames := 5, cells := 5, slots := 54, locals := 221 }
def wX7_work (M : zM) (o0 : Nat) (Q : Int32 → zM → Prop) : Prop :=
    wX2_isThere M (o0 + 20) (fun r3 =>
    ((¬ r3 = 0) → (
    wX1_keep M (o0 + 41) (o0 + 20) (fun M4 =>
    wX2_moved M4 (o0 + 20) (fun r5 =>
    wX2_workIn M4 (o0 + 20) (fun M6 =>
    (((999 : Int32) ≤ (M6 (o0 + 20) 1)) → (
    Q r5 M6)) ∧
    ((¬ (999 : Int32) ≤ (M6 (o0 + 20) 1)) → (
    ∀ M7 : zM, M7 = va_up M6 (o0 + 20) (upd (M6 (o0 + 20)) 1 ((M6 (o0 + 20) 1) + (1 : Int32))) →
    Q r5 M7))))))) ∧
    ((r3 = 0) → (
    Q (-1000002 : Int32) M)))
set_option maxHeartbeats 4000000 in
set_option maxRecDepth 100000 in
theorem kX7_work {l : Launch} {D : va_G} {Y : zY} {ad kd : Nat → Nat} {RL : List Nat} {M : zM} {J : zL} {o0 : Nat} (h_o0 : kd o0 = 7) {Q : Int32 → zM → Prop} (hq : wX7_work M o0 Q) : zCia l yX7_work wsX7_work rmX7_work [.ref (ad o0)] D Y ad kd RL M J 5 54 (fun r M' J' => Q r M' ∧ J = J') := by
  refine z_metia (cc := cX7_work) (maxL := 2) (ret := (some .int)) (by decide) rfl (Nat.le_of_ble_eq_true rfl) ?_
  intro p e s m below meth c ls A ar QE hQE hx hb hr hml hown hts hlk hw hl
  have hown : s.vm.findClass RX7 = some m.cls := hown
  have hl : lv_has ls 2 [(0, .ref (ad o0))] := hl
  have hC := hw.2.2.2.2.2.1
  have hE0 : zE ad kd ad kd := zE.rf
  have g2 : ∀ w ∈ wsX20, w.before ar s = true := (fun w h => hts w (List.mem_cons_of_mem _ (List.mem_append_left _ (List.mem_append_right _ h))))
  have g7 : ∀ w ∈ wsX70, w.before ar s = true := (fun w h => hts w (List.mem_cons_of_mem _ (List.mem_append_left _ (List.mem_append_left _ (List.mem_append_right _ h)))))
  have q1 := hts _ (List.mem_of_getElem? (i := 1) rfl)
  have q2 := hts _ (List.mem_of_getElem? (i := 2) rfl)
  have q3 := hts _ (List.mem_of_getElem? (i := 3) rfl)
  have q4 := hts _ (List.mem_of_getElem? (i := 4) rfl)
  unfold wX7_work at hq
  refine lv_aload_n hx hb dX7_work_0 rfl (lv_at hl 0 rfl) ?_
  refine zg7_rail hx hb g7 hown hw h_o0 q1 dX7_work_1 ?_
  refine z_cvi ⟨hx, hb, hml, hown, hts⟩ hw (zk_7_20 hC h_o0) (kX2_isThere (zk_7_20 hC h_o0) hq) (by decide) rfl (cwV 0 hts gX7_work_X2_isThere rfl rfl rfl (by decide +kernel) ⟨Nat.le_of_ble_eq_true rfl, Nat.le_of_ble_eq_true rfl⟩) rfl hl.1 rfl (Nat.le_of_ble_eq_true rfl) dX7_work_4 ⟨Nat.zero_le _, Nat.zero_le _⟩ (fun r3 M0 J0 H locs hq hw => ?_)
  obtain ⟨hq, rfl, rfl⟩ := hq
  refine lv_if_ne (tgt := 13) hx hb dX7_work_7 (by decide) (fun hc => ?_) (fun hc => ?_)
  · have hq := hq.1 hc
    refine lv_aload_n hx hb dX7_work_13 rfl (lv_at hl 0 rfl) ?_
    refine zg7_history hx hb g7 hown hw h_o0 q3 dX7_work_14 ?_
    refine lv_aload_n hx hb dX7_work_17 rfl (lv_at hl 0 rfl) ?_
    refine zg7_rail hx hb g7 hown hw h_o0 q1 dX7_work_18 ?_
    refine z_cav ⟨hx, hb, hml, hown, hts⟩ hw (zk_7_41 hC h_o0) (kX1_keep (zk_7_41 hC h_o0) (zk_7_20 hC h_o0) hq) (by decide) rfl (cwV 1 hts gX7_work_X1_keep rfl rfl rfl (by decide +kernel) ⟨Nat.le_of_ble_eq_true rfl, Nat.le_of_ble_eq_true rfl⟩) rfl hl.1 rfl (Nat.le_of_ble_eq_true rfl) dX7_work_21 ⟨Nat.le_of_ble_eq_true rfl, Nat.le_of_ble_eq_true rfl⟩ (fun ad kd RL M4 J0 H locs hq hE hw => ?_)
    obtain ⟨hq, rfl⟩ := hq
    have hA_o0 := (hE o0 (by rw [h_o0]; decide)).2
    have h_o0 := ((hE o0 (by rw [h_o0]; decide)).1).trans h_o0
    rw [← hA_o0] at hl
    have hC := hw.2.2.2.2.2.1
    have hE0 := hE0.tr hE
    refine lv_aload_n hx hb dX7_work_24 rfl (lv_at hl 0 rfl) ?_
    refine zg7_rail hx hb g7 hown hw h_o0 q1 dX7_work_25 ?_
    refine z_cvi ⟨hx, hb, hml, hown, hts⟩ hw (zk_7_20 hC h_o0) (kX2_moved (zk_7_20 hC h_o0) hq) (by decide) rfl (cwV 0 hts gX7_work_X2_moved rfl rfl rfl (by decide +kernel) ⟨Nat.le_of_ble_eq_true rfl, Nat.le_of_ble_eq_true rfl⟩) rfl hl.1 rfl (Nat.le_of_ble_eq_true rfl) dX7_work_28 ⟨Nat.le_of_ble_eq_true rfl, Nat.le_of_ble_eq_true rfl⟩ (fun r5 M0 J0 H locs hq hw => ?_)
    obtain ⟨hq, rfl, rfl⟩ := hq
    refine lv_istore_n (lv' := [(1, .int r5), (0, .ref (ad o0))]) hx hb dX7_work_31 rfl hl (by decide) rfl (fun ls hl => ?_)
    refine lv_aload_n hx hb dX7_work_32 rfl (lv_at hl 1 rfl) ?_
    refine zg7_rail hx hb g7 hown hw h_o0 q1 dX7_work_33 ?_
    refine z_cvv ⟨hx, hb, hml, hown, hts⟩ hw (zk_7_20 hC h_o0) (kX2_workIn (zk_7_20 hC h_o0) hq) (by decide) rfl (cwV 0 hts gX7_work_X2_workIn rfl rfl rfl (by decide +kernel) ⟨Nat.le_of_ble_eq_true rfl, Nat.le_of_ble_eq_true rfl⟩) rfl hl.1 rfl (Nat.le_of_ble_eq_true rfl) dX7_work_36 ⟨Nat.le_of_ble_eq_true rfl, Nat.le_of_ble_eq_true rfl⟩ (fun M6 J0 H locs hq hw => ?_)
    obtain ⟨hq, rfl⟩ := hq
    refine lv_aload_n hx hb dX7_work_39 rfl (lv_at hl 1 rfl) ?_
    refine zg7_rail hx hb g7 hown hw h_o0 q1 dX7_work_40 ?_
    refine zg2_worked hx hb g2 hown hw (zk_7_20 hC h_o0) q4 dX7_work_43 ?_
    refine lv_sipush (v := (999 : Int32)) hx hb dX7_work_46 (by decide) ?_
    refine lv_icmp_ge (tgt := 65) hx hb dX7_work_49 (by decide) (fun hc => ?_) (fun hc => ?_)
    · have hq := hq.1 hc
      refine lv_iload_n hx hb dX7_work_65 rfl (lv_at hl 0 rfl) ?_
      exact z_ireta hQE hx hb hr hlk hw hE0 (Nat.le_of_ble_eq_true rfl) (Nat.le_of_ble_eq_true rfl) dX7_work_66 ⟨hq, rfl⟩
    · have hq := hq.2 hc
      refine lv_aload_n hx hb dX7_work_52 rfl (lv_at hl 1 rfl) ?_
      refine zg7_rail hx hb g7 hown hw h_o0 q1 dX7_work_53 ?_
      refine lv_dup hx hb dX7_work_56 rfl ?_
      refine zg2_worked hx hb g2 hown hw (zk_7_20 hC h_o0) q4 dX7_work_57 ?_
      refine lv_iconst (v := (1 : Int32)) hx hb dX7_work_60 (by decide) ?_
      refine lv_iadd hx hb dX7_work_61 ?_
      refine zp2_worked hx hb g2 hown hw (zk_7_20 hC h_o0) q4 dX7_work_62 (fun H locs hw => ?_)
      obtain ⟨M7, e_M7⟩ : ∃ y : zM, y = va_up M6 (o0 + 20) (upd (M6 (o0 + 20)) 1 ((M6 (o0 + 20) 1) + (1 : Int32))) := ⟨_, rfl⟩
      rw [← e_M7] at hw
      have hq := hq M7 e_M7
      refine lv_iload_n hx hb dX7_work_65 rfl (lv_at hl 0 rfl) ?_
      exact z_ireta hQE hx hb hr hlk hw hE0 (Nat.le_of_ble_eq_true rfl) (Nat.le_of_ble_eq_true rfl) dX7_work_66 ⟨hq, rfl⟩
  · have hq := hq.2 hc
    refine lv_ldc (v := (-1000002 : Int32)) hx hb hown q2 dX7_work_10 ?_
    exact z_ireta hQE hx hb hr hlk hw hE0 (Nat.le_of_ble_eq_true rfl) (Nat.le_of_ble_eq_true rfl) dX7_work_12 ⟨hq, rfl⟩
set_option maxRecDepth 20000 in
theorem ggX7_gang_X7_isPeg : GoodIn wsX7_gang wsX7_isPeg := goodIn_r _ [12, 2, 3, 13, 14, 11, 15, 89, 90, 91, 92, 93, 94, 95, 96, 97, 98, 99, 100, 101, 102, 103, 104] (by decide +kernel) (by decide +kernel)
set_option maxRecDepth 20000 in
theorem gX7_gang_X7_isPeg : GoodIn wsX7_gang (wsV RX7 146 RX7 yX7_isPeg wsX7_isPeg) := goodIn_app (goodIn_of _ (by decide +kernel)) ggX7_gang_X7_isPeg
set_option maxRecDepth 20000 in
theorem ggX7_gang_X7_isWithin : GoodIn wsX7_gang wsX7_isWithin := goodIn_r _ [15] (by decide +kernel) (by decide +kernel)
set_option maxRecDepth 20000 in
theorem gX7_gang_X7_isWithin : GoodIn wsX7_gang (va_wsS RX7 70 yX7_isWithin wsX7_isWithin) := goodIn_app (goodIn_of _ (by decide +kernel)) ggX7_gang_X7_isWithin
set_option maxRecDepth 20000 in
theorem ggX7_gang_X2_evenestSlew : GoodIn wsX7_gang wsX2_evenestSlew := goodIn_r _ [20, 21, 22, 23, 6, 24, 25, 26, 27, 28, 19, 29, 30, 31, 32, 33, 34, 35, 36, 37, 38, 39, 40, 41, 42, 43, 44, 45, 46, 47, 48, 49, 50, 51, 52, 99, 100, 101, 102, 103, 104] (by decide +kernel) (by decide +kernel)
set_option maxRecDepth 20000 in
theorem gX7_gang_X2_evenestSlew : GoodIn wsX7_gang (wsV RX7 182 RX2 yX2_evenestSlew wsX2_evenestSlew) := goodIn_app (goodIn_of _ (by decide +kernel)) ggX7_gang_X2_evenestSlew
set_option maxRecDepth 20000 in
theorem ggX7_gang_X7_laySlew : GoodIn wsX7_gang wsX7_laySlew := goodIn_r _ [56, 57, 2, 58, 59, 60, 61, 62, 63, 64, 65, 66, 67, 19, 68, 69, 5, 6, 7, 70, 71, 72, 73, 74, 30, 75, 76, 31, 48, 32, 21, 77, 78, 79, 80, 81, 82, 83, 84, 89, 90, 91, 92, 93, 94, 95, 96, 97, 98, 99, 100, 101, 102, 103, 104, 105, 106, 107] (by decide +kernel) (by decide +kernel)
set_option maxRecDepth 20000 in
theorem gX7_gang_X7_laySlew : GoodIn wsX7_gang (wsV RX7 161 RX7 yX7_laySlew wsX7_laySlew) := goodIn_app (goodIn_of _ (by decide +kernel)) ggX7_gang_X7_laySlew
set_option maxRecDepth 20000 in
theorem ggX7_gang_X2_worst : GoodIn wsX7_gang wsX2_worst := goodIn_r _ [88, 30, 22, 23, 6, 24, 33, 34, 35, 19, 36, 37, 38, 39, 40, 41, 42, 43, 31, 44, 45, 46, 47, 48, 21, 49, 50, 51, 52, 99, 100, 101, 102, 103, 104] (by decide +kernel) (by decide +kernel)
set_option maxRecDepth 20000 in
theorem gX7_gang_X2_worst : GoodIn wsX7_gang (wsV RX7 185 RX2 yX2_worst wsX2_worst) := goodIn_app (goodIn_of _ (by decide +kernel)) ggX7_gang_X2_worst
theorem dX7_gang_0 : decode cX7_gang 0 = .ok (.aload_n 0, 1) := by decide +kernel
theorem dX7_gang_1 : decode cX7_gang 1 = .ok (.iload_n 1, 1) := by decide +kernel
theorem dX7_gang_2 : decode cX7_gang 2 = .ok (.invokevirtual 146, 3) := by decide +kernel
theorem dX7_gang_5 : decode cX7_gang 5 = .ok (.ifCond .eq 13, 3) := by decide +kernel
theorem dX7_gang_8 : decode cX7_gang 8 = .ok (.iload_n 2, 1) := by decide +kernel
theorem dX7_gang_9 : decode cX7_gang 9 = .ok (.iconst 1, 1) := by decide +kernel
theorem dX7_gang_10 : decode cX7_gang 10 = .ok (.bipush 12, 2) := by decide +kernel
theorem dX7_gang_12 : decode cX7_gang 12 = .ok (.invokestatic 70, 3) := by decide +kernel
theorem dX7_gang_15 : decode cX7_gang 15 = .ok (.ifCond .ne 6, 3) := by decide +kernel
theorem dX7_gang_18 : decode cX7_gang 18 = .ok (.ldc 74, 2) := by decide +kernel
theorem dX7_gang_20 : decode cX7_gang 20 = .ok (.ireturn, 1) := by decide +kernel
theorem dX7_gang_21 : decode cX7_gang 21 = .ok (.iload_n 1, 1) := by decide +kernel
theorem dX7_gang_22 : decode cX7_gang 22 = .ok (.iload_n 2, 1) := by decide +kernel
theorem dX7_gang_23 : decode cX7_gang 23 = .ok (.iadd, 1) := by decide +kernel
theorem dX7_gang_24 : decode cX7_gang 24 = .ok (.aload_n 0, 1) := by decide +kernel
theorem dX7_gang_25 : decode cX7_gang 25 = .ok (.getfield 25, 3) := by decide +kernel
theorem dX7_gang_28 : decode cX7_gang 28 = .ok (.getfield 140, 3) := by decide +kernel
theorem dX7_gang_31 : decode cX7_gang 31 = .ok (.invokestatic 179, 3) := by decide +kernel
theorem dX7_gang_34 : decode cX7_gang 34 = .ok (.istore_n 3, 1) := by decide +kernel
theorem dX7_gang_35 : decode cX7_gang 35 = .ok (.iload_n 1, 1) := by decide +kernel
theorem dX7_gang_36 : decode cX7_gang 36 = .ok (.istore 4, 2) := by decide +kernel
theorem dX7_gang_38 : decode cX7_gang 38 = .ok (.iload 4, 2) := by decide +kernel
theorem dX7_gang_40 : decode cX7_gang 40 = .ok (.iload_n 3, 1) := by decide +kernel
theorem dX7_gang_41 : decode cX7_gang 41 = .ok (.if_icmp .ge 24, 3) := by decide +kernel
theorem dX7_gang_44 : decode cX7_gang 44 = .ok (.aload_n 0, 1) := by decide +kernel
theorem dX7_gang_45 : decode cX7_gang 45 = .ok (.iload 4, 2) := by decide +kernel
theorem dX7_gang_47 : decode cX7_gang 47 = .ok (.aload_n 0, 1) := by decide +kernel
theorem dX7_gang_48 : decode cX7_gang 48 = .ok (.getfield 25, 3) := by decide +kernel
theorem dX7_gang_51 : decode cX7_gang 51 = .ok (.iload 4, 2) := by decide +kernel
theorem dX7_gang_53 : decode cX7_gang 53 = .ok (.invokevirtual 182, 3) := by decide +kernel
theorem dX7_gang_56 : decode cX7_gang 56 = .ok (.invokevirtual 161, 3) := by decide +kernel
theorem dX7_gang_59 : decode cX7_gang 59 = .ok (.iinc 4 1, 3) := by decide +kernel
theorem dX7_gang_62 : decode cX7_gang 62 = .ok (.goto (-24), 3) := by decide +kernel
theorem dX7_gang_65 : decode cX7_gang 65 = .ok (.aload_n 0, 1) := by decide +kernel
theorem dX7_gang_66 : decode cX7_gang 66 = .ok (.getfield 25, 3) := by decide +kernel
theorem dX7_gang_69 : decode cX7_gang 69 = .ok (.invokevirtual 185, 3) := by decide +kernel
theorem dX7_gang_72 : decode cX7_gang 72 = .ok (.ireturn, 1) := by decide +kernel
def rmX7_gang : Room := { frames := 6, cells := 65, slots := 702, locals := 243 }
def lpX7_gang_38 (M : zM) (o0 : Nat) (x1 : Int32) (x2 : Int32) (Q : Int32 → zM → Prop) : Nat → Int32 → zM → Prop
  | 0, _, _ => False
  | fu38 + 1, x7, M8 =>
    (((zmin (x1 + x2) (M (o0 + 20) 0)) ≤ x7) → (
    wX2_worst M8 (o0 + 20) (fun r9 =>
    Q r9 M8))) ∧
    ((¬ (zmin (x1 + x2) (M (o0 + 20) 0)) ≤ x7) → (
    wX2_evenestSlew M8 (o0 + 20) x7 (fun r10 M11 =>
    wX7_laySlew M11 o0 x7 r10 (fun M12 =>
    ∀ x13 : Int32, x13 = x7 + (1 : Int32) →
    lpX7_gang_38 M o0 x1 x2 Q fu38 x13 M12))))
def wX7_gang (M : zM) (o0 : Nat) (x1 : Int32) (x2 : Int32) (Q : Int32 → zM → Prop) : Prop :=
    wX7_isPeg M o0 x1 (fun r5 =>
    ((r5 = 0) → (
    Q (-1000001 : Int32) M)) ∧
    ((¬ r5 = 0) → (
    wX7_isWithin M x2 (1 : Int32) (12 : Int32) (fun r6 =>
    ((¬ r6 = 0) → (
    ∃ fu38 : Nat, fu38 ≤ 13 ∧ lpX7_gang_38 M o0 x1 x2 Q fu38 x1 M)) ∧
    ((r6 = 0) → (
    Q (-1000001 : Int32) M))))))
set_option maxHeartbeats 4000000 in
set_option maxRecDepth 100000 in
theorem kX7_gang {l : Launch} {D : va_G} {Y : zY} {ad kd : Nat → Nat} {RL : List Nat} {M : zM} {J : zL} {o0 : Nat} {x1 : Int32} {x2 : Int32} (h_o0 : kd o0 = 7) {Q : Int32 → zM → Prop} (hq : wX7_gang M o0 x1 x2 Q) : zCia l yX7_gang wsX7_gang rmX7_gang [.ref (ad o0), .int x1, .int x2] D Y ad kd RL M J 65 702 (fun r M' J' => Q r M' ∧ J = J') := by
  refine z_metia (cc := cX7_gang) (maxL := 5) (ret := (some .int)) (by decide) rfl (Nat.le_of_ble_eq_true rfl) ?_
  intro p e s m below meth c ls A ar QE hQE hx hb hr hml hown hts hlk hw hl
  have hown : s.vm.findClass RX7 = some m.cls := hown
  have hl : lv_has ls 5 [(0, .ref (ad o0)), (1, .int x1), (2, .int x2)] := hl
  have hC := hw.2.2.2.2.2.1
  have hE0 : zE ad kd ad kd := zE.rf
  have g2 : ∀ w ∈ wsX20, w.before ar s = true := (fun w h => hts w (List.mem_cons_of_mem _ (List.mem_append_left _ (List.mem_append_right _ h))))
  have g7 : ∀ w ∈ wsX70, w.before ar s = true := (fun w h => hts w (List.mem_cons_of_mem _ (List.mem_append_left _ (List.mem_append_left _ (List.mem_append_right _ h)))))
  have q1 := hts _ (List.mem_of_getElem? (i := 1) rfl)
  have q2 := hts _ (List.mem_of_getElem? (i := 2) rfl)
  have q3 := hts _ (List.mem_of_getElem? (i := 3) rfl)
  have q4 := hts _ (List.mem_of_getElem? (i := 4) rfl)
  have q5 := hts _ (List.mem_of_getElem? (i := 5) rfl)
  have q6 := hts _ (List.mem_of_getElem? (i := 6) rfl)
  have q7 := hts _ (List.mem_of_getElem? (i := 7) rfl)
  unfold wX7_gang at hq
  refine lv_aload_n hx hb dX7_gang_0 rfl (lv_at hl 0 rfl) ?_
  refine lv_iload_n hx hb dX7_gang_1 rfl (lv_at hl 1 rfl) ?_
  refine z_cvi ⟨hx, hb, hml, hown, hts⟩ hw h_o0 (kX7_isPeg h_o0 hq) (by decide) rfl (cwV 1 hts gX7_gang_X7_isPeg rfl rfl rfl (by decide +kernel) ⟨Nat.le_of_ble_eq_true rfl, Nat.le_of_ble_eq_true rfl⟩) rfl hl.1 rfl (Nat.le_of_ble_eq_true rfl) dX7_gang_2 ⟨Nat.zero_le _, Nat.zero_le _⟩ (fun r5 M0 J0 H locs hq hw => ?_)
  obtain ⟨hq, rfl, rfl⟩ := hq
  refine lv_if_eq (tgt := 18) hx hb dX7_gang_5 (by decide) (fun hc => ?_) (fun hc => ?_)
  · have hq := hq.1 hc
    refine lv_ldc (v := (-1000001 : Int32)) hx hb hown q1 dX7_gang_18 ?_
    exact z_ireta hQE hx hb hr hlk hw hE0 (Nat.le_of_ble_eq_true rfl) (Nat.le_of_ble_eq_true rfl) dX7_gang_20 ⟨hq, rfl⟩
  · have hq := hq.2 hc
    refine lv_iload_n hx hb dX7_gang_8 rfl (lv_at hl 2 rfl) ?_
    refine lv_iconst (v := (1 : Int32)) hx hb dX7_gang_9 (by decide) ?_
    refine lv_bipush (v := (12 : Int32)) hx hb dX7_gang_10 (by decide) ?_
    refine z_csi ⟨hx, hb, hml, hown, hts⟩ hw (kX7_isWithin  hq) (va_cwS 3 hts gX7_gang_X7_isWithin rfl rfl rfl (by decide +kernel) ⟨Nat.le_of_ble_eq_true rfl, Nat.le_of_ble_eq_true rfl⟩) rfl hl.1 rfl (Nat.le_of_ble_eq_true rfl) dX7_gang_12 ⟨Nat.zero_le _, Nat.zero_le _⟩ (fun r6 M0 J0 H locs hq hw => ?_)
    obtain ⟨hq, rfl, rfl⟩ := hq
    refine lv_if_ne (tgt := 21) hx hb dX7_gang_15 (by decide) (fun hc => ?_) (fun hc => ?_)
    · have hq := hq.1 hc
      refine lv_iload_n hx hb dX7_gang_21 rfl (lv_at hl 1 rfl) ?_
      refine lv_iload_n hx hb dX7_gang_22 rfl (lv_at hl 2 rfl) ?_
      refine lv_iadd hx hb dX7_gang_23 ?_
      refine lv_aload_n hx hb dX7_gang_24 rfl (lv_at hl 0 rfl) ?_
      refine zg7_rail hx hb g7 hown hw h_o0 q2 dX7_gang_25 ?_
      refine zg2_pegs hx hb g2 hown hw (zk_7_20 hC h_o0) q3 dX7_gang_28 ?_
      refine va_mmin hx hb (hml.trans hl.1.symm) hown q4 q5 q6 q7 (Nat.le_of_ble_eq_true rfl) (Nat.le_of_ble_eq_true rfl) (Nat.zero_le _) (Nat.zero_le _) dX7_gang_31 ?_
      refine lv_istore_n (lv' := [(3, .int (zmin (x1 + x2) (M (o0 + 20) 0))), (0, .ref (ad o0)), (1, .int x1), (2, .int x2)]) hx hb dX7_gang_34 rfl hl (by decide) rfl (fun ls hl => ?_)
      refine lv_iload_n hx hb dX7_gang_35 rfl (lv_at hl 2 rfl) ?_
      refine lv_istore (lv' := [(4, .int x1), (3, .int (zmin (x1 + x2) (M (o0 + 20) 0))), (0, .ref (ad o0)), (1, .int x1), (2, .int x2)]) hx hb dX7_gang_36 hl (by decide) rfl (fun ls hl => ?_)
      obtain ⟨fu38, hfu, hq⟩ := hq
      have lp38 : ∀ (fu38 : Nat) (x7 : Int32) (M8 : zM) (ad' kd' : Nat → Nat) (RL' : List Nat) (cells slots : Nat) (H : Heap) (locs : List Loc) (ls : Array Slot), cells + 5 * fu38 ≤ 65 → slots + 54 * fu38 ≤ 702 → zE ad kd ad' kd' → lpX7_gang_38 M o0 x1 x2 Q fu38 x7 M8 → zH D Y ad' kd' RL' M8 J A s.heap H locs s → lv_has ls 5 [(0, .ref (ad' o0)), (3, .int (zmin (x1 + x2) (M (o0 + 20) 0))), (4, .int x7)] → W p l e rmX7_gang s m ar below meth c H locs cells slots QE (F0 m 38 ls []) := by
        intro fu38
        induction fu38 with
        | zero => intro x7 M8 ad kd RL cells slots H locs ls _ _ _ hq; exact hq.elim
        | succ fu38 ih38 =>
          intro x7 M8 ad kd RL cells slots H locs ls hcl hsl hE0 hq hw hl
          have h_o0 := ((hE0 o0 (by rw [h_o0]; decide)).1).trans h_o0
          have hC := hw.2.2.2.2.2.1
          unfold lpX7_gang_38 at hq
          refine lv_iload hx hb dX7_gang_38 (lv_at hl 2 rfl) ?_
          refine lv_iload_n hx hb dX7_gang_40 rfl (lv_at hl 1 rfl) ?_
          refine lv_icmp_ge (tgt := 65) hx hb dX7_gang_41 (by decide) (fun hc => ?_) (fun hc => ?_)
          · have hq := hq.1 hc
            refine lv_aload_n hx hb dX7_gang_65 rfl (lv_at hl 0 rfl) ?_
            refine zg7_rail hx hb g7 hown hw h_o0 q2 dX7_gang_66 ?_
            refine z_cvi ⟨hx, hb, hml, hown, hts⟩ hw (zk_7_20 hC h_o0) (kX2_worst (zk_7_20 hC h_o0) hq) (by decide) rfl (cwV 0 hts gX7_gang_X2_worst rfl rfl rfl (by decide +kernel) ⟨Nat.le_of_ble_eq_true rfl, Nat.le_of_ble_eq_true rfl⟩) rfl hl.1 rfl (Nat.le_of_ble_eq_true rfl) dX7_gang_69 ⟨by show cells ≤ 65; omega, by show slots ≤ 702; omega⟩ (fun r9 M0 J0 H locs hq hw => ?_)
            obtain ⟨hq, rfl, rfl⟩ := hq
            exact z_ireta hQE hx hb hr hlk hw hE0 (by omega) (by omega) dX7_gang_72 ⟨hq, rfl⟩
          · have hq := hq.2 hc
            refine lv_aload_n hx hb dX7_gang_44 rfl (lv_at hl 0 rfl) ?_
            refine lv_iload hx hb dX7_gang_45 (lv_at hl 2 rfl) ?_
            refine lv_aload_n hx hb dX7_gang_47 rfl (lv_at hl 0 rfl) ?_
            refine zg7_rail hx hb g7 hown hw h_o0 q2 dX7_gang_48 ?_
            refine lv_iload hx hb dX7_gang_51 (lv_at hl 2 rfl) ?_
            refine z_cvi ⟨hx, hb, hml, hown, hts⟩ hw (zk_7_20 hC h_o0) (kX2_evenestSlew (zk_7_20 hC h_o0) hq) (by decide) rfl (cwV 1 hts gX7_gang_X2_evenestSlew rfl rfl rfl (by decide +kernel) ⟨Nat.le_of_ble_eq_true rfl, Nat.le_of_ble_eq_true rfl⟩) rfl hl.1 rfl (Nat.le_of_ble_eq_true rfl) dX7_gang_53 ⟨by show cells ≤ 65; omega, by show slots ≤ 702; omega⟩ (fun r10 M11 J0 H locs hq hw => ?_)
            obtain ⟨hq, rfl⟩ := hq
            refine z_cav ⟨hx, hb, hml, hown, hts⟩ hw h_o0 (kX7_laySlew h_o0 hq) (by decide) rfl (cwV 2 hts gX7_gang_X7_laySlew rfl rfl rfl (by decide +kernel) ⟨Nat.le_of_ble_eq_true rfl, Nat.le_of_ble_eq_true rfl⟩) rfl hl.1 rfl (Nat.le_of_ble_eq_true rfl) dX7_gang_56 ⟨(by show cells + 5 ≤ 65; omega), (by show slots + 54 ≤ 702; omega)⟩ (fun ad kd RL M12 J0 H locs hq hE hw => ?_)
            obtain ⟨hq, rfl⟩ := hq
            have hA_o0 := (hE o0 (by rw [h_o0]; decide)).2
            have h_o0 := ((hE o0 (by rw [h_o0]; decide)).1).trans h_o0
            rw [← hA_o0] at hl
            have hC := hw.2.2.2.2.2.1
            have hE0 := hE0.tr hE
            obtain ⟨x13, e_x13⟩ : ∃ y : Int32, y = x7 + (1 : Int32) := ⟨_, rfl⟩
            have hq := hq x13 e_x13
            refine lv_iinc (v := x13) (lv' := [(4, .int x13), (0, .ref (ad o0)), (3, .int (zmin (x1 + x2) (M (o0 + 20) 0)))]) hx hb dX7_gang_59 hl (k := 2) rfl (by rw [e_x13]; rfl) (by decide) rfl (fun ls hl => ?_)
            refine lv_goto (tgt := 38) hx hb dX7_gang_62 (by decide) ?_
            exact ih38 x13 M12 ad kd RL _ _ _ _ _ (by omega) (by omega) hE0 hq hw (lv_sub hl [1, 2, 0] rfl)
      exact lp38 fu38 x1 M ad kd RL _ _ _ _ _ (by omega) (by omega) zE.rf hq hw (lv_sub hl [2, 1, 0] rfl)
    · have hq := hq.2 hc
      refine lv_ldc (v := (-1000001 : Int32)) hx hb hown q1 dX7_gang_18 ?_
      exact z_ireta hQE hx hb hr hlk hw hE0 (Nat.le_of_ble_eq_true rfl) (Nat.le_of_ble_eq_true rfl) dX7_gang_20 ⟨hq, rfl⟩
set_option maxRecDepth 20000 in
theorem ggX7_read_X7_isPeg : GoodIn wsX7_read wsX7_isPeg := goodIn_r _ [9, 3, 10, 11, 12, 8, 13, 49, 50, 51, 52, 53, 54, 55, 56, 57, 58, 59, 60, 61, 62, 63, 64] (by decide +kernel) (by decide +kernel)
set_option maxRecDepth 20000 in
theorem gX7_read_X7_isPeg : GoodIn wsX7_read (wsV RX7 146 RX7 yX7_isPeg wsX7_isPeg) := goodIn_app (goodIn_of _ (by decide +kernel)) ggX7_read_X7_isPeg
set_option maxRecDepth 20000 in
theorem ggX7_read_X7_isWithin : GoodIn wsX7_read wsX7_isWithin := goodIn_r _ [13] (by decide +kernel) (by decide +kernel)
set_option maxRecDepth 20000 in
theorem gX7_read_X7_isWithin : GoodIn wsX7_read (va_wsS RX7 70 yX7_isWithin wsX7_isWithin) := goodIn_app (goodIn_of _ (by decide +kernel)) ggX7_read_X7_isWithin
set_option maxRecDepth 20000 in
theorem ggX7_read_X1_keep : GoodIn wsX7_read wsX1_keep := goodIn_r _ [18, 19, 20, 21, 22, 23, 24, 25, 26, 27, 28, 29, 30, 31, 32, 33, 34, 35, 36, 37, 38, 39, 40, 41, 42, 43, 44, 45, 46, 47, 48, 65, 66, 67, 59, 60, 61, 62, 63, 64] (by decide +kernel) (by decide +kernel)
set_option maxRecDepth 20000 in
theorem gX7_read_X1_keep : GoodIn wsX7_read (wsV RX7 167 RX1 yX1_keep wsX1_keep) := goodIn_app (goodIn_of _ (by decide +kernel)) ggX7_read_X1_keep
theorem dX7_read_0 : decode cX7_read 0 = .ok (.aload_n 0, 1) := by decide +kernel
theorem dX7_read_1 : decode cX7_read 1 = .ok (.iload_n 1, 1) := by decide +kernel
theorem dX7_read_2 : decode cX7_read 2 = .ok (.invokevirtual 146, 3) := by decide +kernel
theorem dX7_read_5 : decode cX7_read 5 = .ok (.ifCond .eq 13, 3) := by decide +kernel
theorem dX7_read_8 : decode cX7_read 8 = .ok (.iload_n 2, 1) := by decide +kernel
theorem dX7_read_9 : decode cX7_read 9 = .ok (.iconst 0, 1) := by decide +kernel
theorem dX7_read_10 : decode cX7_read 10 = .ok (.bipush 60, 2) := by decide +kernel
theorem dX7_read_12 : decode cX7_read 12 = .ok (.invokestatic 70, 3) := by decide +kernel
theorem dX7_read_15 : decode cX7_read 15 = .ok (.ifCond .ne 6, 3) := by decide +kernel
theorem dX7_read_18 : decode cX7_read 18 = .ok (.ldc 74, 2) := by decide +kernel
theorem dX7_read_20 : decode cX7_read 20 = .ok (.ireturn, 1) := by decide +kernel
theorem dX7_read_21 : decode cX7_read 21 = .ok (.aload_n 0, 1) := by decide +kernel
theorem dX7_read_22 : decode cX7_read 22 = .ok (.getfield 39, 3) := by decide +kernel
theorem dX7_read_25 : decode cX7_read 25 = .ok (.aload_n 0, 1) := by decide +kernel
theorem dX7_read_26 : decode cX7_read 26 = .ok (.getfield 25, 3) := by decide +kernel
theorem dX7_read_29 : decode cX7_read 29 = .ok (.invokevirtual 167, 3) := by decide +kernel
theorem dX7_read_32 : decode cX7_read 32 = .ok (.aload_n 0, 1) := by decide +kernel
theorem dX7_read_33 : decode cX7_read 33 = .ok (.getfield 25, 3) := by decide +kernel
theorem dX7_read_36 : decode cX7_read 36 = .ok (.getfield 188, 3) := by decide +kernel
theorem dX7_read_39 : decode cX7_read 39 = .ok (.iload_n 1, 1) := by decide +kernel
theorem dX7_read_40 : decode cX7_read 40 = .ok (.iaload, 1) := by decide +kernel
theorem dX7_read_41 : decode cX7_read 41 = .ok (.istore_n 3, 1) := by decide +kernel
theorem dX7_read_42 : decode cX7_read 42 = .ok (.aload_n 0, 1) := by decide +kernel
theorem dX7_read_43 : decode cX7_read 43 = .ok (.getfield 25, 3) := by decide +kernel
theorem dX7_read_46 : decode cX7_read 46 = .ok (.getfield 188, 3) := by decide +kernel
theorem dX7_read_49 : decode cX7_read 49 = .ok (.iload_n 1, 1) := by decide +kernel
theorem dX7_read_50 : decode cX7_read 50 = .ok (.iload_n 2, 1) := by decide +kernel
theorem dX7_read_51 : decode cX7_read 51 = .ok (.iastore, 1) := by decide +kernel
theorem dX7_read_52 : decode cX7_read 52 = .ok (.iload_n 3, 1) := by decide +kernel
theorem dX7_read_53 : decode cX7_read 53 = .ok (.ireturn, 1) := by decide +kernel
def rmX7_read : Room := { frames := 5, cells := 5, slots := 54, locals := 221 }
def wX7_read (M : zM) (o0 : Nat) (x1 : Int32) (x2 : Int32) (Q : Int32 → zM → Prop) : Prop :=
    wX7_isPeg M o0 x1 (fun r5 =>
    ((r5 = 0) → (
    Q (-1000001 : Int32) M)) ∧
    ((¬ r5 = 0) → (
    wX7_isWithin M x2 (0 : Int32) (60 : Int32) (fun r6 =>
    ((¬ r6 = 0) → (
    wX1_keep M (o0 + 41) (o0 + 20) (fun M7 =>
    vp_in x1 12 ∧
    vp_in x1 12 ∧
    ∀ M8 : zM, M8 = va_up M7 ((o0 + 20) + 2) (upd (M7 ((o0 + 20) + 2)) x1.toNatClampNeg x2) →
    Q (M7 ((o0 + 20) + 2) x1.toNatClampNeg) M8))) ∧
    ((r6 = 0) → (
    Q (-1000001 : Int32) M))))))
set_option maxHeartbeats 4000000 in
set_option maxRecDepth 100000 in
theorem kX7_read {l : Launch} {D : va_G} {Y : zY} {ad kd : Nat → Nat} {RL : List Nat} {M : zM} {J : zL} {o0 : Nat} {x1 : Int32} {x2 : Int32} (h_o0 : kd o0 = 7) {Q : Int32 → zM → Prop} (hq : wX7_read M o0 x1 x2 Q) : zCia l yX7_read wsX7_read rmX7_read [.ref (ad o0), .int x1, .int x2] D Y ad kd RL M J 5 54 (fun r M' J' => Q r M' ∧ J = J') := by
  refine z_metia (cc := cX7_read) (maxL := 4) (ret := (some .int)) (by decide) rfl (Nat.le_of_ble_eq_true rfl) ?_
  intro p e s m below meth c ls A ar QE hQE hx hb hr hml hown hts hlk hw hl
  have hown : s.vm.findClass RX7 = some m.cls := hown
  have hl : lv_has ls 4 [(0, .ref (ad o0)), (1, .int x1), (2, .int x2)] := hl
  have hC := hw.2.2.2.2.2.1
  have hE0 : zE ad kd ad kd := zE.rf
  have g2 : ∀ w ∈ wsX20, w.before ar s = true := (fun w h => hts w (List.mem_cons_of_mem _ (List.mem_append_left _ (List.mem_append_right _ h))))
  have g7 : ∀ w ∈ wsX70, w.before ar s = true := (fun w h => hts w (List.mem_cons_of_mem _ (List.mem_append_left _ (List.mem_append_left _ (List.mem_append_right _ h)))))
  have q1 := hts _ (List.mem_of_getElem? (i := 1) rfl)
  have q2 := hts _ (List.mem_of_getElem? (i := 2) rfl)
  have q3 := hts _ (List.mem_of_getElem? (i := 3) rfl)
  have q4 := hts _ (List.mem_of_getElem? (i := 4) rfl)
  unfold wX7_read at hq
  refine lv_aload_n hx hb dX7_read_0 rfl (lv_at hl 0 rfl) ?_
  refine lv_iload_n hx hb dX7_read_1 rfl (lv_at hl 1 rfl) ?_
  refine z_cvi ⟨hx, hb, hml, hown, hts⟩ hw h_o0 (kX7_isPeg h_o0 hq) (by decide) rfl (cwV 1 hts gX7_read_X7_isPeg rfl rfl rfl (by decide +kernel) ⟨Nat.le_of_ble_eq_true rfl, Nat.le_of_ble_eq_true rfl⟩) rfl hl.1 rfl (Nat.le_of_ble_eq_true rfl) dX7_read_2 ⟨Nat.zero_le _, Nat.zero_le _⟩ (fun r5 M0 J0 H locs hq hw => ?_)
  obtain ⟨hq, rfl, rfl⟩ := hq
  refine lv_if_eq (tgt := 18) hx hb dX7_read_5 (by decide) (fun hc => ?_) (fun hc => ?_)
  · have hq := hq.1 hc
    refine lv_ldc (v := (-1000001 : Int32)) hx hb hown q1 dX7_read_18 ?_
    exact z_ireta hQE hx hb hr hlk hw hE0 (Nat.le_of_ble_eq_true rfl) (Nat.le_of_ble_eq_true rfl) dX7_read_20 ⟨hq, rfl⟩
  · have hq := hq.2 hc
    refine lv_iload_n hx hb dX7_read_8 rfl (lv_at hl 2 rfl) ?_
    refine lv_iconst (v := (0 : Int32)) hx hb dX7_read_9 (by decide) ?_
    refine lv_bipush (v := (60 : Int32)) hx hb dX7_read_10 (by decide) ?_
    refine z_csi ⟨hx, hb, hml, hown, hts⟩ hw (kX7_isWithin  hq) (va_cwS 3 hts gX7_read_X7_isWithin rfl rfl rfl (by decide +kernel) ⟨Nat.le_of_ble_eq_true rfl, Nat.le_of_ble_eq_true rfl⟩) rfl hl.1 rfl (Nat.le_of_ble_eq_true rfl) dX7_read_12 ⟨Nat.zero_le _, Nat.zero_le _⟩ (fun r6 M0 J0 H locs hq hw => ?_)
    obtain ⟨hq, rfl, rfl⟩ := hq
    refine lv_if_ne (tgt := 21) hx hb dX7_read_15 (by decide) (fun hc => ?_) (fun hc => ?_)
    · have hq := hq.1 hc
      refine lv_aload_n hx hb dX7_read_21 rfl (lv_at hl 0 rfl) ?_
      refine zg7_history hx hb g7 hown hw h_o0 q2 dX7_read_22 ?_
      refine lv_aload_n hx hb dX7_read_25 rfl (lv_at hl 0 rfl) ?_
      refine zg7_rail hx hb g7 hown hw h_o0 q3 dX7_read_26 ?_
      refine z_cav ⟨hx, hb, hml, hown, hts⟩ hw (zk_7_41 hC h_o0) (kX1_keep (zk_7_41 hC h_o0) (zk_7_20 hC h_o0) hq) (by decide) rfl (cwV 1 hts gX7_read_X1_keep rfl rfl rfl (by decide +kernel) ⟨Nat.le_of_ble_eq_true rfl, Nat.le_of_ble_eq_true rfl⟩) rfl hl.1 rfl (Nat.le_of_ble_eq_true rfl) dX7_read_29 ⟨Nat.le_of_ble_eq_true rfl, Nat.le_of_ble_eq_true rfl⟩ (fun ad kd RL M7 J0 H locs hq hE hw => ?_)
      obtain ⟨hq, rfl⟩ := hq
      have hA_o0 := (hE o0 (by rw [h_o0]; decide)).2
      have h_o0 := ((hE o0 (by rw [h_o0]; decide)).1).trans h_o0
      rw [← hA_o0] at hl
      have hC := hw.2.2.2.2.2.1
      have hE0 := hE0.tr hE
      refine lv_aload_n hx hb dX7_read_32 rfl (lv_at hl 0 rfl) ?_
      refine zg7_rail hx hb g7 hown hw h_o0 q3 dX7_read_33 ?_
      refine zg2_versines hx hb g2 hown hw (zk_7_20 hC h_o0) q4 dX7_read_36 ?_
      refine lv_iload_n hx hb dX7_read_39 rfl (lv_at hl 1 rfl) ?_
      obtain ⟨hi, hq⟩ := hq
      refine z_iald (n := 12) hx hb hw (zk_2_2 hC (zk_7_20 hC h_o0)) hi dX7_read_40 ?_
      refine lv_istore_n (lv' := [(3, .int (M7 ((o0 + 20) + 2) x1.toNatClampNeg)), (0, .ref (ad o0)), (1, .int x1), (2, .int x2)]) hx hb dX7_read_41 rfl hl (by decide) rfl (fun ls hl => ?_)
      refine lv_aload_n hx hb dX7_read_42 rfl (lv_at hl 1 rfl) ?_
      refine zg7_rail hx hb g7 hown hw h_o0 q3 dX7_read_43 ?_
      refine zg2_versines hx hb g2 hown hw (zk_7_20 hC h_o0) q4 dX7_read_46 ?_
      refine lv_iload_n hx hb dX7_read_49 rfl (lv_at hl 2 rfl) ?_
      refine lv_iload_n hx hb dX7_read_50 rfl (lv_at hl 3 rfl) ?_
      obtain ⟨hi, hq⟩ := hq
      refine z_iast (n := 12) hx hb hw (zk_2_2 hC (zk_7_20 hC h_o0)) hi dX7_read_51 (fun H locs hw => ?_)
      obtain ⟨M8, e_M8⟩ : ∃ y : zM, y = va_up M7 ((o0 + 20) + 2) (upd (M7 ((o0 + 20) + 2)) x1.toNatClampNeg x2) := ⟨_, rfl⟩
      rw [← e_M8] at hw
      have hq := hq M8 e_M8
      refine lv_iload_n hx hb dX7_read_52 rfl (lv_at hl 0 rfl) ?_
      exact z_ireta hQE hx hb hr hlk hw hE0 (Nat.le_of_ble_eq_true rfl) (Nat.le_of_ble_eq_true rfl) dX7_read_53 ⟨hq, rfl⟩
    · have hq := hq.2 hc
      refine lv_ldc (v := (-1000001 : Int32)) hx hb hown q1 dX7_read_18 ?_
      exact z_ireta hQE hx hb hr hlk hw hE0 (Nat.le_of_ble_eq_true rfl) (Nat.le_of_ble_eq_true rfl) dX7_read_20 ⟨hq, rfl⟩
set_option maxRecDepth 20000 in
theorem ggX7_bound_X7_isPeg : GoodIn wsX7_bound wsX7_isPeg := goodIn_r _ [17, 3, 18, 19, 20, 16, 21, 59, 60, 61, 62, 63, 64, 65, 66, 67, 68, 69, 70, 71, 72, 73, 74] (by decide +kernel) (by decide +kernel)
set_option maxRecDepth 20000 in
theorem gX7_bound_X7_isPeg : GoodIn wsX7_bound (wsV RX7 146 RX7 yX7_isPeg wsX7_isPeg) := goodIn_app (goodIn_of _ (by decide +kernel)) ggX7_bound_X7_isPeg
set_option maxRecDepth 20000 in
theorem ggX7_bound_X7_isWithin : GoodIn wsX7_bound wsX7_isWithin := goodIn_r _ [21] (by decide +kernel) (by decide +kernel)
set_option maxRecDepth 20000 in
theorem gX7_bound_X7_isWithin : GoodIn wsX7_bound (va_wsS RX7 70 yX7_isWithin wsX7_isWithin) := goodIn_app (goodIn_of _ (by decide +kernel)) ggX7_bound_X7_isWithin
set_option maxRecDepth 20000 in
theorem ggX7_bound_X1_keep : GoodIn wsX7_bound wsX1_keep := goodIn_r _ [26, 27, 28, 29, 30, 31, 32, 33, 7, 8, 9, 34, 35, 36, 37, 38, 39, 40, 41, 42, 43, 44, 45, 46, 47, 48, 49, 50, 51, 52, 53, 75, 76, 77, 69, 70, 71, 72, 73, 74] (by decide +kernel) (by decide +kernel)
set_option maxRecDepth 20000 in
theorem gX7_bound_X1_keep : GoodIn wsX7_bound (wsV RX7 167 RX1 yX1_keep wsX1_keep) := goodIn_app (goodIn_of _ (by decide +kernel)) ggX7_bound_X1_keep
set_option maxRecDepth 20000 in
theorem ggX7_bound_X2_reach : GoodIn wsX7_bound wsX2_reach := goodIn_r _ [57, 39, 42, 44, 58, 11, 8, 12, 69, 70, 71, 72, 73, 74] (by decide +kernel) (by decide +kernel)
set_option maxRecDepth 20000 in
theorem gX7_bound_X2_reach : GoodIn wsX7_bound (wsV RX7 154 RX2 yX2_reach wsX2_reach) := goodIn_app (goodIn_of _ (by decide +kernel)) ggX7_bound_X2_reach
theorem dX7_bound_0 : decode cX7_bound 0 = .ok (.aload_n 0, 1) := by decide +kernel
theorem dX7_bound_1 : decode cX7_bound 1 = .ok (.iload_n 1, 1) := by decide +kernel
theorem dX7_bound_2 : decode cX7_bound 2 = .ok (.invokevirtual 146, 3) := by decide +kernel
theorem dX7_bound_5 : decode cX7_bound 5 = .ok (.ifCond .eq 12, 3) := by decide +kernel
theorem dX7_bound_8 : decode cX7_bound 8 = .ok (.iload_n 2, 1) := by decide +kernel
theorem dX7_bound_9 : decode cX7_bound 9 = .ok (.iconst 0, 1) := by decide +kernel
theorem dX7_bound_10 : decode cX7_bound 10 = .ok (.iconst 3, 1) := by decide +kernel
theorem dX7_bound_11 : decode cX7_bound 11 = .ok (.invokestatic 70, 3) := by decide +kernel
theorem dX7_bound_14 : decode cX7_bound 14 = .ok (.ifCond .ne 6, 3) := by decide +kernel
theorem dX7_bound_17 : decode cX7_bound 17 = .ok (.ldc 74, 2) := by decide +kernel
theorem dX7_bound_19 : decode cX7_bound 19 = .ok (.ireturn, 1) := by decide +kernel
theorem dX7_bound_20 : decode cX7_bound 20 = .ok (.aload_n 0, 1) := by decide +kernel
theorem dX7_bound_21 : decode cX7_bound 21 = .ok (.getfield 39, 3) := by decide +kernel
theorem dX7_bound_24 : decode cX7_bound 24 = .ok (.aload_n 0, 1) := by decide +kernel
theorem dX7_bound_25 : decode cX7_bound 25 = .ok (.getfield 25, 3) := by decide +kernel
theorem dX7_bound_28 : decode cX7_bound 28 = .ok (.invokevirtual 167, 3) := by decide +kernel
theorem dX7_bound_31 : decode cX7_bound 31 = .ok (.aload_n 0, 1) := by decide +kernel
theorem dX7_bound_32 : decode cX7_bound 32 = .ok (.getfield 25, 3) := by decide +kernel
theorem dX7_bound_35 : decode cX7_bound 35 = .ok (.getfield 191, 3) := by decide +kernel
theorem dX7_bound_38 : decode cX7_bound 38 = .ok (.iload_n 1, 1) := by decide +kernel
theorem dX7_bound_39 : decode cX7_bound 39 = .ok (.iaload, 1) := by decide +kernel
theorem dX7_bound_40 : decode cX7_bound 40 = .ok (.istore_n 3, 1) := by decide +kernel
theorem dX7_bound_41 : decode cX7_bound 41 = .ok (.aload_n 0, 1) := by decide +kernel
theorem dX7_bound_42 : decode cX7_bound 42 = .ok (.getfield 25, 3) := by decide +kernel
theorem dX7_bound_45 : decode cX7_bound 45 = .ok (.getfield 191, 3) := by decide +kernel
theorem dX7_bound_48 : decode cX7_bound 48 = .ok (.iload_n 1, 1) := by decide +kernel
theorem dX7_bound_49 : decode cX7_bound 49 = .ok (.iload_n 2, 1) := by decide +kernel
theorem dX7_bound_50 : decode cX7_bound 50 = .ok (.iastore, 1) := by decide +kernel
theorem dX7_bound_51 : decode cX7_bound 51 = .ok (.aload_n 0, 1) := by decide +kernel
theorem dX7_bound_52 : decode cX7_bound 52 = .ok (.getfield 25, 3) := by decide +kernel
theorem dX7_bound_55 : decode cX7_bound 55 = .ok (.iload_n 1, 1) := by decide +kernel
theorem dX7_bound_56 : decode cX7_bound 56 = .ok (.invokevirtual 154, 3) := by decide +kernel
theorem dX7_bound_59 : decode cX7_bound 59 = .ok (.istore 4, 2) := by decide +kernel
theorem dX7_bound_61 : decode cX7_bound 61 = .ok (.aload_n 0, 1) := by decide +kernel
theorem dX7_bound_62 : decode cX7_bound 62 = .ok (.getfield 25, 3) := by decide +kernel
theorem dX7_bound_65 : decode cX7_bound 65 = .ok (.getfield 158, 3) := by decide +kernel
theorem dX7_bound_68 : decode cX7_bound 68 = .ok (.iload_n 1, 1) := by decide +kernel
theorem dX7_bound_69 : decode cX7_bound 69 = .ok (.iload 4, 2) := by decide +kernel
theorem dX7_bound_71 : decode cX7_bound 71 = .ok (.ineg, 1) := by decide +kernel
theorem dX7_bound_72 : decode cX7_bound 72 = .ok (.iload 4, 2) := by decide +kernel
theorem dX7_bound_74 : decode cX7_bound 74 = .ok (.aload_n 0, 1) := by decide +kernel
theorem dX7_bound_75 : decode cX7_bound 75 = .ok (.getfield 25, 3) := by decide +kernel
theorem dX7_bound_78 : decode cX7_bound 78 = .ok (.getfield 158, 3) := by decide +kernel
theorem dX7_bound_81 : decode cX7_bound 81 = .ok (.iload_n 1, 1) := by decide +kernel
theorem dX7_bound_82 : decode cX7_bound 82 = .ok (.iaload, 1) := by decide +kernel
theorem dX7_bound_83 : decode cX7_bound 83 = .ok (.invokestatic 179, 3) := by decide +kernel
theorem dX7_bound_86 : decode cX7_bound 86 = .ok (.invokestatic 194, 3) := by decide +kernel
theorem dX7_bound_89 : decode cX7_bound 89 = .ok (.iastore, 1) := by decide +kernel
theorem dX7_bound_90 : decode cX7_bound 90 = .ok (.iload_n 3, 1) := by decide +kernel
theorem dX7_bound_91 : decode cX7_bound 91 = .ok (.ireturn, 1) := by decide +kernel
def rmX7_bound : Room := { frames := 5, cells := 5, slots := 54, locals := 221 }
def wX7_bound (M : zM) (o0 : Nat) (x1 : Int32) (x2 : Int32) (Q : Int32 → zM → Prop) : Prop :=
    wX7_isPeg M o0 x1 (fun r5 =>
    ((r5 = 0) → (
    Q (-1000001 : Int32) M)) ∧
    ((¬ r5 = 0) → (
    wX7_isWithin M x2 (0 : Int32) (3 : Int32) (fun r6 =>
    ((¬ r6 = 0) → (
    wX1_keep M (o0 + 41) (o0 + 20) (fun M7 =>
    vp_in x1 12 ∧
    vp_in x1 12 ∧
    ∀ M8 : zM, M8 = va_up M7 ((o0 + 20) + 3) (upd (M7 ((o0 + 20) + 3)) x1.toNatClampNeg x2) →
    wX2_reach M8 (o0 + 20) x1 (fun r9 =>
    vp_in x1 12 ∧
    ∀ x10 : Int32, x10 = (zmin r9 (M8 ((o0 + 20) + 4) x1.toNatClampNeg)) →
    vp_in x1 12 ∧
    ∀ M11 : zM, M11 = va_up M8 ((o0 + 20) + 4) (upd (M8 ((o0 + 20) + 4)) x1.toNatClampNeg (zmax (-r9) x10)) →
    Q (M7 ((o0 + 20) + 3) x1.toNatClampNeg) M11)))) ∧
    ((r6 = 0) → (
    Q (-1000001 : Int32) M))))))
set_option maxHeartbeats 4000000 in
set_option maxRecDepth 100000 in
theorem kX7_bound {l : Launch} {D : va_G} {Y : zY} {ad kd : Nat → Nat} {RL : List Nat} {M : zM} {J : zL} {o0 : Nat} {x1 : Int32} {x2 : Int32} (h_o0 : kd o0 = 7) {Q : Int32 → zM → Prop} (hq : wX7_bound M o0 x1 x2 Q) : zCia l yX7_bound wsX7_bound rmX7_bound [.ref (ad o0), .int x1, .int x2] D Y ad kd RL M J 5 54 (fun r M' J' => Q r M' ∧ J = J') := by
  refine z_metia (cc := cX7_bound) (maxL := 5) (ret := (some .int)) (by decide) rfl (Nat.le_of_ble_eq_true rfl) ?_
  intro p e s m below meth c ls A ar QE hQE hx hb hr hml hown hts hlk hw hl
  have hown : s.vm.findClass RX7 = some m.cls := hown
  have hl : lv_has ls 5 [(0, .ref (ad o0)), (1, .int x1), (2, .int x2)] := hl
  have hC := hw.2.2.2.2.2.1
  have hE0 : zE ad kd ad kd := zE.rf
  have g2 : ∀ w ∈ wsX20, w.before ar s = true := (fun w h => hts w (List.mem_cons_of_mem _ (List.mem_append_left _ (List.mem_append_right _ h))))
  have g7 : ∀ w ∈ wsX70, w.before ar s = true := (fun w h => hts w (List.mem_cons_of_mem _ (List.mem_append_left _ (List.mem_append_left _ (List.mem_append_right _ h)))))
  have q1 := hts _ (List.mem_of_getElem? (i := 1) rfl)
  have q2 := hts _ (List.mem_of_getElem? (i := 2) rfl)
  have q3 := hts _ (List.mem_of_getElem? (i := 3) rfl)
  have q4 := hts _ (List.mem_of_getElem? (i := 4) rfl)
  have q5 := hts _ (List.mem_of_getElem? (i := 5) rfl)
  have q6 := hts _ (List.mem_of_getElem? (i := 6) rfl)
  have q7 := hts _ (List.mem_of_getElem? (i := 7) rfl)
  have q8 := hts _ (List.mem_of_getElem? (i := 8) rfl)
  have q9 := hts _ (List.mem_of_getElem? (i := 9) rfl)
  have q10 := hts _ (List.mem_of_getElem? (i := 10) rfl)
  have q11 := hts _ (List.mem_of_getElem? (i := 11) rfl)
  have q12 := hts _ (List.mem_of_getElem? (i := 12) rfl)
  unfold wX7_bound at hq
  refine lv_aload_n hx hb dX7_bound_0 rfl (lv_at hl 0 rfl) ?_
  refine lv_iload_n hx hb dX7_bound_1 rfl (lv_at hl 1 rfl) ?_
  refine z_cvi ⟨hx, hb, hml, hown, hts⟩ hw h_o0 (kX7_isPeg h_o0 hq) (by decide) rfl (cwV 1 hts gX7_bound_X7_isPeg rfl rfl rfl (by decide +kernel) ⟨Nat.le_of_ble_eq_true rfl, Nat.le_of_ble_eq_true rfl⟩) rfl hl.1 rfl (Nat.le_of_ble_eq_true rfl) dX7_bound_2 ⟨Nat.zero_le _, Nat.zero_le _⟩ (fun r5 M0 J0 H locs hq hw => ?_)
  obtain ⟨hq, rfl, rfl⟩ := hq
  refine lv_if_eq (tgt := 17) hx hb dX7_bound_5 (by decide) (fun hc => ?_) (fun hc => ?_)
  · have hq := hq.1 hc
    refine lv_ldc (v := (-1000001 : Int32)) hx hb hown q1 dX7_bound_17 ?_
    exact z_ireta hQE hx hb hr hlk hw hE0 (Nat.le_of_ble_eq_true rfl) (Nat.le_of_ble_eq_true rfl) dX7_bound_19 ⟨hq, rfl⟩
  · have hq := hq.2 hc
    refine lv_iload_n hx hb dX7_bound_8 rfl (lv_at hl 2 rfl) ?_
    refine lv_iconst (v := (0 : Int32)) hx hb dX7_bound_9 (by decide) ?_
    refine lv_iconst (v := (3 : Int32)) hx hb dX7_bound_10 (by decide) ?_
    refine z_csi ⟨hx, hb, hml, hown, hts⟩ hw (kX7_isWithin  hq) (va_cwS 3 hts gX7_bound_X7_isWithin rfl rfl rfl (by decide +kernel) ⟨Nat.le_of_ble_eq_true rfl, Nat.le_of_ble_eq_true rfl⟩) rfl hl.1 rfl (Nat.le_of_ble_eq_true rfl) dX7_bound_11 ⟨Nat.zero_le _, Nat.zero_le _⟩ (fun r6 M0 J0 H locs hq hw => ?_)
    obtain ⟨hq, rfl, rfl⟩ := hq
    refine lv_if_ne (tgt := 20) hx hb dX7_bound_14 (by decide) (fun hc => ?_) (fun hc => ?_)
    · have hq := hq.1 hc
      refine lv_aload_n hx hb dX7_bound_20 rfl (lv_at hl 0 rfl) ?_
      refine zg7_history hx hb g7 hown hw h_o0 q2 dX7_bound_21 ?_
      refine lv_aload_n hx hb dX7_bound_24 rfl (lv_at hl 0 rfl) ?_
      refine zg7_rail hx hb g7 hown hw h_o0 q3 dX7_bound_25 ?_
      refine z_cav ⟨hx, hb, hml, hown, hts⟩ hw (zk_7_41 hC h_o0) (kX1_keep (zk_7_41 hC h_o0) (zk_7_20 hC h_o0) hq) (by decide) rfl (cwV 1 hts gX7_bound_X1_keep rfl rfl rfl (by decide +kernel) ⟨Nat.le_of_ble_eq_true rfl, Nat.le_of_ble_eq_true rfl⟩) rfl hl.1 rfl (Nat.le_of_ble_eq_true rfl) dX7_bound_28 ⟨Nat.le_of_ble_eq_true rfl, Nat.le_of_ble_eq_true rfl⟩ (fun ad kd RL M7 J0 H locs hq hE hw => ?_)
      obtain ⟨hq, rfl⟩ := hq
      have hA_o0 := (hE o0 (by rw [h_o0]; decide)).2
      have h_o0 := ((hE o0 (by rw [h_o0]; decide)).1).trans h_o0
      rw [← hA_o0] at hl
      have hC := hw.2.2.2.2.2.1
      have hE0 := hE0.tr hE
      refine lv_aload_n hx hb dX7_bound_31 rfl (lv_at hl 0 rfl) ?_
      refine zg7_rail hx hb g7 hown hw h_o0 q3 dX7_bound_32 ?_
      refine zg2_bounds hx hb g2 hown hw (zk_7_20 hC h_o0) q4 dX7_bound_35 ?_
      refine lv_iload_n hx hb dX7_bound_38 rfl (lv_at hl 1 rfl) ?_
      obtain ⟨hi, hq⟩ := hq
      refine z_iald (n := 12) hx hb hw (zk_2_3 hC (zk_7_20 hC h_o0)) hi dX7_bound_39 ?_
      refine lv_istore_n (lv' := [(3, .int (M7 ((o0 + 20) + 3) x1.toNatClampNeg)), (0, .ref (ad o0)), (1, .int x1), (2, .int x2)]) hx hb dX7_bound_40 rfl hl (by decide) rfl (fun ls hl => ?_)
      refine lv_aload_n hx hb dX7_bound_41 rfl (lv_at hl 1 rfl) ?_
      refine zg7_rail hx hb g7 hown hw h_o0 q3 dX7_bound_42 ?_
      refine zg2_bounds hx hb g2 hown hw (zk_7_20 hC h_o0) q4 dX7_bound_45 ?_
      refine lv_iload_n hx hb dX7_bound_48 rfl (lv_at hl 2 rfl) ?_
      refine lv_iload_n hx hb dX7_bound_49 rfl (lv_at hl 3 rfl) ?_
      obtain ⟨hi, hq⟩ := hq
      refine z_iast (n := 12) hx hb hw (zk_2_3 hC (zk_7_20 hC h_o0)) hi dX7_bound_50 (fun H locs hw => ?_)
      obtain ⟨M8, e_M8⟩ : ∃ y : zM, y = va_up M7 ((o0 + 20) + 3) (upd (M7 ((o0 + 20) + 3)) x1.toNatClampNeg x2) := ⟨_, rfl⟩
      rw [← e_M8] at hw
      have hq := hq M8 e_M8
      refine lv_aload_n hx hb dX7_bound_51 rfl (lv_at hl 1 rfl) ?_
      refine zg7_rail hx hb g7 hown hw h_o0 q3 dX7_bound_52 ?_
      refine lv_iload_n hx hb dX7_bound_55 rfl (lv_at hl 2 rfl) ?_
      refine z_cvi ⟨hx, hb, hml, hown, hts⟩ hw (zk_7_20 hC h_o0) (kX2_reach (zk_7_20 hC h_o0) hq) (by decide) rfl (cwV 1 hts gX7_bound_X2_reach rfl rfl rfl (by decide +kernel) ⟨Nat.le_of_ble_eq_true rfl, Nat.le_of_ble_eq_true rfl⟩) rfl hl.1 rfl (Nat.le_of_ble_eq_true rfl) dX7_bound_56 ⟨Nat.le_of_ble_eq_true rfl, Nat.le_of_ble_eq_true rfl⟩ (fun r9 M0 J0 H locs hq hw => ?_)
      obtain ⟨hq, rfl, rfl⟩ := hq
      refine lv_istore (lv' := [(4, .int r9), (3, .int (M7 ((o0 + 20) + 3) x1.toNatClampNeg)), (0, .ref (ad o0)), (1, .int x1), (2, .int x2)]) hx hb dX7_bound_59 hl (by decide) rfl (fun ls hl => ?_)
      refine lv_aload_n hx hb dX7_bound_61 rfl (lv_at hl 2 rfl) ?_
      refine zg7_rail hx hb g7 hown hw h_o0 q3 dX7_bound_62 ?_
      refine zg2_slews hx hb g2 hown hw (zk_7_20 hC h_o0) q5 dX7_bound_65 ?_
      refine lv_iload_n hx hb dX7_bound_68 rfl (lv_at hl 3 rfl) ?_
      refine lv_iload hx hb dX7_bound_69 (lv_at hl 0 rfl) ?_
      refine lv_ineg hx hb dX7_bound_71 ?_
      refine lv_iload hx hb dX7_bound_72 (lv_at hl 0 rfl) ?_
      refine lv_aload_n hx hb dX7_bound_74 rfl (lv_at hl 2 rfl) ?_
      refine zg7_rail hx hb g7 hown hw h_o0 q3 dX7_bound_75 ?_
      refine zg2_slews hx hb g2 hown hw (zk_7_20 hC h_o0) q5 dX7_bound_78 ?_
      refine lv_iload_n hx hb dX7_bound_81 rfl (lv_at hl 3 rfl) ?_
      obtain ⟨hi, hq⟩ := hq
      refine z_iald (n := 12) hx hb hw (zk_2_4 hC (zk_7_20 hC h_o0)) hi dX7_bound_82 ?_
      refine va_mmin hx hb (hml.trans hl.1.symm) hown q6 q7 q8 q9 (Nat.le_of_ble_eq_true rfl) (Nat.le_of_ble_eq_true rfl) (Nat.le_of_ble_eq_true rfl) (Nat.le_of_ble_eq_true rfl) dX7_bound_83 ?_
      refine lv_topi (fun x10 e_x10 => ?_)
      have hq := hq x10 e_x10
      refine va_mmax hx hb (hml.trans hl.1.symm) hown q10 q11 q8 q12 (Nat.le_of_ble_eq_true rfl) (Nat.le_of_ble_eq_true rfl) (Nat.le_of_ble_eq_true rfl) (Nat.le_of_ble_eq_true rfl) dX7_bound_86 ?_
      obtain ⟨hi, hq⟩ := hq
      refine z_iast (n := 12) hx hb hw (zk_2_4 hC (zk_7_20 hC h_o0)) hi dX7_bound_89 (fun H locs hw => ?_)
      obtain ⟨M11, e_M11⟩ : ∃ y : zM, y = va_up M8 ((o0 + 20) + 4) (upd (M8 ((o0 + 20) + 4)) x1.toNatClampNeg (zmax (-r9) x10)) := ⟨_, rfl⟩
      rw [← e_M11] at hw
      have hq := hq M11 e_M11
      refine lv_iload_n hx hb dX7_bound_90 rfl (lv_at hl 1 rfl) ?_
      exact z_ireta hQE hx hb hr hlk hw hE0 (Nat.le_of_ble_eq_true rfl) (Nat.le_of_ble_eq_true rfl) dX7_bound_91 ⟨hq, rfl⟩
    · have hq := hq.2 hc
      refine lv_ldc (v := (-1000001 : Int32)) hx hb hown q1 dX7_bound_17 ?_
      exact z_ireta hQE hx hb hr hlk hw hE0 (Nat.le_of_ble_eq_true rfl) (Nat.le_of_ble_eq_true rfl) dX7_bound_19 ⟨hq, rfl⟩
set_option maxRecDepth 20000 in
theorem ggX7_undo_X1_bringBack : GoodIn wsX7_undo wsX1_bringBack := goodIn_r _ [9, 10, 11, 12, 13, 14, 15, 16, 17, 18, 19, 20, 21, 22, 23, 24, 25, 26, 27, 38, 39, 40, 41, 42, 43, 44, 45, 46] (by decide +kernel) (by decide +kernel)
set_option maxRecDepth 20000 in
theorem gX7_undo_X1_bringBack : GoodIn wsX7_undo (wsV RX7 200 RX1 yX1_bringBack wsX1_bringBack) := goodIn_app (goodIn_of _ (by decide +kernel)) ggX7_undo_X1_bringBack
theorem dX7_undo_0 : decode cX7_undo 0 = .ok (.aload_n 0, 1) := by decide +kernel
theorem dX7_undo_1 : decode cX7_undo 1 = .ok (.getfield 39, 3) := by decide +kernel
theorem dX7_undo_4 : decode cX7_undo 4 = .ok (.getfield 197, 3) := by decide +kernel
theorem dX7_undo_7 : decode cX7_undo 7 = .ok (.ifCond .ne 6, 3) := by decide +kernel
theorem dX7_undo_10 : decode cX7_undo 10 = .ok (.ldc 157, 2) := by decide +kernel
theorem dX7_undo_12 : decode cX7_undo 12 = .ok (.ireturn, 1) := by decide +kernel
theorem dX7_undo_13 : decode cX7_undo 13 = .ok (.aload_n 0, 1) := by decide +kernel
theorem dX7_undo_14 : decode cX7_undo 14 = .ok (.getfield 39, 3) := by decide +kernel
theorem dX7_undo_17 : decode cX7_undo 17 = .ok (.aload_n 0, 1) := by decide +kernel
theorem dX7_undo_18 : decode cX7_undo 18 = .ok (.getfield 25, 3) := by decide +kernel
theorem dX7_undo_21 : decode cX7_undo 21 = .ok (.invokevirtual 200, 3) := by decide +kernel
theorem dX7_undo_24 : decode cX7_undo 24 = .ok (.aload_n 0, 1) := by decide +kernel
theorem dX7_undo_25 : decode cX7_undo 25 = .ok (.getfield 39, 3) := by decide +kernel
theorem dX7_undo_28 : decode cX7_undo 28 = .ok (.getfield 197, 3) := by decide +kernel
theorem dX7_undo_31 : decode cX7_undo 31 = .ok (.ireturn, 1) := by decide +kernel
def rmX7_undo : Room := { frames := 3, cells := 0, slots := 0, locals := 107 }
def wX7_undo (M : zM) (o0 : Nat) (Q : Int32 → zM → Prop) : Prop :=
    ((¬ (M (o0 + 41) 0) = 0) → (
    wX1_bringBack M (o0 + 41) (o0 + 20) (fun M3 =>
    Q (M3 (o0 + 41) 0) M3))) ∧
    (((M (o0 + 41) 0) = 0) → (
    Q (-1000002 : Int32) M))
set_option maxHeartbeats 4000000 in
set_option maxRecDepth 100000 in
theorem kX7_undo {l : Launch} {D : va_G} {Y : zY} {ad kd : Nat → Nat} {RL : List Nat} {M : zM} {J : zL} {o0 : Nat} (h_o0 : kd o0 = 7) {Q : Int32 → zM → Prop} (hq : wX7_undo M o0 Q) : zCi l yX7_undo wsX7_undo rmX7_undo [.ref (ad o0)] D Y ad kd RL M J (fun r M' J' => Q r M' ∧ J = J') := by
  refine z_meti (cc := cX7_undo) (maxL := 1) (ret := (some .int)) (by decide) rfl (Nat.le_of_ble_eq_true rfl) ?_
  intro p e s m below meth c ls A ar QE hQE hx hb hr hml hown hts hlk hw hl
  have hown : s.vm.findClass RX7 = some m.cls := hown
  have hl : lv_has ls 1 [(0, .ref (ad o0))] := hl
  have hC := hw.2.2.2.2.2.1
  have g1 : ∀ w ∈ wsX10, w.before ar s = true := (fun w h => hts w (List.mem_cons_of_mem _ (List.mem_append_left _ (List.mem_append_right _ h))))
  have g7 : ∀ w ∈ wsX70, w.before ar s = true := (fun w h => hts w (List.mem_cons_of_mem _ (List.mem_append_left _ (List.mem_append_left _ (List.mem_append_right _ h)))))
  have q1 := hts _ (List.mem_of_getElem? (i := 1) rfl)
  have q2 := hts _ (List.mem_of_getElem? (i := 2) rfl)
  have q3 := hts _ (List.mem_of_getElem? (i := 3) rfl)
  have q4 := hts _ (List.mem_of_getElem? (i := 4) rfl)
  unfold wX7_undo at hq
  refine lv_aload_n hx hb dX7_undo_0 rfl (lv_at hl 0 rfl) ?_
  refine zg7_history hx hb g7 hown hw h_o0 q1 dX7_undo_1 ?_
  refine zg1_held hx hb g1 hown hw (zk_7_41 hC h_o0) q2 dX7_undo_4 ?_
  refine lv_if_ne (tgt := 13) hx hb dX7_undo_7 (by decide) (fun hc => ?_) (fun hc => ?_)
  · have hq := hq.1 hc
    refine lv_aload_n hx hb dX7_undo_13 rfl (lv_at hl 0 rfl) ?_
    refine zg7_history hx hb g7 hown hw h_o0 q1 dX7_undo_14 ?_
    refine lv_aload_n hx hb dX7_undo_17 rfl (lv_at hl 0 rfl) ?_
    refine zg7_rail hx hb g7 hown hw h_o0 q4 dX7_undo_18 ?_
    refine z_cvv ⟨hx, hb, hml, hown, hts⟩ hw (zk_7_41 hC h_o0) (kX1_bringBack (zk_7_41 hC h_o0) (zk_7_20 hC h_o0) hq) (by decide) rfl (cwV 1 hts gX7_undo_X1_bringBack rfl rfl rfl (by decide +kernel) ⟨Nat.le_of_ble_eq_true rfl, Nat.le_of_ble_eq_true rfl⟩) rfl hl.1 rfl (Nat.le_of_ble_eq_true rfl) dX7_undo_21 ⟨Nat.zero_le _, Nat.zero_le _⟩ (fun M3 J0 H locs hq hw => ?_)
    obtain ⟨hq, rfl⟩ := hq
    refine lv_aload_n hx hb dX7_undo_24 rfl (lv_at hl 0 rfl) ?_
    refine zg7_history hx hb g7 hown hw h_o0 q1 dX7_undo_25 ?_
    refine zg1_held hx hb g1 hown hw (zk_7_41 hC h_o0) q2 dX7_undo_28 ?_
    exact z_iret hQE hx hb hr hlk hw dX7_undo_31 ⟨hq, rfl⟩
  · have hq := hq.2 hc
    refine lv_ldc (v := (-1000002 : Int32)) hx hb hown q3 dX7_undo_10 ?_
    exact z_iret hQE hx hb hr hlk hw dX7_undo_12 ⟨hq, rfl⟩
set_option maxRecDepth 20000 in
theorem ggX7_peg_X7_isPeg : GoodIn wsX7_peg wsX7_isPeg := goodIn_r _ [12, 2, 6, 13, 14, 11, 15, 59, 60, 61, 62, 63, 64, 65, 66, 67, 68, 69, 70, 71, 72, 73, 74] (by decide +kernel) (by decide +kernel)
set_option maxRecDepth 20000 in
theorem gX7_peg_X7_isPeg : GoodIn wsX7_peg (wsV RX7 146 RX7 yX7_isPeg wsX7_isPeg) := goodIn_app (goodIn_of _ (by decide +kernel)) ggX7_peg_X7_isPeg
set_option maxRecDepth 20000 in
theorem ggX7_peg_X2_reach : GoodIn wsX7_peg wsX2_reach := goodIn_r _ [20, 21, 22, 23, 24, 25, 26, 27, 69, 70, 71, 72, 73, 74] (by decide +kernel) (by decide +kernel)
set_option maxRecDepth 20000 in
theorem gX7_peg_X2_reach : GoodIn wsX7_peg (wsV RX7 154 RX2 yX2_reach wsX2_reach) := goodIn_app (goodIn_of _ (by decide +kernel)) ggX7_peg_X2_reach
set_option maxRecDepth 20000 in
theorem ggX7_peg_X2_now : GoodIn wsX7_peg wsX2_now := goodIn_r _ [31, 32, 33, 34, 35, 36, 19, 37, 21, 69, 70, 71, 72, 73, 74] (by decide +kernel) (by decide +kernel)
set_option maxRecDepth 20000 in
theorem gX7_peg_X2_now : GoodIn wsX7_peg (wsV RX7 203 RX2 yX2_now wsX2_now) := goodIn_app (goodIn_of _ (by decide +kernel)) ggX7_peg_X2_now
set_option maxRecDepth 20000 in
theorem ggX7_peg_X2_step : GoodIn wsX7_peg wsX2_step := goodIn_r _ [41, 42, 43, 26, 44, 45, 46, 47, 19, 48, 21, 22, 49, 29, 30, 31, 32, 33, 34, 35, 36, 37, 69, 70, 71, 72, 73, 74] (by decide +kernel) (by decide +kernel)
set_option maxRecDepth 20000 in
theorem gX7_peg_X2_step : GoodIn wsX7_peg (wsV RX7 207 RX2 yX2_step wsX2_step) := goodIn_app (goodIn_of _ (by decide +kernel)) ggX7_peg_X2_step
set_option maxRecDepth 20000 in
theorem ggX7_peg_X2_wish : GoodIn wsX7_peg wsX2_wish := goodIn_r _ [53, 21, 32, 69, 70, 71, 72, 73, 74] (by decide +kernel) (by decide +kernel)
set_option maxRecDepth 20000 in
theorem gX7_peg_X2_wish : GoodIn wsX7_peg (wsV RX7 210 RX2 yX2_wish wsX2_wish) := goodIn_app (goodIn_of _ (by decide +kernel)) ggX7_peg_X2_wish
set_option maxRecDepth 20000 in
theorem ggX7_peg_X2_secondSum : GoodIn wsX7_peg wsX2_secondSum := goodIn_r _ [57, 32, 58, 51, 52, 19, 53, 21, 69, 70, 71, 72, 73, 74] (by decide +kernel) (by decide +kernel)
set_option maxRecDepth 20000 in
theorem gX7_peg_X2_secondSum : GoodIn wsX7_peg (wsV RX7 213 RX2 yX2_secondSum wsX2_secondSum) := goodIn_app (goodIn_of _ (by decide +kernel)) ggX7_peg_X2_secondSum
theorem dX7_peg_0 : decode cX7_peg 0 = .ok (.aload_n 0, 1) := by decide +kernel
theorem dX7_peg_1 : decode cX7_peg 1 = .ok (.iload_n 1, 1) := by decide +kernel
theorem dX7_peg_2 : decode cX7_peg 2 = .ok (.invokevirtual 146, 3) := by decide +kernel
theorem dX7_peg_5 : decode cX7_peg 5 = .ok (.ifCond .ne 6, 3) := by decide +kernel
theorem dX7_peg_8 : decode cX7_peg 8 = .ok (.ldc 74, 2) := by decide +kernel
theorem dX7_peg_10 : decode cX7_peg 10 = .ok (.ireturn, 1) := by decide +kernel
theorem dX7_peg_11 : decode cX7_peg 11 = .ok (.iload_n 2, 1) := by decide +kernel
theorem dX7_peg_12 : decode cX7_peg 12 = .ok (.tableswitch 141 0 7 #[48, 58, 68, 77, 87, 96, 123, 132], 48) := by decide +kernel
theorem dX7_peg_60 : decode cX7_peg 60 = .ok (.aload_n 0, 1) := by decide +kernel
theorem dX7_peg_61 : decode cX7_peg 61 = .ok (.getfield 25, 3) := by decide +kernel
theorem dX7_peg_64 : decode cX7_peg 64 = .ok (.getfield 188, 3) := by decide +kernel
theorem dX7_peg_67 : decode cX7_peg 67 = .ok (.iload_n 1, 1) := by decide +kernel
theorem dX7_peg_68 : decode cX7_peg 68 = .ok (.iaload, 1) := by decide +kernel
theorem dX7_peg_69 : decode cX7_peg 69 = .ok (.ireturn, 1) := by decide +kernel
theorem dX7_peg_70 : decode cX7_peg 70 = .ok (.aload_n 0, 1) := by decide +kernel
theorem dX7_peg_71 : decode cX7_peg 71 = .ok (.getfield 25, 3) := by decide +kernel
theorem dX7_peg_74 : decode cX7_peg 74 = .ok (.getfield 191, 3) := by decide +kernel
theorem dX7_peg_77 : decode cX7_peg 77 = .ok (.iload_n 1, 1) := by decide +kernel
theorem dX7_peg_78 : decode cX7_peg 78 = .ok (.iaload, 1) := by decide +kernel
theorem dX7_peg_79 : decode cX7_peg 79 = .ok (.ireturn, 1) := by decide +kernel
theorem dX7_peg_80 : decode cX7_peg 80 = .ok (.aload_n 0, 1) := by decide +kernel
theorem dX7_peg_81 : decode cX7_peg 81 = .ok (.getfield 25, 3) := by decide +kernel
theorem dX7_peg_84 : decode cX7_peg 84 = .ok (.iload_n 1, 1) := by decide +kernel
theorem dX7_peg_85 : decode cX7_peg 85 = .ok (.invokevirtual 154, 3) := by decide +kernel
theorem dX7_peg_88 : decode cX7_peg 88 = .ok (.ireturn, 1) := by decide +kernel
theorem dX7_peg_89 : decode cX7_peg 89 = .ok (.aload_n 0, 1) := by decide +kernel
theorem dX7_peg_90 : decode cX7_peg 90 = .ok (.getfield 25, 3) := by decide +kernel
theorem dX7_peg_93 : decode cX7_peg 93 = .ok (.getfield 158, 3) := by decide +kernel
theorem dX7_peg_96 : decode cX7_peg 96 = .ok (.iload_n 1, 1) := by decide +kernel
theorem dX7_peg_97 : decode cX7_peg 97 = .ok (.iaload, 1) := by decide +kernel
theorem dX7_peg_98 : decode cX7_peg 98 = .ok (.ireturn, 1) := by decide +kernel
theorem dX7_peg_99 : decode cX7_peg 99 = .ok (.aload_n 0, 1) := by decide +kernel
theorem dX7_peg_100 : decode cX7_peg 100 = .ok (.getfield 25, 3) := by decide +kernel
theorem dX7_peg_103 : decode cX7_peg 103 = .ok (.iload_n 1, 1) := by decide +kernel
theorem dX7_peg_104 : decode cX7_peg 104 = .ok (.invokevirtual 203, 3) := by decide +kernel
theorem dX7_peg_107 : decode cX7_peg 107 = .ok (.ireturn, 1) := by decide +kernel
theorem dX7_peg_108 : decode cX7_peg 108 = .ok (.iload_n 1, 1) := by decide +kernel
theorem dX7_peg_109 : decode cX7_peg 109 = .ok (.aload_n 0, 1) := by decide +kernel
theorem dX7_peg_110 : decode cX7_peg 110 = .ok (.getfield 25, 3) := by decide +kernel
theorem dX7_peg_113 : decode cX7_peg 113 = .ok (.getfield 140, 3) := by decide +kernel
theorem dX7_peg_116 : decode cX7_peg 116 = .ok (.iconst 1, 1) := by decide +kernel
theorem dX7_peg_117 : decode cX7_peg 117 = .ok (.isub, 1) := by decide +kernel
theorem dX7_peg_118 : decode cX7_peg 118 = .ok (.if_icmp .ne 8, 3) := by decide +kernel
theorem dX7_peg_121 : decode cX7_peg 121 = .ok (.ldc 206, 2) := by decide +kernel
theorem dX7_peg_123 : decode cX7_peg 123 = .ok (.goto 11, 3) := by decide +kernel
theorem dX7_peg_126 : decode cX7_peg 126 = .ok (.aload_n 0, 1) := by decide +kernel
theorem dX7_peg_127 : decode cX7_peg 127 = .ok (.getfield 25, 3) := by decide +kernel
theorem dX7_peg_130 : decode cX7_peg 130 = .ok (.iload_n 1, 1) := by decide +kernel
theorem dX7_peg_131 : decode cX7_peg 131 = .ok (.invokevirtual 207, 3) := by decide +kernel
theorem dX7_peg_134 : decode cX7_peg 134 = .ok (.ireturn, 1) := by decide +kernel
theorem dX7_peg_135 : decode cX7_peg 135 = .ok (.aload_n 0, 1) := by decide +kernel
theorem dX7_peg_136 : decode cX7_peg 136 = .ok (.getfield 25, 3) := by decide +kernel
theorem dX7_peg_139 : decode cX7_peg 139 = .ok (.iload_n 1, 1) := by decide +kernel
theorem dX7_peg_140 : decode cX7_peg 140 = .ok (.invokevirtual 210, 3) := by decide +kernel
theorem dX7_peg_143 : decode cX7_peg 143 = .ok (.ireturn, 1) := by decide +kernel
theorem dX7_peg_144 : decode cX7_peg 144 = .ok (.aload_n 0, 1) := by decide +kernel
theorem dX7_peg_145 : decode cX7_peg 145 = .ok (.getfield 25, 3) := by decide +kernel
theorem dX7_peg_148 : decode cX7_peg 148 = .ok (.iload_n 1, 1) := by decide +kernel
theorem dX7_peg_149 : decode cX7_peg 149 = .ok (.invokevirtual 213, 3) := by decide +kernel
theorem dX7_peg_152 : decode cX7_peg 152 = .ok (.ireturn, 1) := by decide +kernel
theorem dX7_peg_153 : decode cX7_peg 153 = .ok (.ldc 74, 2) := by decide +kernel
theorem dX7_peg_155 : decode cX7_peg 155 = .ok (.ireturn, 1) := by decide +kernel
def rmX7_peg : Room := { frames := 3, cells := 0, slots := 0, locals := 63 }
def wX7_peg (M : zM) (o0 : Nat) (x1 : Int32) (x2 : Int32) (Q : Int32 → Prop) : Prop :=
    wX7_isPeg M o0 x1 (fun r5 =>
    ((¬ r5 = 0) → (
    ((x2.toInt < 0 ∨ 7 < x2.toInt) → (
    Q (-1000001 : Int32))) ∧
    ((x2.toInt = 0) → (
    vp_in x1 12 ∧
    Q (M ((o0 + 20) + 2) x1.toNatClampNeg))) ∧
    ((x2.toInt = 1) → (
    vp_in x1 12 ∧
    Q (M ((o0 + 20) + 3) x1.toNatClampNeg))) ∧
    ((x2.toInt = 2) → (
    wX2_reach M (o0 + 20) x1 (fun r6 =>
    Q r6))) ∧
    ((x2.toInt = 3) → (
    vp_in x1 12 ∧
    Q (M ((o0 + 20) + 4) x1.toNatClampNeg))) ∧
    ((x2.toInt = 4) → (
    wX2_now M (o0 + 20) x1 (fun r7 =>
    Q r7))) ∧
    ((x2.toInt = 5) → (
    ((¬ x1 = ((M (o0 + 20) 0) - (1 : Int32))) → (
    wX2_step M (o0 + 20) x1 (fun r8 =>
    Q r8))) ∧
    ((x1 = ((M (o0 + 20) 0) - (1 : Int32))) → (
    Q (-1000000 : Int32))))) ∧
    ((x2.toInt = 6) → (
    wX2_wish M (o0 + 20) x1 (fun r9 =>
    Q r9))) ∧
    ((x2.toInt = 7) → (
    wX2_secondSum M (o0 + 20) x1 (fun r10 =>
    Q r10))))) ∧
    ((r5 = 0) → (
    Q (-1000001 : Int32))))
set_option maxHeartbeats 4000000 in
set_option maxRecDepth 100000 in
theorem kX7_peg {l : Launch} {D : va_G} {Y : zY} {ad kd : Nat → Nat} {RL : List Nat} {M : zM} {J : zL} {o0 : Nat} {x1 : Int32} {x2 : Int32} (h_o0 : kd o0 = 7) {Q : Int32 → Prop} (hq : wX7_peg M o0 x1 x2 Q) : zCi l yX7_peg wsX7_peg rmX7_peg [.ref (ad o0), .int x1, .int x2] D Y ad kd RL M J (fun r M' J' => Q r ∧ M = M' ∧ J = J') := by
  refine z_meti (cc := cX7_peg) (maxL := 3) (ret := (some .int)) (by decide) rfl (Nat.le_of_ble_eq_true rfl) ?_
  intro p e s m below meth c ls A ar QE hQE hx hb hr hml hown hts hlk hw hl
  have hown : s.vm.findClass RX7 = some m.cls := hown
  have hl : lv_has ls 3 [(0, .ref (ad o0)), (1, .int x1), (2, .int x2)] := hl
  have hC := hw.2.2.2.2.2.1
  have g2 : ∀ w ∈ wsX20, w.before ar s = true := (fun w h => hts w (List.mem_cons_of_mem _ (List.mem_append_right _ h)))
  have g7 : ∀ w ∈ wsX70, w.before ar s = true := (fun w h => hts w (List.mem_cons_of_mem _ (List.mem_append_left _ (List.mem_append_right _ h))))
  have q1 := hts _ (List.mem_of_getElem? (i := 1) rfl)
  have q2 := hts _ (List.mem_of_getElem? (i := 2) rfl)
  have q3 := hts _ (List.mem_of_getElem? (i := 3) rfl)
  have q4 := hts _ (List.mem_of_getElem? (i := 4) rfl)
  have q5 := hts _ (List.mem_of_getElem? (i := 5) rfl)
  have q6 := hts _ (List.mem_of_getElem? (i := 6) rfl)
  have q7 := hts _ (List.mem_of_getElem? (i := 7) rfl)
  unfold wX7_peg at hq
  refine lv_aload_n hx hb dX7_peg_0 rfl (lv_at hl 0 rfl) ?_
  refine lv_iload_n hx hb dX7_peg_1 rfl (lv_at hl 1 rfl) ?_
  refine z_cvi ⟨hx, hb, hml, hown, hts⟩ hw h_o0 (kX7_isPeg h_o0 hq) (by decide) rfl (cwV 1 hts gX7_peg_X7_isPeg rfl rfl rfl (by decide +kernel) ⟨Nat.le_of_ble_eq_true rfl, Nat.le_of_ble_eq_true rfl⟩) rfl hl.1 rfl (Nat.le_of_ble_eq_true rfl) dX7_peg_2 ⟨Nat.zero_le _, Nat.zero_le _⟩ (fun r5 M0 J0 H locs hq hw => ?_)
  obtain ⟨hq, rfl, rfl⟩ := hq
  refine lv_if_ne (tgt := 11) hx hb dX7_peg_5 (by decide) (fun hc => ?_) (fun hc => ?_)
  · have hq := hq.1 hc
    refine lv_iload_n hx hb dX7_peg_11 rfl (lv_at hl 2 rfl) ?_
    by_cases hsw : x2.toInt < 0 ∨ 7 < x2.toInt
    · refine lv_tableOut (tgt := 153) hx hb dX7_peg_12 hsw (by decide) ?_
      have hq := hq.1 hsw
      refine lv_ldc (v := (-1000001 : Int32)) hx hb hown q1 dX7_peg_153 ?_
      exact z_iret hQE hx hb hr hlk hw dX7_peg_155 ⟨hq, rfl, rfl⟩
    · have hq := hq.2
      rcases (show x2.toInt = 0 ∨ x2.toInt = 1 ∨ x2.toInt = 2 ∨ x2.toInt = 3 ∨ x2.toInt = 4 ∨ x2.toInt = 5 ∨ x2.toInt = 6 ∨ x2.toInt = 7 by omega) with hs | hs | hs | hs | hs | hs | hs | hs
      · refine lv_tableIn (off := 48) (tgt := 60) hx hb dX7_peg_12 (by omega) (by omega) (by rw [hs]; rfl) (by decide) ?_
        have hq := hq.1 hs
        refine lv_aload_n hx hb dX7_peg_60 rfl (lv_at hl 0 rfl) ?_
        refine zg7_rail hx hb g7 hown hw h_o0 q2 dX7_peg_61 ?_
        refine zg2_versines hx hb g2 hown hw (zk_7_20 hC h_o0) q3 dX7_peg_64 ?_
        refine lv_iload_n hx hb dX7_peg_67 rfl (lv_at hl 1 rfl) ?_
        obtain ⟨hi, hq⟩ := hq
        refine z_iald (n := 12) hx hb hw (zk_2_2 hC (zk_7_20 hC h_o0)) hi dX7_peg_68 ?_
        exact z_iret hQE hx hb hr hlk hw dX7_peg_69 ⟨hq, rfl, rfl⟩
      · refine lv_tableIn (off := 58) (tgt := 70) hx hb dX7_peg_12 (by omega) (by omega) (by rw [hs]; rfl) (by decide) ?_
        have hq := hq.2.1 hs
        refine lv_aload_n hx hb dX7_peg_70 rfl (lv_at hl 0 rfl) ?_
        refine zg7_rail hx hb g7 hown hw h_o0 q2 dX7_peg_71 ?_
        refine zg2_bounds hx hb g2 hown hw (zk_7_20 hC h_o0) q4 dX7_peg_74 ?_
        refine lv_iload_n hx hb dX7_peg_77 rfl (lv_at hl 1 rfl) ?_
        obtain ⟨hi, hq⟩ := hq
        refine z_iald (n := 12) hx hb hw (zk_2_3 hC (zk_7_20 hC h_o0)) hi dX7_peg_78 ?_
        exact z_iret hQE hx hb hr hlk hw dX7_peg_79 ⟨hq, rfl, rfl⟩
      · refine lv_tableIn (off := 68) (tgt := 80) hx hb dX7_peg_12 (by omega) (by omega) (by rw [hs]; rfl) (by decide) ?_
        have hq := hq.2.2.1 hs
        refine lv_aload_n hx hb dX7_peg_80 rfl (lv_at hl 0 rfl) ?_
        refine zg7_rail hx hb g7 hown hw h_o0 q2 dX7_peg_81 ?_
        refine lv_iload_n hx hb dX7_peg_84 rfl (lv_at hl 1 rfl) ?_
        refine z_cvi ⟨hx, hb, hml, hown, hts⟩ hw (zk_7_20 hC h_o0) (kX2_reach (zk_7_20 hC h_o0) hq) (by decide) rfl (cwV 1 hts gX7_peg_X2_reach rfl rfl rfl (by decide +kernel) ⟨Nat.le_of_ble_eq_true rfl, Nat.le_of_ble_eq_true rfl⟩) rfl hl.1 rfl (Nat.le_of_ble_eq_true rfl) dX7_peg_85 ⟨Nat.zero_le _, Nat.zero_le _⟩ (fun r6 M0 J0 H locs hq hw => ?_)
        obtain ⟨hq, rfl, rfl⟩ := hq
        exact z_iret hQE hx hb hr hlk hw dX7_peg_88 ⟨hq, rfl, rfl⟩
      · refine lv_tableIn (off := 77) (tgt := 89) hx hb dX7_peg_12 (by omega) (by omega) (by rw [hs]; rfl) (by decide) ?_
        have hq := hq.2.2.2.1 hs
        refine lv_aload_n hx hb dX7_peg_89 rfl (lv_at hl 0 rfl) ?_
        refine zg7_rail hx hb g7 hown hw h_o0 q2 dX7_peg_90 ?_
        refine zg2_slews hx hb g2 hown hw (zk_7_20 hC h_o0) q5 dX7_peg_93 ?_
        refine lv_iload_n hx hb dX7_peg_96 rfl (lv_at hl 1 rfl) ?_
        obtain ⟨hi, hq⟩ := hq
        refine z_iald (n := 12) hx hb hw (zk_2_4 hC (zk_7_20 hC h_o0)) hi dX7_peg_97 ?_
        exact z_iret hQE hx hb hr hlk hw dX7_peg_98 ⟨hq, rfl, rfl⟩
      · refine lv_tableIn (off := 87) (tgt := 99) hx hb dX7_peg_12 (by omega) (by omega) (by rw [hs]; rfl) (by decide) ?_
        have hq := hq.2.2.2.2.1 hs
        refine lv_aload_n hx hb dX7_peg_99 rfl (lv_at hl 0 rfl) ?_
        refine zg7_rail hx hb g7 hown hw h_o0 q2 dX7_peg_100 ?_
        refine lv_iload_n hx hb dX7_peg_103 rfl (lv_at hl 1 rfl) ?_
        refine z_cvi ⟨hx, hb, hml, hown, hts⟩ hw (zk_7_20 hC h_o0) (kX2_now (zk_7_20 hC h_o0) hq) (by decide) rfl (cwV 1 hts gX7_peg_X2_now rfl rfl rfl (by decide +kernel) ⟨Nat.le_of_ble_eq_true rfl, Nat.le_of_ble_eq_true rfl⟩) rfl hl.1 rfl (Nat.le_of_ble_eq_true rfl) dX7_peg_104 ⟨Nat.zero_le _, Nat.zero_le _⟩ (fun r7 M0 J0 H locs hq hw => ?_)
        obtain ⟨hq, rfl, rfl⟩ := hq
        exact z_iret hQE hx hb hr hlk hw dX7_peg_107 ⟨hq, rfl, rfl⟩
      · refine lv_tableIn (off := 96) (tgt := 108) hx hb dX7_peg_12 (by omega) (by omega) (by rw [hs]; rfl) (by decide) ?_
        have hq := hq.2.2.2.2.2.1 hs
        refine lv_iload_n hx hb dX7_peg_108 rfl (lv_at hl 1 rfl) ?_
        refine lv_aload_n hx hb dX7_peg_109 rfl (lv_at hl 0 rfl) ?_
        refine zg7_rail hx hb g7 hown hw h_o0 q2 dX7_peg_110 ?_
        refine zg2_pegs hx hb g2 hown hw (zk_7_20 hC h_o0) q6 dX7_peg_113 ?_
        refine lv_iconst (v := (1 : Int32)) hx hb dX7_peg_116 (by decide) ?_
        refine lv_isub hx hb dX7_peg_117 ?_
        refine lv_icmp_ne (tgt := 126) hx hb dX7_peg_118 (by decide) (fun hc => ?_) (fun hc => ?_)
        · have hq := hq.1 hc
          refine lv_aload_n hx hb dX7_peg_126 rfl (lv_at hl 0 rfl) ?_
          refine zg7_rail hx hb g7 hown hw h_o0 q2 dX7_peg_127 ?_
          refine lv_iload_n hx hb dX7_peg_130 rfl (lv_at hl 1 rfl) ?_
          refine z_cvi ⟨hx, hb, hml, hown, hts⟩ hw (zk_7_20 hC h_o0) (kX2_step (zk_7_20 hC h_o0) hq) (by decide) rfl (cwV 1 hts gX7_peg_X2_step rfl rfl rfl (by decide +kernel) ⟨Nat.le_of_ble_eq_true rfl, Nat.le_of_ble_eq_true rfl⟩) rfl hl.1 rfl (Nat.le_of_ble_eq_true rfl) dX7_peg_131 ⟨Nat.zero_le _, Nat.zero_le _⟩ (fun r8 M0 J0 H locs hq hw => ?_)
          obtain ⟨hq, rfl, rfl⟩ := hq
          exact z_iret hQE hx hb hr hlk hw dX7_peg_134 ⟨hq, rfl, rfl⟩
        · have hq := hq.2 hc
          refine lv_ldc (v := (-1000000 : Int32)) hx hb hown q7 dX7_peg_121 ?_
          refine lv_goto (tgt := 134) hx hb dX7_peg_123 (by decide) ?_
          exact z_iret hQE hx hb hr hlk hw dX7_peg_134 ⟨hq, rfl, rfl⟩
      · refine lv_tableIn (off := 123) (tgt := 135) hx hb dX7_peg_12 (by omega) (by omega) (by rw [hs]; rfl) (by decide) ?_
        have hq := hq.2.2.2.2.2.2.1 hs
        refine lv_aload_n hx hb dX7_peg_135 rfl (lv_at hl 0 rfl) ?_
        refine zg7_rail hx hb g7 hown hw h_o0 q2 dX7_peg_136 ?_
        refine lv_iload_n hx hb dX7_peg_139 rfl (lv_at hl 1 rfl) ?_
        refine z_cvi ⟨hx, hb, hml, hown, hts⟩ hw (zk_7_20 hC h_o0) (kX2_wish (zk_7_20 hC h_o0) hq) (by decide) rfl (cwV 1 hts gX7_peg_X2_wish rfl rfl rfl (by decide +kernel) ⟨Nat.le_of_ble_eq_true rfl, Nat.le_of_ble_eq_true rfl⟩) rfl hl.1 rfl (Nat.le_of_ble_eq_true rfl) dX7_peg_140 ⟨Nat.zero_le _, Nat.zero_le _⟩ (fun r9 M0 J0 H locs hq hw => ?_)
        obtain ⟨hq, rfl, rfl⟩ := hq
        exact z_iret hQE hx hb hr hlk hw dX7_peg_143 ⟨hq, rfl, rfl⟩
      · refine lv_tableIn (off := 132) (tgt := 144) hx hb dX7_peg_12 (by omega) (by omega) (by rw [hs]; rfl) (by decide) ?_
        have hq := hq.2.2.2.2.2.2.2 hs
        refine lv_aload_n hx hb dX7_peg_144 rfl (lv_at hl 0 rfl) ?_
        refine zg7_rail hx hb g7 hown hw h_o0 q2 dX7_peg_145 ?_
        refine lv_iload_n hx hb dX7_peg_148 rfl (lv_at hl 1 rfl) ?_
        refine z_cvi ⟨hx, hb, hml, hown, hts⟩ hw (zk_7_20 hC h_o0) (kX2_secondSum (zk_7_20 hC h_o0) hq) (by decide) rfl (cwV 1 hts gX7_peg_X2_secondSum rfl rfl rfl (by decide +kernel) ⟨Nat.le_of_ble_eq_true rfl, Nat.le_of_ble_eq_true rfl⟩) rfl hl.1 rfl (Nat.le_of_ble_eq_true rfl) dX7_peg_149 ⟨Nat.zero_le _, Nat.zero_le _⟩ (fun r10 M0 J0 H locs hq hw => ?_)
        obtain ⟨hq, rfl, rfl⟩ := hq
        exact z_iret hQE hx hb hr hlk hw dX7_peg_152 ⟨hq, rfl, rfl⟩
  · have hq := hq.2 hc
    refine lv_ldc (v := (-1000001 : Int32)) hx hb hown q1 dX7_peg_8 ?_
    exact z_iret hQE hx hb hr hlk hw dX7_peg_10 ⟨hq, rfl, rfl⟩
set_option maxRecDepth 20000 in
theorem ggX7_line_X2_isThere : GoodIn wsX7_line wsX2_isThere := goodIn_r _ [8, 9, 74, 75, 76, 77, 78, 79] (by decide +kernel) (by decide +kernel)
set_option maxRecDepth 20000 in
theorem gX7_line_X2_isThere : GoodIn wsX7_line (wsV RX7 164 RX2 yX2_isThere wsX2_isThere) := goodIn_app (goodIn_of _ (by decide +kernel)) ggX7_line_X2_isThere
set_option maxRecDepth 20000 in
theorem ggX7_line_X2_worst : GoodIn wsX7_line wsX2_worst := goodIn_r _ [13, 9, 14, 15, 16, 17, 18, 19, 20, 7, 21, 22, 23, 24, 25, 26, 27, 28, 29, 30, 31, 32, 33, 34, 35, 36, 37, 38, 39, 74, 75, 76, 77, 78, 79] (by decide +kernel) (by decide +kernel)
set_option maxRecDepth 20000 in
theorem gX7_line_X2_worst : GoodIn wsX7_line (wsV RX7 185 RX2 yX2_worst wsX2_worst) := goodIn_app (goodIn_of _ (by decide +kernel)) ggX7_line_X2_worst
set_option maxRecDepth 20000 in
theorem ggX7_line_X2_uneven : GoodIn wsX7_line wsX2_uneven := goodIn_r _ [43, 9, 18, 19, 20, 7, 21, 22, 23, 16, 24, 25, 26, 27, 28, 29, 30, 31, 32, 33, 34, 35, 36, 37, 38, 39, 74, 75, 76, 77, 78, 79] (by decide +kernel) (by decide +kernel)
set_option maxRecDepth 20000 in
theorem gX7_line_X2_uneven : GoodIn wsX7_line (wsV RX7 216 RX2 yX2_uneven wsX2_uneven) := goodIn_app (goodIn_of _ (by decide +kernel)) ggX7_line_X2_uneven
set_option maxRecDepth 20000 in
theorem ggX7_line_X2_allNow : GoodIn wsX7_line wsX2_allNow := goodIn_r _ [47, 9, 30, 31, 32, 7, 33, 34, 35, 36, 37, 38, 39, 74, 75, 76, 77, 78, 79] (by decide +kernel) (by decide +kernel)
set_option maxRecDepth 20000 in
theorem gX7_line_X2_allNow : GoodIn wsX7_line (wsV RX7 219 RX2 yX2_allNow wsX2_allNow) := goodIn_app (goodIn_of _ (by decide +kernel)) ggX7_line_X2_allNow
set_option maxRecDepth 20000 in
theorem ggX7_line_X2_allSlews : GoodIn wsX7_line wsX2_allSlews := goodIn_r _ [51, 9, 35, 74, 75, 76, 77, 78, 79] (by decide +kernel) (by decide +kernel)
set_option maxRecDepth 20000 in
theorem gX7_line_X2_allSlews : GoodIn wsX7_line (wsV RX7 222 RX2 yX2_allSlews wsX2_allSlews) := goodIn_app (goodIn_of _ (by decide +kernel)) ggX7_line_X2_allSlews
set_option maxRecDepth 20000 in
theorem ggX7_line_X2_closes : GoodIn wsX7_line wsX2_closes := goodIn_r _ [55, 9, 34, 56, 57, 58, 7, 59, 60, 61, 62, 63, 74, 75, 76, 77, 78, 79] (by decide +kernel) (by decide +kernel)
set_option maxRecDepth 20000 in
theorem gX7_line_X2_closes : GoodIn wsX7_line (wsV RX7 225 RX2 yX2_closes wsX2_closes) := goodIn_app (goodIn_of _ (by decide +kernel)) ggX7_line_X2_closes
theorem dX7_line_0 : decode cX7_line 0 = .ok (.aload_n 0, 1) := by decide +kernel
theorem dX7_line_1 : decode cX7_line 1 = .ok (.getfield 25, 3) := by decide +kernel
theorem dX7_line_4 : decode cX7_line 4 = .ok (.invokevirtual 164, 3) := by decide +kernel
theorem dX7_line_7 : decode cX7_line 7 = .ok (.ifCond .ne 6, 3) := by decide +kernel
theorem dX7_line_10 : decode cX7_line 10 = .ok (.ldc 157, 2) := by decide +kernel
theorem dX7_line_12 : decode cX7_line 12 = .ok (.ireturn, 1) := by decide +kernel
theorem dX7_line_13 : decode cX7_line 13 = .ok (.iload_n 1, 1) := by decide +kernel
theorem dX7_line_14 : decode cX7_line 14 = .ok (.tableswitch 82 0 4 #[34, 42, 50, 58, 66], 34) := by decide +kernel
theorem dX7_line_48 : decode cX7_line 48 = .ok (.aload_n 0, 1) := by decide +kernel
theorem dX7_line_49 : decode cX7_line 49 = .ok (.getfield 25, 3) := by decide +kernel
theorem dX7_line_52 : decode cX7_line 52 = .ok (.invokevirtual 185, 3) := by decide +kernel
theorem dX7_line_55 : decode cX7_line 55 = .ok (.ireturn, 1) := by decide +kernel
theorem dX7_line_56 : decode cX7_line 56 = .ok (.aload_n 0, 1) := by decide +kernel
theorem dX7_line_57 : decode cX7_line 57 = .ok (.getfield 25, 3) := by decide +kernel
theorem dX7_line_60 : decode cX7_line 60 = .ok (.invokevirtual 216, 3) := by decide +kernel
theorem dX7_line_63 : decode cX7_line 63 = .ok (.ireturn, 1) := by decide +kernel
theorem dX7_line_64 : decode cX7_line 64 = .ok (.aload_n 0, 1) := by decide +kernel
theorem dX7_line_65 : decode cX7_line 65 = .ok (.getfield 25, 3) := by decide +kernel
theorem dX7_line_68 : decode cX7_line 68 = .ok (.invokevirtual 219, 3) := by decide +kernel
theorem dX7_line_71 : decode cX7_line 71 = .ok (.ireturn, 1) := by decide +kernel
theorem dX7_line_72 : decode cX7_line 72 = .ok (.aload_n 0, 1) := by decide +kernel
theorem dX7_line_73 : decode cX7_line 73 = .ok (.getfield 25, 3) := by decide +kernel
theorem dX7_line_76 : decode cX7_line 76 = .ok (.invokevirtual 222, 3) := by decide +kernel
theorem dX7_line_79 : decode cX7_line 79 = .ok (.ireturn, 1) := by decide +kernel
theorem dX7_line_80 : decode cX7_line 80 = .ok (.aload_n 0, 1) := by decide +kernel
theorem dX7_line_81 : decode cX7_line 81 = .ok (.getfield 25, 3) := by decide +kernel
theorem dX7_line_84 : decode cX7_line 84 = .ok (.invokevirtual 225, 3) := by decide +kernel
theorem dX7_line_87 : decode cX7_line 87 = .ok (.ifCond .eq 7, 3) := by decide +kernel
theorem dX7_line_90 : decode cX7_line 90 = .ok (.iconst 1, 1) := by decide +kernel
theorem dX7_line_91 : decode cX7_line 91 = .ok (.goto 4, 3) := by decide +kernel
theorem dX7_line_94 : decode cX7_line 94 = .ok (.iconst 0, 1) := by decide +kernel
theorem dX7_line_95 : decode cX7_line 95 = .ok (.ireturn, 1) := by decide +kernel
theorem dX7_line_96 : decode cX7_line 96 = .ok (.ldc 74, 2) := by decide +kernel
theorem dX7_line_98 : decode cX7_line 98 = .ok (.ireturn, 1) := by decide +kernel
def rmX7_line : Room := { frames := 4, cells := 0, slots := 0, locals := 85 }
def wX7_line (M : zM) (o0 : Nat) (x1 : Int32) (Q : Int32 → Prop) : Prop :=
    wX2_isThere M (o0 + 20) (fun r4 =>
    ((¬ r4 = 0) → (
    ((x1.toInt < 0 ∨ 4 < x1.toInt) → (
    Q (-1000001 : Int32))) ∧
    ((x1.toInt = 0) → (
    wX2_worst M (o0 + 20) (fun r5 =>
    Q r5))) ∧
    ((x1.toInt = 1) → (
    wX2_uneven M (o0 + 20) (fun r6 =>
    Q r6))) ∧
    ((x1.toInt = 2) → (
    wX2_allNow M (o0 + 20) (fun r7 =>
    Q r7))) ∧
    ((x1.toInt = 3) → (
    wX2_allSlews M (o0 + 20) (fun r8 =>
    Q r8))) ∧
    ((x1.toInt = 4) → (
    wX2_closes M (o0 + 20) (fun r9 =>
    ((r9 = 0) → (
    Q (0 : Int32))) ∧
    ((¬ r9 = 0) → (
    Q (1 : Int32)))))))) ∧
    ((r4 = 0) → (
    Q (-1000002 : Int32))))
set_option maxHeartbeats 4000000 in
set_option maxRecDepth 100000 in
theorem kX7_line {l : Launch} {D : va_G} {Y : zY} {ad kd : Nat → Nat} {RL : List Nat} {M : zM} {J : zL} {o0 : Nat} {x1 : Int32} (h_o0 : kd o0 = 7) {Q : Int32 → Prop} (hq : wX7_line M o0 x1 Q) : zCi l yX7_line wsX7_line rmX7_line [.ref (ad o0), .int x1] D Y ad kd RL M J (fun r M' J' => Q r ∧ M = M' ∧ J = J') := by
  refine z_meti (cc := cX7_line) (maxL := 2) (ret := (some .int)) (by decide) rfl (Nat.le_of_ble_eq_true rfl) ?_
  intro p e s m below meth c ls A ar QE hQE hx hb hr hml hown hts hlk hw hl
  have hown : s.vm.findClass RX7 = some m.cls := hown
  have hl : lv_has ls 2 [(0, .ref (ad o0)), (1, .int x1)] := hl
  have hC := hw.2.2.2.2.2.1
  have g7 : ∀ w ∈ wsX70, w.before ar s = true := (fun w h => hts w (List.mem_cons_of_mem _ (List.mem_append_left _ (List.mem_append_right _ h))))
  have q1 := hts _ (List.mem_of_getElem? (i := 1) rfl)
  have q2 := hts _ (List.mem_of_getElem? (i := 2) rfl)
  have q3 := hts _ (List.mem_of_getElem? (i := 3) rfl)
  unfold wX7_line at hq
  refine lv_aload_n hx hb dX7_line_0 rfl (lv_at hl 0 rfl) ?_
  refine zg7_rail hx hb g7 hown hw h_o0 q1 dX7_line_1 ?_
  refine z_cvi ⟨hx, hb, hml, hown, hts⟩ hw (zk_7_20 hC h_o0) (kX2_isThere (zk_7_20 hC h_o0) hq) (by decide) rfl (cwV 0 hts gX7_line_X2_isThere rfl rfl rfl (by decide +kernel) ⟨Nat.le_of_ble_eq_true rfl, Nat.le_of_ble_eq_true rfl⟩) rfl hl.1 rfl (Nat.le_of_ble_eq_true rfl) dX7_line_4 ⟨Nat.zero_le _, Nat.zero_le _⟩ (fun r4 M0 J0 H locs hq hw => ?_)
  obtain ⟨hq, rfl, rfl⟩ := hq
  refine lv_if_ne (tgt := 13) hx hb dX7_line_7 (by decide) (fun hc => ?_) (fun hc => ?_)
  · have hq := hq.1 hc
    refine lv_iload_n hx hb dX7_line_13 rfl (lv_at hl 1 rfl) ?_
    by_cases hsw : x1.toInt < 0 ∨ 4 < x1.toInt
    · refine lv_tableOut (tgt := 96) hx hb dX7_line_14 hsw (by decide) ?_
      have hq := hq.1 hsw
      refine lv_ldc (v := (-1000001 : Int32)) hx hb hown q3 dX7_line_96 ?_
      exact z_iret hQE hx hb hr hlk hw dX7_line_98 ⟨hq, rfl, rfl⟩
    · have hq := hq.2
      rcases (show x1.toInt = 0 ∨ x1.toInt = 1 ∨ x1.toInt = 2 ∨ x1.toInt = 3 ∨ x1.toInt = 4 by omega) with hs | hs | hs | hs | hs
      · refine lv_tableIn (off := 34) (tgt := 48) hx hb dX7_line_14 (by omega) (by omega) (by rw [hs]; rfl) (by decide) ?_
        have hq := hq.1 hs
        refine lv_aload_n hx hb dX7_line_48 rfl (lv_at hl 0 rfl) ?_
        refine zg7_rail hx hb g7 hown hw h_o0 q1 dX7_line_49 ?_
        refine z_cvi ⟨hx, hb, hml, hown, hts⟩ hw (zk_7_20 hC h_o0) (kX2_worst (zk_7_20 hC h_o0) hq) (by decide) rfl (cwV 0 hts gX7_line_X2_worst rfl rfl rfl (by decide +kernel) ⟨Nat.le_of_ble_eq_true rfl, Nat.le_of_ble_eq_true rfl⟩) rfl hl.1 rfl (Nat.le_of_ble_eq_true rfl) dX7_line_52 ⟨Nat.zero_le _, Nat.zero_le _⟩ (fun r5 M0 J0 H locs hq hw => ?_)
        obtain ⟨hq, rfl, rfl⟩ := hq
        exact z_iret hQE hx hb hr hlk hw dX7_line_55 ⟨hq, rfl, rfl⟩
      · refine lv_tableIn (off := 42) (tgt := 56) hx hb dX7_line_14 (by omega) (by omega) (by rw [hs]; rfl) (by decide) ?_
        have hq := hq.2.1 hs
        refine lv_aload_n hx hb dX7_line_56 rfl (lv_at hl 0 rfl) ?_
        refine zg7_rail hx hb g7 hown hw h_o0 q1 dX7_line_57 ?_
        refine z_cvi ⟨hx, hb, hml, hown, hts⟩ hw (zk_7_20 hC h_o0) (kX2_uneven (zk_7_20 hC h_o0) hq) (by decide) rfl (cwV 0 hts gX7_line_X2_uneven rfl rfl rfl (by decide +kernel) ⟨Nat.le_of_ble_eq_true rfl, Nat.le_of_ble_eq_true rfl⟩) rfl hl.1 rfl (Nat.le_of_ble_eq_true rfl) dX7_line_60 ⟨Nat.zero_le _, Nat.zero_le _⟩ (fun r6 M0 J0 H locs hq hw => ?_)
        obtain ⟨hq, rfl, rfl⟩ := hq
        exact z_iret hQE hx hb hr hlk hw dX7_line_63 ⟨hq, rfl, rfl⟩
      · refine lv_tableIn (off := 50) (tgt := 64) hx hb dX7_line_14 (by omega) (by omega) (by rw [hs]; rfl) (by decide) ?_
        have hq := hq.2.2.1 hs
        refine lv_aload_n hx hb dX7_line_64 rfl (lv_at hl 0 rfl) ?_
        refine zg7_rail hx hb g7 hown hw h_o0 q1 dX7_line_65 ?_
        refine z_cvi ⟨hx, hb, hml, hown, hts⟩ hw (zk_7_20 hC h_o0) (kX2_allNow (zk_7_20 hC h_o0) hq) (by decide) rfl (cwV 0 hts gX7_line_X2_allNow rfl rfl rfl (by decide +kernel) ⟨Nat.le_of_ble_eq_true rfl, Nat.le_of_ble_eq_true rfl⟩) rfl hl.1 rfl (Nat.le_of_ble_eq_true rfl) dX7_line_68 ⟨Nat.zero_le _, Nat.zero_le _⟩ (fun r7 M0 J0 H locs hq hw => ?_)
        obtain ⟨hq, rfl, rfl⟩ := hq
        exact z_iret hQE hx hb hr hlk hw dX7_line_71 ⟨hq, rfl, rfl⟩
      · refine lv_tableIn (off := 58) (tgt := 72) hx hb dX7_line_14 (by omega) (by omega) (by rw [hs]; rfl) (by decide) ?_
        have hq := hq.2.2.2.1 hs
        refine lv_aload_n hx hb dX7_line_72 rfl (lv_at hl 0 rfl) ?_
        refine zg7_rail hx hb g7 hown hw h_o0 q1 dX7_line_73 ?_
        refine z_cvi ⟨hx, hb, hml, hown, hts⟩ hw (zk_7_20 hC h_o0) (kX2_allSlews (zk_7_20 hC h_o0) hq) (by decide) rfl (cwV 0 hts gX7_line_X2_allSlews rfl rfl rfl (by decide +kernel) ⟨Nat.le_of_ble_eq_true rfl, Nat.le_of_ble_eq_true rfl⟩) rfl hl.1 rfl (Nat.le_of_ble_eq_true rfl) dX7_line_76 ⟨Nat.zero_le _, Nat.zero_le _⟩ (fun r8 M0 J0 H locs hq hw => ?_)
        obtain ⟨hq, rfl, rfl⟩ := hq
        exact z_iret hQE hx hb hr hlk hw dX7_line_79 ⟨hq, rfl, rfl⟩
      · refine lv_tableIn (off := 66) (tgt := 80) hx hb dX7_line_14 (by omega) (by omega) (by rw [hs]; rfl) (by decide) ?_
        have hq := hq.2.2.2.2 hs
        refine lv_aload_n hx hb dX7_line_80 rfl (lv_at hl 0 rfl) ?_
        refine zg7_rail hx hb g7 hown hw h_o0 q1 dX7_line_81 ?_
        refine z_cvi ⟨hx, hb, hml, hown, hts⟩ hw (zk_7_20 hC h_o0) (kX2_closes (zk_7_20 hC h_o0) hq) (by decide) rfl (cwV 0 hts gX7_line_X2_closes rfl rfl rfl (by decide +kernel) ⟨Nat.le_of_ble_eq_true rfl, Nat.le_of_ble_eq_true rfl⟩) rfl hl.1 rfl (Nat.le_of_ble_eq_true rfl) dX7_line_84 ⟨Nat.zero_le _, Nat.zero_le _⟩ (fun r9 M0 J0 H locs hq hw => ?_)
        obtain ⟨hq, rfl, rfl⟩ := hq
        refine lv_if_eq (tgt := 94) hx hb dX7_line_87 (by decide) (fun hc => ?_) (fun hc => ?_)
        · have hq := hq.1 hc
          refine lv_iconst (v := (0 : Int32)) hx hb dX7_line_94 (by decide) ?_
          exact z_iret hQE hx hb hr hlk hw dX7_line_95 ⟨hq, rfl, rfl⟩
        · have hq := hq.2 hc
          refine lv_iconst (v := (1 : Int32)) hx hb dX7_line_90 (by decide) ?_
          refine lv_goto (tgt := 95) hx hb dX7_line_91 (by decide) ?_
          exact z_iret hQE hx hb hr hlk hw dX7_line_95 ⟨hq, rfl, rfl⟩
  · have hq := hq.2 hc
    refine lv_ldc (v := (-1000002 : Int32)) hx hb hown q2 dX7_line_10 ?_
    exact z_iret hQE hx hb hr hlk hw dX7_line_12 ⟨hq, rfl, rfl⟩
set_option maxRecDepth 20000 in
theorem ggX7_best_X2_isThere : GoodIn wsX7_best wsX2_isThere := goodIn_r _ [17, 18, 136, 137, 138, 139, 140, 141] (by decide +kernel) (by decide +kernel)
set_option maxRecDepth 20000 in
theorem gX7_best_X2_isThere : GoodIn wsX7_best (wsV RX7 164 RX2 yX2_isThere wsX2_isThere) := goodIn_app (goodIn_of _ (by decide +kernel)) ggX7_best_X2_isThere
set_option maxRecDepth 20000 in
theorem ggX7_best_X7_isWithin : GoodIn wsX7_best wsX7_isWithin := goodIn_r _ [22] (by decide +kernel) (by decide +kernel)
set_option maxRecDepth 20000 in
theorem gX7_best_X7_isWithin : GoodIn wsX7_best (va_wsS RX7 70 yX7_isWithin wsX7_isWithin) := goodIn_app (goodIn_of _ (by decide +kernel)) ggX7_best_X7_isWithin
set_option maxRecDepth 20000 in
theorem ggX7_best_X4_init : GoodIn wsX7_best wsX4_init := goodIn_r _ [24, 25, 26, 27, 28, 29, 16, 30, 31, 32, 33, 34, 35, 36, 37, 38, 39, 40, 18, 41, 42, 43, 44, 45, 136, 137, 138, 139, 140, 141, 142, 143, 144, 145, 146, 147, 148] (by decide +kernel) (by decide +kernel)
set_option maxRecDepth 20000 in
theorem gX7_best_X4_init_n230 : GoodIn wsX7_best (wsX4_init) := ggX7_best_X4_init
set_option maxRecDepth 20000 in
theorem ggX7_best_X4_solve : GoodIn wsX7_best wsX4_solve := goodIn_r _ [49, 30, 37, 34, 35, 36, 50, 51, 52, 16, 53, 18, 42, 43, 44, 54, 55, 56, 57, 41, 58, 59, 60, 61, 45, 62, 63, 64, 8, 65, 66, 32, 67, 68, 69, 70, 71, 72, 73, 74, 75, 76, 77, 78, 79, 80, 81, 82, 83, 84, 85, 86, 87, 88, 89, 90, 91, 92, 93, 94, 95, 96, 97, 98, 99, 100, 101, 102, 103, 104, 105, 106, 107, 108, 109, 110, 111, 112, 113, 114, 115, 116, 117, 33, 118, 119, 120, 121, 122, 123, 124, 125, 142, 143, 144, 145, 146, 147, 148, 136, 137, 138, 139, 140, 141] (by decide +kernel) (by decide +kernel)
set_option maxRecDepth 20000 in
theorem gX7_best_X4_solve : GoodIn wsX7_best (wsV RX7 231 RX4 yX4_solve wsX4_solve) := goodIn_app (goodIn_of _ (by decide +kernel)) ggX7_best_X4_solve
theorem dX7_best_0 : decode cX7_best 0 = .ok (.aload_n 0, 1) := by decide +kernel
theorem dX7_best_1 : decode cX7_best 1 = .ok (.getfield 25, 3) := by decide +kernel
theorem dX7_best_4 : decode cX7_best 4 = .ok (.invokevirtual 164, 3) := by decide +kernel
theorem dX7_best_7 : decode cX7_best 7 = .ok (.ifCond .ne 6, 3) := by decide +kernel
theorem dX7_best_10 : decode cX7_best 10 = .ok (.ldc 157, 2) := by decide +kernel
theorem dX7_best_12 : decode cX7_best 12 = .ok (.ireturn, 1) := by decide +kernel
theorem dX7_best_13 : decode cX7_best 13 = .ok (.iload_n 1, 1) := by decide +kernel
theorem dX7_best_14 : decode cX7_best 14 = .ok (.iconst 0, 1) := by decide +kernel
theorem dX7_best_15 : decode cX7_best 15 = .ok (.iconst 2, 1) := by decide +kernel
theorem dX7_best_16 : decode cX7_best 16 = .ok (.invokestatic 70, 3) := by decide +kernel
theorem dX7_best_19 : decode cX7_best 19 = .ok (.ifCond .ne 25, 3) := by decide +kernel
theorem dX7_best_22 : decode cX7_best 22 = .ok (.iload_n 1, 1) := by decide +kernel
theorem dX7_best_23 : decode cX7_best 23 = .ok (.bipush 10, 2) := by decide +kernel
theorem dX7_best_25 : decode cX7_best 25 = .ok (.bipush 9, 2) := by decide +kernel
theorem dX7_best_27 : decode cX7_best 27 = .ok (.aload_n 0, 1) := by decide +kernel
theorem dX7_best_28 : decode cX7_best 28 = .ok (.getfield 25, 3) := by decide +kernel
theorem dX7_best_31 : decode cX7_best 31 = .ok (.getfield 140, 3) := by decide +kernel
theorem dX7_best_34 : decode cX7_best 34 = .ok (.iadd, 1) := by decide +kernel
theorem dX7_best_35 : decode cX7_best 35 = .ok (.invokestatic 70, 3) := by decide +kernel
theorem dX7_best_38 : decode cX7_best 38 = .ok (.ifCond .ne 6, 3) := by decide +kernel
theorem dX7_best_41 : decode cX7_best 41 = .ok (.ldc 74, 2) := by decide +kernel
theorem dX7_best_43 : decode cX7_best 43 = .ok (.ireturn, 1) := by decide +kernel
theorem dX7_best_44 : decode cX7_best 44 = .ok (.aload_n 0, 1) := by decide +kernel
theorem dX7_best_45 : decode cX7_best 45 = .ok (.getfield 57, 3) := by decide +kernel
theorem dX7_best_48 : decode cX7_best 48 = .ok (.ifnonnull 14, 3) := by decide +kernel
theorem dX7_best_51 : decode cX7_best 51 = .ok (.aload_n 0, 1) := by decide +kernel
theorem dX7_best_52 : decode cX7_best 52 = .ok (.new 228, 3) := by decide +kernel
theorem dX7_best_55 : decode cX7_best 55 = .ok (.dup, 1) := by decide +kernel
theorem dX7_best_56 : decode cX7_best 56 = .ok (.invokespecial 230, 3) := by decide +kernel
theorem dX7_best_59 : decode cX7_best 59 = .ok (.putfield 57, 3) := by decide +kernel
theorem dX7_best_62 : decode cX7_best 62 = .ok (.aload_n 0, 1) := by decide +kernel
theorem dX7_best_63 : decode cX7_best 63 = .ok (.getfield 57, 3) := by decide +kernel
theorem dX7_best_66 : decode cX7_best 66 = .ok (.aload_n 0, 1) := by decide +kernel
theorem dX7_best_67 : decode cX7_best 67 = .ok (.getfield 25, 3) := by decide +kernel
theorem dX7_best_70 : decode cX7_best 70 = .ok (.invokevirtual 231, 3) := by decide +kernel
theorem dX7_best_73 : decode cX7_best 73 = .ok (.iload_n 1, 1) := by decide +kernel
theorem dX7_best_74 : decode cX7_best 74 = .ok (.tableswitch 50 0 2 #[26, 34, 42], 26) := by decide +kernel
theorem dX7_best_100 : decode cX7_best 100 = .ok (.aload_n 0, 1) := by decide +kernel
theorem dX7_best_101 : decode cX7_best 101 = .ok (.getfield 57, 3) := by decide +kernel
theorem dX7_best_104 : decode cX7_best 104 = .ok (.getfield 234, 3) := by decide +kernel
theorem dX7_best_107 : decode cX7_best 107 = .ok (.ireturn, 1) := by decide +kernel
theorem dX7_best_108 : decode cX7_best 108 = .ok (.aload_n 0, 1) := by decide +kernel
theorem dX7_best_109 : decode cX7_best 109 = .ok (.getfield 57, 3) := by decide +kernel
theorem dX7_best_112 : decode cX7_best 112 = .ok (.getfield 236, 3) := by decide +kernel
theorem dX7_best_115 : decode cX7_best 115 = .ok (.ireturn, 1) := by decide +kernel
theorem dX7_best_116 : decode cX7_best 116 = .ok (.aload_n 0, 1) := by decide +kernel
theorem dX7_best_117 : decode cX7_best 117 = .ok (.getfield 57, 3) := by decide +kernel
theorem dX7_best_120 : decode cX7_best 120 = .ok (.getfield 238, 3) := by decide +kernel
theorem dX7_best_123 : decode cX7_best 123 = .ok (.ireturn, 1) := by decide +kernel
theorem dX7_best_124 : decode cX7_best 124 = .ok (.aload_n 0, 1) := by decide +kernel
theorem dX7_best_125 : decode cX7_best 125 = .ok (.getfield 57, 3) := by decide +kernel
theorem dX7_best_128 : decode cX7_best 128 = .ok (.getfield 240, 3) := by decide +kernel
theorem dX7_best_131 : decode cX7_best 131 = .ok (.iload_n 1, 1) := by decide +kernel
theorem dX7_best_132 : decode cX7_best 132 = .ok (.bipush 10, 2) := by decide +kernel
theorem dX7_best_134 : decode cX7_best 134 = .ok (.isub, 1) := by decide +kernel
theorem dX7_best_135 : decode cX7_best 135 = .ok (.iaload, 1) := by decide +kernel
theorem dX7_best_136 : decode cX7_best 136 = .ok (.ireturn, 1) := by decide +kernel
def rmX7_best : Room := { frames := 6, cells := 8, slots := 4189, locals := 200 }
def jnX7_best_44 (M : zM) (o0 : Nat) (x1 : Int32) (Q : Int32 → zM → Prop)  : Prop :=
    wX4_solve M (o0 + 168) (o0 + 20) (fun M7 =>
    ((x1.toInt < 0 ∨ 2 < x1.toInt) → (
    vp_in (x1 - (10 : Int32)) 12 ∧
    ∀ x8 : Int32, x8 = (M7 ((o0 + 168) + 7) (x1 - (10 : Int32)).toNatClampNeg) →
    Q x8 M7)) ∧
    ((x1.toInt = 0) → (
    Q (M7 (o0 + 168) 0) M7)) ∧
    ((x1.toInt = 1) → (
    Q (M7 (o0 + 168) 1) M7)) ∧
    ((x1.toInt = 2) → (
    Q (M7 (o0 + 168) 2) M7)))
def wX7_best (M : zM) (o0 : Nat) (x1 : Int32) (Q : Int32 → zM → Prop) : Prop :=
    wX2_isThere M (o0 + 20) (fun r4 =>
    ((¬ r4 = 0) → (
    wX7_isWithin M x1 (0 : Int32) (2 : Int32) (fun r5 =>
    ((¬ r5 = 0) → (
    jnX7_best_44 M o0 x1 Q )) ∧
    ((r5 = 0) → (
    wX7_isWithin M x1 (10 : Int32) ((9 : Int32) + (M (o0 + 20) 0)) (fun r9 =>
    ((¬ r9 = 0) → (
    jnX7_best_44 M o0 x1 Q )) ∧
    ((r9 = 0) → (
    Q (-1000001 : Int32) M)))))))) ∧
    ((r4 = 0) → (
    Q (-1000002 : Int32) M)))
set_option maxHeartbeats 4000000 in
set_option maxRecDepth 100000 in
theorem kX7_best {l : Launch} {D : va_G} {Y : zY} {ad kd : Nat → Nat} {RL : List Nat} {M : zM} {J : zL} {o0 : Nat} {x1 : Int32} (h_o0 : kd o0 = 7) {Q : Int32 → zM → Prop} (hq : wX7_best M o0 x1 Q) : zCia l yX7_best wsX7_best rmX7_best [.ref (ad o0), .int x1] D Y ad kd RL M J 8 4189 (fun r M' J' => Q r M' ∧ J = J') := by
  refine z_metia (cc := cX7_best) (maxL := 2) (ret := (some .int)) (by decide) rfl (Nat.le_of_ble_eq_true rfl) ?_
  intro p e s m below meth c ls A ar QE hQE hx hb hr hml hown hts hlk hw hl
  have hown : s.vm.findClass RX7 = some m.cls := hown
  have hl : lv_has ls 2 [(0, .ref (ad o0)), (1, .int x1)] := hl
  have hC := hw.2.2.2.2.2.1
  have hE0 : zE ad kd ad kd := zE.rf
  have g2 : ∀ w ∈ wsX20, w.before ar s = true := (fun w h => hts w (List.mem_cons_of_mem _ (List.mem_append_left _ (List.mem_append_right _ h))))
  have g4 : ∀ w ∈ wsX40, w.before ar s = true := (fun w h => hts w (List.mem_cons_of_mem _ (List.mem_append_right _ h)))
  have g7 : ∀ w ∈ wsX70, w.before ar s = true := (fun w h => hts w (List.mem_cons_of_mem _ (List.mem_append_left _ (List.mem_append_left _ (List.mem_append_right _ h)))))
  have q1 := hts _ (List.mem_of_getElem? (i := 1) rfl)
  have q2 := hts _ (List.mem_of_getElem? (i := 2) rfl)
  have q3 := hts _ (List.mem_of_getElem? (i := 3) rfl)
  have q4 := hts _ (List.mem_of_getElem? (i := 4) rfl)
  have q5 := hts _ (List.mem_of_getElem? (i := 5) rfl)
  have q6 := hts _ (List.mem_of_getElem? (i := 6) rfl)
  have q7 := hts _ (List.mem_of_getElem? (i := 7) rfl)
  have q8 := hts _ (List.mem_of_getElem? (i := 8) rfl)
  have q9 := hts _ (List.mem_of_getElem? (i := 9) rfl)
  have q10 := hts _ (List.mem_of_getElem? (i := 10) rfl)
  have q11 := hts _ (List.mem_of_getElem? (i := 11) rfl)
  have q12 := hts _ (List.mem_of_getElem? (i := 12) rfl)
  have q23 := hts _ (List.mem_of_getElem? (i := 23) rfl)
  unfold wX7_best at hq
  refine lv_aload_n hx hb dX7_best_0 rfl (lv_at hl 0 rfl) ?_
  refine zg7_rail hx hb g7 hown hw h_o0 q1 dX7_best_1 ?_
  refine z_cvi ⟨hx, hb, hml, hown, hts⟩ hw (zk_7_20 hC h_o0) (kX2_isThere (zk_7_20 hC h_o0) hq) (by decide) rfl (cwV 0 hts gX7_best_X2_isThere rfl rfl rfl (by decide +kernel) ⟨Nat.le_of_ble_eq_true rfl, Nat.le_of_ble_eq_true rfl⟩) rfl hl.1 rfl (Nat.le_of_ble_eq_true rfl) dX7_best_4 ⟨Nat.zero_le _, Nat.zero_le _⟩ (fun r4 M0 J0 H locs hq hw => ?_)
  obtain ⟨hq, rfl, rfl⟩ := hq
  refine lv_if_ne (tgt := 13) hx hb dX7_best_7 (by decide) (fun hc => ?_) (fun hc => ?_)
  · have hq := hq.1 hc
    refine lv_iload_n hx hb dX7_best_13 rfl (lv_at hl 1 rfl) ?_
    refine lv_iconst (v := (0 : Int32)) hx hb dX7_best_14 (by decide) ?_
    refine lv_iconst (v := (2 : Int32)) hx hb dX7_best_15 (by decide) ?_
    refine z_csi ⟨hx, hb, hml, hown, hts⟩ hw (kX7_isWithin  hq) (va_cwS 3 hts gX7_best_X7_isWithin rfl rfl rfl (by decide +kernel) ⟨Nat.le_of_ble_eq_true rfl, Nat.le_of_ble_eq_true rfl⟩) rfl hl.1 rfl (Nat.le_of_ble_eq_true rfl) dX7_best_16 ⟨Nat.zero_le _, Nat.zero_le _⟩ (fun r5 M0 J0 H locs hq hw => ?_)
    obtain ⟨hq, rfl, rfl⟩ := hq
    have jn44 : ∀ (H : Heap) (locs : List Loc) (ls : Array Slot), jnX7_best_44 M o0 x1 Q  → zH D Y ad kd RL M J A s.heap H locs s → lv_has ls 2 [(0, .ref (ad o0)), (1, .int x1)] → W p l e rmX7_best s m ar below meth c H locs 0 0 QE (F0 m 44 ls []) := by
      intro  H locs ls hq hw hl
      unfold jnX7_best_44 at hq
      have e0 := zk_7z hC h_o0
      have j62 : ∀ (ad' kd' : Nat → Nat) (RL' : List Nat) (H : Heap) (locs : List Loc), zE ad kd ad' kd' → kd' (o0 + 168) = 4 → zH D Y ad' kd' RL' M J A s.heap H locs s → W p l e rmX7_best s m ar below meth c H locs 8 4189 QE (F0 m 62 ls []) := by
        intro ad kd RL H locs hE0 hsr hw
        have hA_o0 := (hE0 o0 (by rw [h_o0]; decide)).2
        have h_o0 := ((hE0 o0 (by rw [h_o0]; decide)).1).trans h_o0
        rw [← hA_o0] at hl
        have hC := hw.2.2.2.2.2.1
        refine lv_aload_n hx hb dX7_best_62 rfl (lv_at hl 0 rfl) ?_
        refine zg7_search_m hx hb g7 hown hw h_o0 hsr q5 dX7_best_63 ?_
        refine lv_aload_n hx hb dX7_best_66 rfl (lv_at hl 0 rfl) ?_
        refine zg7_rail hx hb g7 hown hw h_o0 q1 dX7_best_67 ?_
        refine z_cvv ⟨hx, hb, hml, hown, hts⟩ hw hsr (kX4_solve hsr (zk_7_20 hC h_o0) hq) (by decide) rfl (cwV 1 hts gX7_best_X4_solve rfl rfl rfl (by decide +kernel) ⟨Nat.le_of_ble_eq_true rfl, Nat.le_of_ble_eq_true rfl⟩) rfl hl.1 rfl (Nat.le_of_ble_eq_true rfl) dX7_best_70 ⟨Nat.le_of_ble_eq_true rfl, Nat.le_of_ble_eq_true rfl⟩ (fun M7 J0 H locs hq hw => ?_)
        obtain ⟨hq, rfl⟩ := hq
        refine lv_iload_n hx hb dX7_best_73 rfl (lv_at hl 1 rfl) ?_
        by_cases hsw : x1.toInt < 0 ∨ 2 < x1.toInt
        · refine lv_tableOut (tgt := 124) hx hb dX7_best_74 hsw (by decide) ?_
          have hq := hq.1 hsw
          refine lv_aload_n hx hb dX7_best_124 rfl (lv_at hl 0 rfl) ?_
          refine zg7_search_m hx hb g7 hown hw h_o0 hsr q5 dX7_best_125 ?_
          refine zg4_slews hx hb g4 hown hw hsr q12 dX7_best_128 ?_
          refine lv_iload_n hx hb dX7_best_131 rfl (lv_at hl 1 rfl) ?_
          refine lv_bipush (v := (10 : Int32)) hx hb dX7_best_132 (by decide) ?_
          refine lv_isub hx hb dX7_best_134 ?_
          obtain ⟨hi, hq⟩ := hq
          refine z_iald (n := 12) hx hb hw (zk_4_7 hC hsr) hi dX7_best_135 ?_
          refine lv_topi (fun x8 e_x8 => ?_)
          have hq := hq x8 e_x8
          exact z_ireta hQE hx hb hr hlk hw hE0 (Nat.le_of_ble_eq_true rfl) (Nat.le_of_ble_eq_true rfl) dX7_best_136 ⟨hq, rfl⟩
        · have hq := hq.2
          rcases (show x1.toInt = 0 ∨ x1.toInt = 1 ∨ x1.toInt = 2 by omega) with hs | hs | hs
          · refine lv_tableIn (off := 26) (tgt := 100) hx hb dX7_best_74 (by omega) (by omega) (by rw [hs]; rfl) (by decide) ?_
            have hq := hq.1 hs
            refine lv_aload_n hx hb dX7_best_100 rfl (lv_at hl 0 rfl) ?_
            refine zg7_search_m hx hb g7 hown hw h_o0 hsr q5 dX7_best_101 ?_
            refine zg4_worst hx hb g4 hown hw hsr q9 dX7_best_104 ?_
            exact z_ireta hQE hx hb hr hlk hw hE0 (Nat.le_of_ble_eq_true rfl) (Nat.le_of_ble_eq_true rfl) dX7_best_107 ⟨hq, rfl⟩
          · refine lv_tableIn (off := 34) (tgt := 108) hx hb dX7_best_74 (by omega) (by omega) (by rw [hs]; rfl) (by decide) ?_
            have hq := hq.2.1 hs
            refine lv_aload_n hx hb dX7_best_108 rfl (lv_at hl 0 rfl) ?_
            refine zg7_search_m hx hb g7 hown hw h_o0 hsr q5 dX7_best_109 ?_
            refine zg4_uneven hx hb g4 hown hw hsr q10 dX7_best_112 ?_
            exact z_ireta hQE hx hb hr hlk hw hE0 (Nat.le_of_ble_eq_true rfl) (Nat.le_of_ble_eq_true rfl) dX7_best_115 ⟨hq, rfl⟩
          · refine lv_tableIn (off := 42) (tgt := 116) hx hb dX7_best_74 (by omega) (by omega) (by rw [hs]; rfl) (by decide) ?_
            have hq := hq.2.2 hs
            refine lv_aload_n hx hb dX7_best_116 rfl (lv_at hl 0 rfl) ?_
            refine zg7_search_m hx hb g7 hown hw h_o0 hsr q5 dX7_best_117 ?_
            refine zg4_moved hx hb g4 hown hw hsr q11 dX7_best_120 ?_
            exact z_ireta hQE hx hb hr hlk hw hE0 (Nat.le_of_ble_eq_true rfl) (Nat.le_of_ble_eq_true rfl) dX7_best_123 ⟨hq, rfl⟩
      refine lv_aload_n hx hb dX7_best_44 rfl (lv_at hl 0 rfl) ?_
      refine zg7_search hx hb g7 hown hw h_o0 q5 dX7_best_45 ?_
      rcases zk_7s hC h_o0 with hun | hsr
      · rw [if_neg (fun h => by have h9 := hun 0 (by decide); rw [Nat.add_zero, h] at h9; cases h9)]
        refine lv_ifnonnullN hx hb dX7_best_48 ?_
        refine lv_aload_n hx hb dX7_best_51 rfl (lv_at hl 0 rfl) ?_
        refine va_new (ci := 4) (fs := [.null, .null, .null, .int 0, .int 0, .int 0, .int 0]) (C := RX4) (T := TX4) (N := 7) hx hb g4 (fun _ h => h) tyX4 tyX4_ok hown q6 q7 q8 hw.2.1 hw.1 hw.2.2.1 hw.2.2.2.1 hw.2.2.2.2.1 rfl (fun j hj => by rcases (show j = 0 ∨ j = 1 ∨ j = 2 ∨ j = 3 ∨ j = 4 ∨ j = 5 ∨ j = 6 by omega) with rfl | rfl | rfl | rfl | rfl | rfl | rfl <;> rfl) (Nat.le_of_ble_eq_true rfl) (Nat.le_of_ble_eq_true rfl) dX7_best_52 (fun n0 H hP hD hS => ?_)
        refine lv_dup hx hb dX7_best_55 rfl ?_
        refine z_ctor (mc := 7) (ms := 4182) (rm := rmX4_init) (QB := fun A _ t => QB4 D Y n0 A t) (wr := zW Y ad kd RL M J) (rest := [.ref n0, .ref (ad o0)]) ⟨hx, hb, hml, hown, hts⟩ hP hw.2.1 hD hS hw.2.2.2.2.1 hw.2.2.2.2.2.2.2.2.1 (fun sz => kX4_init n0 sz) ⟨va_cnB 0 hts gX7_best_X4_init_n230 rfl rfl rfl hw.2.2.2.2.2.2.2.2.1.2.1 q8 (by decide +kernel) ⟨(Nat.le_of_ble_eq_true rfl), (Nat.le_of_ble_eq_true rfl)⟩, rfl, q23⟩ hl.1 rfl (Nat.le_of_ble_eq_true rfl) dX7_best_56 ⟨(Nat.le_of_ble_eq_true rfl), (Nat.le_of_ble_eq_true rfl)⟩ (fun t H locs ht hB hj hS => ?_)
        obtain ⟨n1, n2, n3, n4, n5, n6, n7, hP1, hD1⟩ := hB
        rw [ht] at hP1
        obtain ⟨hP, hD⟩ := hj _ hP1 hD1
        obtain rfl : o0 = 0 := e0
        obtain ⟨kb, hkb, hRb⟩ := zW_get (Y := Y) (ad := ad) (kd := kd) (M := M) (J := J) ((hw.2.2.2.2.2.2.1 0).1 (by rw [h_o0]; decide))
        rw [z_is_7 h_o0] at hkb
        refine va_put (D := D) (ci := 7) (v := .ref n0) (ty := .object "SlewRails$Search") (C := RX7) (T := TX7) (N := 10) hx hb g7 (fun _ h => h) tyX7 tyX7_ok nmX7 hown hw.2.1 hP hD hS kb (by rw [List.getElem?_append_left (List.getElem?_eq_some_iff.mp hkb).1]; exact hkb) rfl 8 (by decide) q5 (fun _ h9 => h9) rfl (by decide +kernel) rfl rfl (Nat.le_of_ble_eq_true rfl) dX7_best_59 (fun H locs hP hD hS => ?_)
        obtain ⟨ad1, kd1, RL1, hE, hsr, hw1⟩ := z_made_search hw h_o0 (fun i hi => by have h9 := hun i hi; rwa [Nat.zero_add] at h9) hRb hP hD hS
        refine W.widen (k := 8) (n := 4189) (Nat.le_of_ble_eq_true rfl) (Nat.le_of_ble_eq_true rfl) ?_
        exact j62 ad1 kd1 RL1 _ _ hE hsr hw1
      · rw [if_pos hsr]
        refine lv_ifnonnull (tgt := 62) hx hb dX7_best_48 (by decide) ?_
        refine W.widen (k := 8) (n := 4189) (Nat.zero_le _) (Nat.zero_le _) ?_
        exact j62 ad kd RL _ _ zE.rf hsr hw
    refine lv_if_ne (tgt := 44) hx hb dX7_best_19 (by decide) (fun hc => ?_) (fun hc => ?_)
    · have hq := hq.1 hc
      exact jn44  _ _ _ hq hw (lv_sub hl [0, 1] rfl)
    · have hq := hq.2 hc
      refine lv_iload_n hx hb dX7_best_22 rfl (lv_at hl 1 rfl) ?_
      refine lv_bipush (v := (10 : Int32)) hx hb dX7_best_23 (by decide) ?_
      refine lv_bipush (v := (9 : Int32)) hx hb dX7_best_25 (by decide) ?_
      refine lv_aload_n hx hb dX7_best_27 rfl (lv_at hl 0 rfl) ?_
      refine zg7_rail hx hb g7 hown hw h_o0 q1 dX7_best_28 ?_
      refine zg2_pegs hx hb g2 hown hw (zk_7_20 hC h_o0) q3 dX7_best_31 ?_
      refine lv_iadd hx hb dX7_best_34 ?_
      refine z_csi ⟨hx, hb, hml, hown, hts⟩ hw (kX7_isWithin  hq) (va_cwS 3 hts gX7_best_X7_isWithin rfl rfl rfl (by decide +kernel) ⟨Nat.le_of_ble_eq_true rfl, Nat.le_of_ble_eq_true rfl⟩) rfl hl.1 rfl (Nat.le_of_ble_eq_true rfl) dX7_best_35 ⟨Nat.zero_le _, Nat.zero_le _⟩ (fun r9 M0 J0 H locs hq hw => ?_)
      obtain ⟨hq, rfl, rfl⟩ := hq
      refine lv_if_ne (tgt := 44) hx hb dX7_best_38 (by decide) (fun hc => ?_) (fun hc => ?_)
      · have hq := hq.1 hc
        exact jn44  _ _ _ hq hw (lv_sub hl [0, 1] rfl)
      · have hq := hq.2 hc
        refine lv_ldc (v := (-1000001 : Int32)) hx hb hown q4 dX7_best_41 ?_
        exact z_ireta hQE hx hb hr hlk hw hE0 (Nat.le_of_ble_eq_true rfl) (Nat.le_of_ble_eq_true rfl) dX7_best_43 ⟨hq, rfl⟩
  · have hq := hq.2 hc
    refine lv_ldc (v := (-1000002 : Int32)) hx hb hown q2 dX7_best_10 ?_
    exact z_ireta hQE hx hb hr hlk hw hE0 (Nat.le_of_ble_eq_true rfl) (Nat.le_of_ble_eq_true rfl) dX7_best_12 ⟨hq, rfl⟩
set_option maxRecDepth 20000 in
theorem ggX7_wrong_X2_isThere : GoodIn wsX7_wrong wsX2_isThere := goodIn_r _ [10, 11, 71, 72, 73, 74, 75, 76] (by decide +kernel) (by decide +kernel)
set_option maxRecDepth 20000 in
theorem gX7_wrong_X2_isThere : GoodIn wsX7_wrong (wsV RX7 164 RX2 yX2_isThere wsX2_isThere) := goodIn_app (goodIn_of _ (by decide +kernel)) ggX7_wrong_X2_isThere
set_option maxRecDepth 20000 in
theorem ggX7_wrong_X7_isWithin : GoodIn wsX7_wrong wsX7_isWithin := goodIn_r _ [15] (by decide +kernel) (by decide +kernel)
set_option maxRecDepth 20000 in
theorem gX7_wrong_X7_isWithin : GoodIn wsX7_wrong (va_wsS RX7 70 yX7_isWithin wsX7_isWithin) := goodIn_app (goodIn_of _ (by decide +kernel)) ggX7_wrong_X7_isWithin
set_option maxRecDepth 20000 in
theorem ggX7_wrong_X2_become : GoodIn wsX7_wrong wsX2_become := goodIn_r _ [19, 11, 20, 21, 22, 23, 24, 25, 26, 27, 28, 71, 72, 73, 74, 75, 76] (by decide +kernel) (by decide +kernel)
set_option maxRecDepth 20000 in
theorem gX7_wrong_X2_become : GoodIn wsX7_wrong (wsV RX7 133 RX2 yX2_become wsX2_become) := goodIn_app (goodIn_of _ (by decide +kernel)) ggX7_wrong_X2_become
set_option maxRecDepth 20000 in
theorem ggX7_wrong_X2_dropSlews : GoodIn wsX7_wrong wsX2_dropSlews := goodIn_r _ [32, 28, 33, 34, 35, 36, 71, 72, 73, 74, 75, 76] (by decide +kernel) (by decide +kernel)
set_option maxRecDepth 20000 in
theorem gX7_wrong_X2_dropSlews : GoodIn wsX7_wrong (wsV RX7 241 RX2 yX2_dropSlews wsX2_dropSlews) := goodIn_app (goodIn_of _ (by decide +kernel)) ggX7_wrong_X2_dropSlews
set_option maxRecDepth 20000 in
theorem ggX7_wrong_X2_misread : GoodIn wsX7_wrong wsX2_misread := goodIn_r _ [40, 11, 26, 41, 42, 43, 9, 44, 45, 46, 47, 48, 49, 50, 51, 52, 21, 53, 54, 55, 56, 28, 57, 58, 59, 60, 71, 72, 73, 74, 75, 76] (by decide +kernel) (by decide +kernel)
set_option maxRecDepth 20000 in
theorem gX7_wrong_X2_misread : GoodIn wsX7_wrong (wsV RX7 244 RX2 yX2_misread wsX2_misread) := goodIn_app (goodIn_of _ (by decide +kernel)) ggX7_wrong_X2_misread
theorem dX7_wrong_0 : decode cX7_wrong 0 = .ok (.aload_n 0, 1) := by decide +kernel
theorem dX7_wrong_1 : decode cX7_wrong 1 = .ok (.getfield 25, 3) := by decide +kernel
theorem dX7_wrong_4 : decode cX7_wrong 4 = .ok (.invokevirtual 164, 3) := by decide +kernel
theorem dX7_wrong_7 : decode cX7_wrong 7 = .ok (.ifCond .ne 6, 3) := by decide +kernel
theorem dX7_wrong_10 : decode cX7_wrong 10 = .ok (.ldc 157, 2) := by decide +kernel
theorem dX7_wrong_12 : decode cX7_wrong 12 = .ok (.ireturn, 1) := by decide +kernel
theorem dX7_wrong_13 : decode cX7_wrong 13 = .ok (.iload_n 1, 1) := by decide +kernel
theorem dX7_wrong_14 : decode cX7_wrong 14 = .ok (.iconst 0, 1) := by decide +kernel
theorem dX7_wrong_15 : decode cX7_wrong 15 = .ok (.iconst 1, 1) := by decide +kernel
theorem dX7_wrong_16 : decode cX7_wrong 16 = .ok (.invokestatic 70, 3) := by decide +kernel
theorem dX7_wrong_19 : decode cX7_wrong 19 = .ok (.ifCond .ne 6, 3) := by decide +kernel
theorem dX7_wrong_22 : decode cX7_wrong 22 = .ok (.ldc 74, 2) := by decide +kernel
theorem dX7_wrong_24 : decode cX7_wrong 24 = .ok (.ireturn, 1) := by decide +kernel
theorem dX7_wrong_25 : decode cX7_wrong 25 = .ok (.aload_n 0, 1) := by decide +kernel
theorem dX7_wrong_26 : decode cX7_wrong 26 = .ok (.getfield 29, 3) := by decide +kernel
theorem dX7_wrong_29 : decode cX7_wrong 29 = .ok (.aload_n 0, 1) := by decide +kernel
theorem dX7_wrong_30 : decode cX7_wrong 30 = .ok (.getfield 25, 3) := by decide +kernel
theorem dX7_wrong_33 : decode cX7_wrong 33 = .ok (.invokevirtual 133, 3) := by decide +kernel
theorem dX7_wrong_36 : decode cX7_wrong 36 = .ok (.aload_n 0, 1) := by decide +kernel
theorem dX7_wrong_37 : decode cX7_wrong 37 = .ok (.getfield 29, 3) := by decide +kernel
theorem dX7_wrong_40 : decode cX7_wrong 40 = .ok (.invokevirtual 241, 3) := by decide +kernel
theorem dX7_wrong_43 : decode cX7_wrong 43 = .ok (.aload_n 0, 1) := by decide +kernel
theorem dX7_wrong_44 : decode cX7_wrong 44 = .ok (.getfield 29, 3) := by decide +kernel
theorem dX7_wrong_47 : decode cX7_wrong 47 = .ok (.invokevirtual 244, 3) := by decide +kernel
theorem dX7_wrong_50 : decode cX7_wrong 50 = .ok (.istore_n 2, 1) := by decide +kernel
theorem dX7_wrong_51 : decode cX7_wrong 51 = .ok (.iload_n 2, 1) := by decide +kernel
theorem dX7_wrong_52 : decode cX7_wrong 52 = .ok (.ifCond .ge 6, 3) := by decide +kernel
theorem dX7_wrong_55 : decode cX7_wrong 55 = .ok (.ldc 206, 2) := by decide +kernel
theorem dX7_wrong_57 : decode cX7_wrong 57 = .ok (.ireturn, 1) := by decide +kernel
theorem dX7_wrong_58 : decode cX7_wrong 58 = .ok (.iload_n 1, 1) := by decide +kernel
theorem dX7_wrong_59 : decode cX7_wrong 59 = .ok (.ifCond .ne 10, 3) := by decide +kernel
theorem dX7_wrong_62 : decode cX7_wrong 62 = .ok (.iload_n 2, 1) := by decide +kernel
theorem dX7_wrong_63 : decode cX7_wrong 63 = .ok (.bipush 64, 2) := by decide +kernel
theorem dX7_wrong_65 : decode cX7_wrong 65 = .ok (.idiv, 1) := by decide +kernel
theorem dX7_wrong_66 : decode cX7_wrong 66 = .ok (.goto 7, 3) := by decide +kernel
theorem dX7_wrong_69 : decode cX7_wrong 69 = .ok (.iload_n 2, 1) := by decide +kernel
theorem dX7_wrong_70 : decode cX7_wrong 70 = .ok (.bipush 64, 2) := by decide +kernel
theorem dX7_wrong_72 : decode cX7_wrong 72 = .ok (.irem, 1) := by decide +kernel
theorem dX7_wrong_73 : decode cX7_wrong 73 = .ok (.ireturn, 1) := by decide +kernel
def rmX7_wrong : Room := { frames := 4, cells := 0, slots := 0, locals := 90 }
def wX7_wrong (M : zM) (o0 : Nat) (x1 : Int32) (Q : Int32 → zM → Prop) : Prop :=
    wX2_isThere M (o0 + 20) (fun r4 =>
    ((¬ r4 = 0) → (
    wX7_isWithin M x1 (0 : Int32) (1 : Int32) (fun r5 =>
    ((¬ r5 = 0) → (
    wX2_become M (o0 + 25) (o0 + 20) (fun M6 =>
    wX2_dropSlews M6 (o0 + 25) (fun M7 =>
    wX2_misread M7 (o0 + 25) (fun r8 M9 =>
    ((0 ≤ r8) → (
    ((¬ x1 = 0) → (
    Q (r8 - r8 / (64 : Int32) * (64 : Int32)) M9)) ∧
    ((x1 = 0) → (
    Q (r8 / (64 : Int32)) M9)))) ∧
    ((¬ 0 ≤ r8) → (
    Q (-1000000 : Int32) M9))))))) ∧
    ((r5 = 0) → (
    Q (-1000001 : Int32) M))))) ∧
    ((r4 = 0) → (
    Q (-1000002 : Int32) M)))
set_option maxHeartbeats 4000000 in
set_option maxRecDepth 100000 in
theorem kX7_wrong {l : Launch} {D : va_G} {Y : zY} {ad kd : Nat → Nat} {RL : List Nat} {M : zM} {J : zL} {o0 : Nat} {x1 : Int32} (h_o0 : kd o0 = 7) {Q : Int32 → zM → Prop} (hq : wX7_wrong M o0 x1 Q) : zCi l yX7_wrong wsX7_wrong rmX7_wrong [.ref (ad o0), .int x1] D Y ad kd RL M J (fun r M' J' => Q r M' ∧ J = J') := by
  refine z_meti (cc := cX7_wrong) (maxL := 3) (ret := (some .int)) (by decide) rfl (Nat.le_of_ble_eq_true rfl) ?_
  intro p e s m below meth c ls A ar QE hQE hx hb hr hml hown hts hlk hw hl
  have hown : s.vm.findClass RX7 = some m.cls := hown
  have hl : lv_has ls 3 [(0, .ref (ad o0)), (1, .int x1)] := hl
  have hC := hw.2.2.2.2.2.1
  have g7 : ∀ w ∈ wsX70, w.before ar s = true := (fun w h => hts w (List.mem_cons_of_mem _ (List.mem_append_left _ (List.mem_append_right _ h))))
  have q1 := hts _ (List.mem_of_getElem? (i := 1) rfl)
  have q2 := hts _ (List.mem_of_getElem? (i := 2) rfl)
  have q3 := hts _ (List.mem_of_getElem? (i := 3) rfl)
  have q4 := hts _ (List.mem_of_getElem? (i := 4) rfl)
  have q5 := hts _ (List.mem_of_getElem? (i := 5) rfl)
  unfold wX7_wrong at hq
  refine lv_aload_n hx hb dX7_wrong_0 rfl (lv_at hl 0 rfl) ?_
  refine zg7_rail hx hb g7 hown hw h_o0 q1 dX7_wrong_1 ?_
  refine z_cvi ⟨hx, hb, hml, hown, hts⟩ hw (zk_7_20 hC h_o0) (kX2_isThere (zk_7_20 hC h_o0) hq) (by decide) rfl (cwV 0 hts gX7_wrong_X2_isThere rfl rfl rfl (by decide +kernel) ⟨Nat.le_of_ble_eq_true rfl, Nat.le_of_ble_eq_true rfl⟩) rfl hl.1 rfl (Nat.le_of_ble_eq_true rfl) dX7_wrong_4 ⟨Nat.zero_le _, Nat.zero_le _⟩ (fun r4 M0 J0 H locs hq hw => ?_)
  obtain ⟨hq, rfl, rfl⟩ := hq
  refine lv_if_ne (tgt := 13) hx hb dX7_wrong_7 (by decide) (fun hc => ?_) (fun hc => ?_)
  · have hq := hq.1 hc
    refine lv_iload_n hx hb dX7_wrong_13 rfl (lv_at hl 1 rfl) ?_
    refine lv_iconst (v := (0 : Int32)) hx hb dX7_wrong_14 (by decide) ?_
    refine lv_iconst (v := (1 : Int32)) hx hb dX7_wrong_15 (by decide) ?_
    refine z_csi ⟨hx, hb, hml, hown, hts⟩ hw (kX7_isWithin  hq) (va_cwS 3 hts gX7_wrong_X7_isWithin rfl rfl rfl (by decide +kernel) ⟨Nat.le_of_ble_eq_true rfl, Nat.le_of_ble_eq_true rfl⟩) rfl hl.1 rfl (Nat.le_of_ble_eq_true rfl) dX7_wrong_16 ⟨Nat.zero_le _, Nat.zero_le _⟩ (fun r5 M0 J0 H locs hq hw => ?_)
    obtain ⟨hq, rfl, rfl⟩ := hq
    refine lv_if_ne (tgt := 25) hx hb dX7_wrong_19 (by decide) (fun hc => ?_) (fun hc => ?_)
    · have hq := hq.1 hc
      refine lv_aload_n hx hb dX7_wrong_25 rfl (lv_at hl 0 rfl) ?_
      refine zg7_draft hx hb g7 hown hw h_o0 q4 dX7_wrong_26 ?_
      refine lv_aload_n hx hb dX7_wrong_29 rfl (lv_at hl 0 rfl) ?_
      refine zg7_rail hx hb g7 hown hw h_o0 q1 dX7_wrong_30 ?_
      refine z_cvv ⟨hx, hb, hml, hown, hts⟩ hw (zk_7_25 hC h_o0) (kX2_become (zk_7_25 hC h_o0) (zk_7_20 hC h_o0) hq) (by decide) rfl (cwV 1 hts gX7_wrong_X2_become rfl rfl rfl (by decide +kernel) ⟨Nat.le_of_ble_eq_true rfl, Nat.le_of_ble_eq_true rfl⟩) rfl hl.1 rfl (Nat.le_of_ble_eq_true rfl) dX7_wrong_33 ⟨Nat.zero_le _, Nat.zero_le _⟩ (fun M6 J0 H locs hq hw => ?_)
      obtain ⟨hq, rfl⟩ := hq
      refine lv_aload_n hx hb dX7_wrong_36 rfl (lv_at hl 0 rfl) ?_
      refine zg7_draft hx hb g7 hown hw h_o0 q4 dX7_wrong_37 ?_
      refine z_cvv ⟨hx, hb, hml, hown, hts⟩ hw (zk_7_25 hC h_o0) (kX2_dropSlews (zk_7_25 hC h_o0) hq) (by decide) rfl (cwV 0 hts gX7_wrong_X2_dropSlews rfl rfl rfl (by decide +kernel) ⟨Nat.le_of_ble_eq_true rfl, Nat.le_of_ble_eq_true rfl⟩) rfl hl.1 rfl (Nat.le_of_ble_eq_true rfl) dX7_wrong_40 ⟨Nat.zero_le _, Nat.zero_le _⟩ (fun M7 J0 H locs hq hw => ?_)
      obtain ⟨hq, rfl⟩ := hq
      refine lv_aload_n hx hb dX7_wrong_43 rfl (lv_at hl 0 rfl) ?_
      refine zg7_draft hx hb g7 hown hw h_o0 q4 dX7_wrong_44 ?_
      refine z_cvi ⟨hx, hb, hml, hown, hts⟩ hw (zk_7_25 hC h_o0) (kX2_misread (zk_7_25 hC h_o0) hq) (by decide) rfl (cwV 0 hts gX7_wrong_X2_misread rfl rfl rfl (by decide +kernel) ⟨Nat.le_of_ble_eq_true rfl, Nat.le_of_ble_eq_true rfl⟩) rfl hl.1 rfl (Nat.le_of_ble_eq_true rfl) dX7_wrong_47 ⟨Nat.zero_le _, Nat.zero_le _⟩ (fun r8 M9 J0 H locs hq hw => ?_)
      obtain ⟨hq, rfl⟩ := hq
      refine lv_istore_n (lv' := [(2, .int r8), (0, .ref (ad o0)), (1, .int x1)]) hx hb dX7_wrong_50 rfl hl (by decide) rfl (fun ls hl => ?_)
      refine lv_iload_n hx hb dX7_wrong_51 rfl (lv_at hl 0 rfl) ?_
      refine lv_if_ge (tgt := 58) hx hb dX7_wrong_52 (by decide) (fun hc => ?_) (fun hc => ?_)
      · have hq := hq.1 hc
        refine lv_iload_n hx hb dX7_wrong_58 rfl (lv_at hl 2 rfl) ?_
        refine lv_if_ne (tgt := 69) hx hb dX7_wrong_59 (by decide) (fun hc => ?_) (fun hc => ?_)
        · have hq := hq.1 hc
          refine lv_iload_n hx hb dX7_wrong_69 rfl (lv_at hl 0 rfl) ?_
          refine lv_bipush (v := (64 : Int32)) hx hb dX7_wrong_70 (by decide) ?_
          refine lv_irem hx hb dX7_wrong_72 (by decide) ?_
          exact z_iret hQE hx hb hr hlk hw dX7_wrong_73 ⟨hq, rfl⟩
        · have hq := hq.2 hc
          refine lv_iload_n hx hb dX7_wrong_62 rfl (lv_at hl 0 rfl) ?_
          refine lv_bipush (v := (64 : Int32)) hx hb dX7_wrong_63 (by decide) ?_
          refine lv_idiv hx hb dX7_wrong_65 (by decide) ?_
          refine lv_goto (tgt := 73) hx hb dX7_wrong_66 (by decide) ?_
          exact z_iret hQE hx hb hr hlk hw dX7_wrong_73 ⟨hq, rfl⟩
      · have hq := hq.2 hc
        refine lv_ldc (v := (-1000000 : Int32)) hx hb hown q5 dX7_wrong_55 ?_
        exact z_iret hQE hx hb hr hlk hw dX7_wrong_57 ⟨hq, rfl⟩
    · have hq := hq.2 hc
      refine lv_ldc (v := (-1000001 : Int32)) hx hb hown q3 dX7_wrong_22 ?_
      exact z_iret hQE hx hb hr hlk hw dX7_wrong_24 ⟨hq, rfl⟩
  · have hq := hq.2 hc
    refine lv_ldc (v := (-1000002 : Int32)) hx hb hown q2 dX7_wrong_10 ?_
    exact z_iret hQE hx hb hr hlk hw dX7_wrong_12 ⟨hq, rfl⟩
theorem dX7_isBeyondInt_0 : decode cX7_isBeyondInt 0 = .ok (.lload_n 0, 1) := by decide +kernel
theorem dX7_isBeyondInt_1 : decode cX7_isBeyondInt 1 = .ok (.ldc2_w 308, 3) := by decide +kernel
theorem dX7_isBeyondInt_4 : decode cX7_isBeyondInt 4 = .ok (.lcmp, 1) := by decide +kernel
theorem dX7_isBeyondInt_5 : decode cX7_isBeyondInt 5 = .ok (.ifCond .lt 11, 3) := by decide +kernel
theorem dX7_isBeyondInt_8 : decode cX7_isBeyondInt 8 = .ok (.lload_n 0, 1) := by decide +kernel
theorem dX7_isBeyondInt_9 : decode cX7_isBeyondInt 9 = .ok (.ldc2_w 310, 3) := by decide +kernel
theorem dX7_isBeyondInt_12 : decode cX7_isBeyondInt 12 = .ok (.lcmp, 1) := by decide +kernel
theorem dX7_isBeyondInt_13 : decode cX7_isBeyondInt 13 = .ok (.ifCond .le 7, 3) := by decide +kernel
theorem dX7_isBeyondInt_16 : decode cX7_isBeyondInt 16 = .ok (.iconst 1, 1) := by decide +kernel
theorem dX7_isBeyondInt_17 : decode cX7_isBeyondInt 17 = .ok (.goto 4, 3) := by decide +kernel
theorem dX7_isBeyondInt_20 : decode cX7_isBeyondInt 20 = .ok (.iconst 0, 1) := by decide +kernel
theorem dX7_isBeyondInt_21 : decode cX7_isBeyondInt 21 = .ok (.ireturn, 1) := by decide +kernel
def rmX7_isBeyondInt : Room := { frames := 0, cells := 0, slots := 0, locals := 0 }
def wX7_isBeyondInt (M : zM) (y0 : Int64) (Q : Int32 → Prop) : Prop :=
    (((lg_cmp y0 (-2147483648 : Int64)) < 0) → (
    Q (1 : Int32))) ∧
    ((¬ (lg_cmp y0 (-2147483648 : Int64)) < 0) → (
    (((lg_cmp y0 (2147483647 : Int64)) ≤ 0) → (
    Q (0 : Int32))) ∧
    ((¬ (lg_cmp y0 (2147483647 : Int64)) ≤ 0) → (
    Q (1 : Int32)))))
set_option maxHeartbeats 4000000 in
set_option maxRecDepth 100000 in
theorem kX7_isBeyondInt {l : Launch} {D : va_G} {Y : zY} {ad kd : Nat → Nat} {RL : List Nat} {M : zM} {J : zL} {y0 : Int64}  {Q : Int32 → Prop} (hq : wX7_isBeyondInt M y0 Q) : zCi l yX7_isBeyondInt wsX7_isBeyondInt rmX7_isBeyondInt [.long y0] D Y ad kd RL M J (fun r M' J' => Q r ∧ M = M' ∧ J = J') := by
  refine z_meti (cc := cX7_isBeyondInt) (maxL := 2) (ret := (some .boolean)) (by decide) rfl (Nat.le_of_ble_eq_true rfl) ?_
  intro p e s m below meth c ls A ar QE hQE hx hb hr hml hown hts hlk hw hl
  have hown : s.vm.findClass RX7 = some m.cls := hown
  have hl : lv_has ls 2 [(0, .long y0)] := hl
  have hC := hw.2.2.2.2.2.1
  have q1 := hts _ (List.mem_of_getElem? (i := 1) rfl)
  have q2 := hts _ (List.mem_of_getElem? (i := 2) rfl)
  unfold wX7_isBeyondInt at hq
  refine lv_lload_n hx hb dX7_isBeyondInt_0 rfl (lv_at hl 0 rfl) ?_
  refine lv_ldc2 (v := (-2147483648 : Int64)) hx hb hown q1 dX7_isBeyondInt_1 ?_
  refine W.lcmp hx hb dX7_isBeyondInt_4 ?_
  refine lv_if_lt (tgt := 16) hx hb dX7_isBeyondInt_5 (by decide) (fun hc => ?_) (fun hc => ?_)
  · have hq := hq.1 hc
    refine lv_iconst (v := (1 : Int32)) hx hb dX7_isBeyondInt_16 (by decide) ?_
    refine lv_goto (tgt := 21) hx hb dX7_isBeyondInt_17 (by decide) ?_
    exact z_zret hQE hx hb hr hlk hw dX7_isBeyondInt_21 (by decide) ⟨hq, rfl, rfl⟩
  · have hq := hq.2 hc
    refine lv_lload_n hx hb dX7_isBeyondInt_8 rfl (lv_at hl 0 rfl) ?_
    refine lv_ldc2 (v := (2147483647 : Int64)) hx hb hown q2 dX7_isBeyondInt_9 ?_
    refine W.lcmp hx hb dX7_isBeyondInt_12 ?_
    refine lv_if_le (tgt := 20) hx hb dX7_isBeyondInt_13 (by decide) (fun hc => ?_) (fun hc => ?_)
    · have hq := hq.1 hc
      refine lv_iconst (v := (0 : Int32)) hx hb dX7_isBeyondInt_20 (by decide) ?_
      exact z_zret hQE hx hb hr hlk hw dX7_isBeyondInt_21 (by decide) ⟨hq, rfl, rfl⟩
    · have hq := hq.2 hc
      refine lv_iconst (v := (1 : Int32)) hx hb dX7_isBeyondInt_16 (by decide) ?_
      refine lv_goto (tgt := 21) hx hb dX7_isBeyondInt_17 (by decide) ?_
      exact z_zret hQE hx hb hr hlk hw dX7_isBeyondInt_21 (by decide) ⟨hq, rfl, rfl⟩
set_option maxRecDepth 20000 in
theorem ggX7_moment_X2_isThere : GoodIn wsX7_moment wsX2_isThere := goodIn_r _ [8, 9, 46, 47, 48, 49, 50, 51] (by decide +kernel) (by decide +kernel)
set_option maxRecDepth 20000 in
theorem gX7_moment_X2_isThere : GoodIn wsX7_moment (wsV RX7 164 RX2 yX2_isThere wsX2_isThere) := goodIn_app (goodIn_of _ (by decide +kernel)) ggX7_moment_X2_isThere
set_option maxRecDepth 20000 in
theorem ggX7_moment_X2_now : GoodIn wsX7_moment wsX2_now := goodIn_r _ [13, 14, 15, 16, 17, 18, 7, 19, 9, 46, 47, 48, 49, 50, 51] (by decide +kernel) (by decide +kernel)
set_option maxRecDepth 20000 in
theorem gX7_moment_X2_now : GoodIn wsX7_moment (wsV RX7 203 RX2 yX2_now wsX2_now) := goodIn_app (goodIn_of _ (by decide +kernel)) ggX7_moment_X2_now
set_option maxRecDepth 20000 in
theorem ggX7_moment_X7_isBeyondInt : GoodIn wsX7_moment wsX7_isBeyondInt := goodIn_r _ [23, 24, 25] (by decide +kernel) (by decide +kernel)
set_option maxRecDepth 20000 in
theorem gX7_moment_X7_isBeyondInt : GoodIn wsX7_moment (va_wsS RX7 247 yX7_isBeyondInt wsX7_isBeyondInt) := goodIn_app (goodIn_of _ (by decide +kernel)) ggX7_moment_X7_isBeyondInt
set_option maxRecDepth 20000 in
theorem ggX7_moment_X7_found : GoodIn wsX7_moment wsX7_found := goodIn_r _ [29, 30, 31, 36, 37, 38, 39, 40, 41, 42, 43, 44, 45] (by decide +kernel) (by decide +kernel)
set_option maxRecDepth 20000 in
theorem gX7_moment_X7_found : GoodIn wsX7_moment (wsV RX7 75 RX7 yX7_found wsX7_found) := goodIn_app (goodIn_of _ (by decide +kernel)) ggX7_moment_X7_found
set_option maxRecDepth 20000 in
theorem ggX7_moment_X7_fine : GoodIn wsX7_moment wsX7_fine := goodIn_r _ [35, 30, 36, 37, 38, 39, 40, 41, 42, 43, 44, 45] (by decide +kernel) (by decide +kernel)
set_option maxRecDepth 20000 in
theorem gX7_moment_X7_fine : GoodIn wsX7_moment (wsV RX7 83 RX7 yX7_fine wsX7_fine) := goodIn_app (goodIn_of _ (by decide +kernel)) ggX7_moment_X7_fine
theorem dX7_moment_0 : decode cX7_moment 0 = .ok (.aload_n 0, 1) := by decide +kernel
theorem dX7_moment_1 : decode cX7_moment 1 = .ok (.getfield 25, 3) := by decide +kernel
theorem dX7_moment_4 : decode cX7_moment 4 = .ok (.invokevirtual 164, 3) := by decide +kernel
theorem dX7_moment_7 : decode cX7_moment 7 = .ok (.ifCond .ne 6, 3) := by decide +kernel
theorem dX7_moment_10 : decode cX7_moment 10 = .ok (.ldc 157, 2) := by decide +kernel
theorem dX7_moment_12 : decode cX7_moment 12 = .ok (.ireturn, 1) := by decide +kernel
theorem dX7_moment_13 : decode cX7_moment 13 = .ok (.lconst 0, 1) := by decide +kernel
theorem dX7_moment_14 : decode cX7_moment 14 = .ok (.lstore_n 2, 1) := by decide +kernel
theorem dX7_moment_15 : decode cX7_moment 15 = .ok (.iconst 0, 1) := by decide +kernel
theorem dX7_moment_16 : decode cX7_moment 16 = .ok (.istore 4, 2) := by decide +kernel
theorem dX7_moment_18 : decode cX7_moment 18 = .ok (.iload 4, 2) := by decide +kernel
theorem dX7_moment_20 : decode cX7_moment 20 = .ok (.aload_n 0, 1) := by decide +kernel
theorem dX7_moment_21 : decode cX7_moment 21 = .ok (.getfield 25, 3) := by decide +kernel
theorem dX7_moment_24 : decode cX7_moment 24 = .ok (.getfield 140, 3) := by decide +kernel
theorem dX7_moment_27 : decode cX7_moment 27 = .ok (.if_icmp .ge 57, 3) := by decide +kernel
theorem dX7_moment_30 : decode cX7_moment 30 = .ok (.aload_n 0, 1) := by decide +kernel
theorem dX7_moment_31 : decode cX7_moment 31 = .ok (.getfield 25, 3) := by decide +kernel
theorem dX7_moment_34 : decode cX7_moment 34 = .ok (.iload 4, 2) := by decide +kernel
theorem dX7_moment_36 : decode cX7_moment 36 = .ok (.invokevirtual 203, 3) := by decide +kernel
theorem dX7_moment_39 : decode cX7_moment 39 = .ok (.i2l, 1) := by decide +kernel
theorem dX7_moment_40 : decode cX7_moment 40 = .ok (.iload 4, 2) := by decide +kernel
theorem dX7_moment_42 : decode cX7_moment 42 = .ok (.iconst 1, 1) := by decide +kernel
theorem dX7_moment_43 : decode cX7_moment 43 = .ok (.iadd, 1) := by decide +kernel
theorem dX7_moment_44 : decode cX7_moment 44 = .ok (.i2l, 1) := by decide +kernel
theorem dX7_moment_45 : decode cX7_moment 45 = .ok (.lmul, 1) := by decide +kernel
theorem dX7_moment_46 : decode cX7_moment 46 = .ok (.iload_n 1, 1) := by decide +kernel
theorem dX7_moment_47 : decode cX7_moment 47 = .ok (.i2l, 1) := by decide +kernel
theorem dX7_moment_48 : decode cX7_moment 48 = .ok (.lmul, 1) := by decide +kernel
theorem dX7_moment_49 : decode cX7_moment 49 = .ok (.lstore 5, 2) := by decide +kernel
theorem dX7_moment_51 : decode cX7_moment 51 = .ok (.lload_n 2, 1) := by decide +kernel
theorem dX7_moment_52 : decode cX7_moment 52 = .ok (.lload 5, 2) := by decide +kernel
theorem dX7_moment_54 : decode cX7_moment 54 = .ok (.ladd, 1) := by decide +kernel
theorem dX7_moment_55 : decode cX7_moment 55 = .ok (.lstore_n 2, 1) := by decide +kernel
theorem dX7_moment_56 : decode cX7_moment 56 = .ok (.lload 5, 2) := by decide +kernel
theorem dX7_moment_58 : decode cX7_moment 58 = .ok (.invokestatic 247, 3) := by decide +kernel
theorem dX7_moment_61 : decode cX7_moment 61 = .ok (.ifCond .ne 10, 3) := by decide +kernel
theorem dX7_moment_64 : decode cX7_moment 64 = .ok (.lload_n 2, 1) := by decide +kernel
theorem dX7_moment_65 : decode cX7_moment 65 = .ok (.invokestatic 247, 3) := by decide +kernel
theorem dX7_moment_68 : decode cX7_moment 68 = .ok (.ifCond .eq 10, 3) := by decide +kernel
theorem dX7_moment_71 : decode cX7_moment 71 = .ok (.aload_n 0, 1) := by decide +kernel
theorem dX7_moment_72 : decode cX7_moment 72 = .ok (.bipush 6, 2) := by decide +kernel
theorem dX7_moment_74 : decode cX7_moment 74 = .ok (.invokevirtual 75, 3) := by decide +kernel
theorem dX7_moment_77 : decode cX7_moment 77 = .ok (.ireturn, 1) := by decide +kernel
theorem dX7_moment_78 : decode cX7_moment 78 = .ok (.iinc 4 1, 3) := by decide +kernel
theorem dX7_moment_81 : decode cX7_moment 81 = .ok (.goto (-63), 3) := by decide +kernel
theorem dX7_moment_84 : decode cX7_moment 84 = .ok (.aload_n 0, 1) := by decide +kernel
theorem dX7_moment_85 : decode cX7_moment 85 = .ok (.lload_n 2, 1) := by decide +kernel
theorem dX7_moment_86 : decode cX7_moment 86 = .ok (.l2i, 1) := by decide +kernel
theorem dX7_moment_87 : decode cX7_moment 87 = .ok (.invokevirtual 83, 3) := by decide +kernel
theorem dX7_moment_90 : decode cX7_moment 90 = .ok (.ireturn, 1) := by decide +kernel
def rmX7_moment : Room := { frames := 2, cells := 0, slots := 0, locals := 42 }
def lpX7_moment_18 (M : zM) (o0 : Nat) (x1 : Int32) (Q : Int32 → zM → Prop) : Nat → Int64 → Int32 → Prop
  | 0, _, _ => False
  | fu18 + 1, y5, x6 =>
    (((M (o0 + 20) 0) ≤ x6) → (
    wX7_fine M o0 y5.toInt32 (fun r7 M8 =>
    Q r7 M8))) ∧
    ((¬ (M (o0 + 20) 0) ≤ x6) → (
    wX2_now M (o0 + 20) x6 (fun r9 =>
    ∀ y10 : Int64, y10 = ((r9.toInt64 * (x6 + (1 : Int32)).toInt64) * x1.toInt64) →
    wX7_isBeyondInt M y10 (fun r11 =>
    ((¬ r11 = 0) → (
    wX7_found M o0 (6 : Int32) (fun r12 M13 =>
    Q r12 M13))) ∧
    ((r11 = 0) → (
    wX7_isBeyondInt M (y5 + y10) (fun r14 =>
    ((r14 = 0) → (
    ∀ x15 : Int32, x15 = x6 + (1 : Int32) →
    lpX7_moment_18 M o0 x1 Q fu18 (y5 + y10) x15)) ∧
    ((¬ r14 = 0) → (
    wX7_found M o0 (6 : Int32) (fun r16 M17 =>
    Q r16 M17))))))))))
def wX7_moment (M : zM) (o0 : Nat) (x1 : Int32) (Q : Int32 → zM → Prop) : Prop :=
    wX2_isThere M (o0 + 20) (fun r4 =>
    ((¬ r4 = 0) → (
    ∃ fu18 : Nat, lpX7_moment_18 M o0 x1 Q fu18 (0 : Int64) (0 : Int32))) ∧
    ((r4 = 0) → (
    Q (-1000002 : Int32) M)))
set_option maxHeartbeats 4000000 in
set_option maxRecDepth 100000 in
theorem kX7_moment {l : Launch} {D : va_G} {Y : zY} {ad kd : Nat → Nat} {RL : List Nat} {M : zM} {J : zL} {o0 : Nat} {x1 : Int32} (h_o0 : kd o0 = 7) {Q : Int32 → zM → Prop} (hq : wX7_moment M o0 x1 Q) : zCi l yX7_moment wsX7_moment rmX7_moment [.ref (ad o0), .int x1] D Y ad kd RL M J (fun r M' J' => Q r M' ∧ J = J') := by
  refine z_meti (cc := cX7_moment) (maxL := 7) (ret := (some .int)) (by decide) rfl (Nat.le_of_ble_eq_true rfl) ?_
  intro p e s m below meth c ls A ar QE hQE hx hb hr hml hown hts hlk hw hl
  have hown : s.vm.findClass RX7 = some m.cls := hown
  have hl : lv_has ls 7 [(0, .ref (ad o0)), (1, .int x1)] := hl
  have hC := hw.2.2.2.2.2.1
  have g2 : ∀ w ∈ wsX20, w.before ar s = true := (fun w h => hts w (List.mem_cons_of_mem _ (List.mem_append_right _ h)))
  have g7 : ∀ w ∈ wsX70, w.before ar s = true := (fun w h => hts w (List.mem_cons_of_mem _ (List.mem_append_left _ (List.mem_append_right _ h))))
  have q1 := hts _ (List.mem_of_getElem? (i := 1) rfl)
  have q2 := hts _ (List.mem_of_getElem? (i := 2) rfl)
  have q3 := hts _ (List.mem_of_getElem? (i := 3) rfl)
  unfold wX7_moment at hq
  refine lv_aload_n hx hb dX7_moment_0 rfl (lv_at hl 0 rfl) ?_
  refine zg7_rail hx hb g7 hown hw h_o0 q1 dX7_moment_1 ?_
  refine z_cvi ⟨hx, hb, hml, hown, hts⟩ hw (zk_7_20 hC h_o0) (kX2_isThere (zk_7_20 hC h_o0) hq) (by decide) rfl (cwV 0 hts gX7_moment_X2_isThere rfl rfl rfl (by decide +kernel) ⟨Nat.le_of_ble_eq_true rfl, Nat.le_of_ble_eq_true rfl⟩) rfl hl.1 rfl (Nat.le_of_ble_eq_true rfl) dX7_moment_4 ⟨Nat.zero_le _, Nat.zero_le _⟩ (fun r4 M0 J0 H locs hq hw => ?_)
  obtain ⟨hq, rfl, rfl⟩ := hq
  refine lv_if_ne (tgt := 13) hx hb dX7_moment_7 (by decide) (fun hc => ?_) (fun hc => ?_)
  · have hq := hq.1 hc
    refine lv_lconst (v := (0 : Int64)) hx hb dX7_moment_13 (by decide) ?_
    refine lv_lstore_n (lv' := [(2, .long (0 : Int64)), (0, .ref (ad o0)), (1, .int x1)]) hx hb dX7_moment_14 rfl hl (by decide) rfl (fun ls hl => ?_)
    refine lv_iconst (v := (0 : Int32)) hx hb dX7_moment_15 (by decide) ?_
    refine lv_istore (lv' := [(4, .int (0 : Int32)), (2, .long (0 : Int64)), (0, .ref (ad o0)), (1, .int x1)]) hx hb dX7_moment_16 hl (by decide) rfl (fun ls hl => ?_)
    obtain ⟨fu18, hq⟩ := hq
    have lp18 : ∀ (fu18 : Nat) (y5 : Int64) (x6 : Int32) (H : Heap) (locs : List Loc) (ls : Array Slot), lpX7_moment_18 M o0 x1 Q fu18 y5 x6 → zH D Y ad kd RL M J A s.heap H locs s → lv_has ls 7 [(0, .ref (ad o0)), (1, .int x1), (2, .long y5), (4, .int x6)] → W p l e rmX7_moment s m ar below meth c H locs 0 0 QE (F0 m 18 ls []) := by
      intro fu18
      induction fu18 with
      | zero => intro y5 x6 H locs ls hq; exact hq.elim
      | succ fu18 ih18 =>
        intro y5 x6 H locs ls hq hw hl
        unfold lpX7_moment_18 at hq
        refine lv_iload hx hb dX7_moment_18 (lv_at hl 3 rfl) ?_
        refine lv_aload_n hx hb dX7_moment_20 rfl (lv_at hl 0 rfl) ?_
        refine zg7_rail hx hb g7 hown hw h_o0 q1 dX7_moment_21 ?_
        refine zg2_pegs hx hb g2 hown hw (zk_7_20 hC h_o0) q3 dX7_moment_24 ?_
        refine lv_icmp_ge (tgt := 84) hx hb dX7_moment_27 (by decide) (fun hc => ?_) (fun hc => ?_)
        · have hq := hq.1 hc
          refine lv_aload_n hx hb dX7_moment_84 rfl (lv_at hl 0 rfl) ?_
          refine lv_lload_n hx hb dX7_moment_85 rfl (lv_at hl 2 rfl) ?_
          refine lv_l2i hx hb dX7_moment_86 rfl ?_
          refine z_cvi ⟨hx, hb, hml, hown, hts⟩ hw h_o0 (kX7_fine h_o0 hq) (by decide) rfl (cwV 1 hts gX7_moment_X7_fine rfl rfl rfl (by decide +kernel) ⟨Nat.le_of_ble_eq_true rfl, Nat.le_of_ble_eq_true rfl⟩) rfl hl.1 rfl (Nat.le_of_ble_eq_true rfl) dX7_moment_87 ⟨Nat.zero_le _, Nat.zero_le _⟩ (fun r7 M8 J0 H locs hq hw => ?_)
          obtain ⟨hq, rfl⟩ := hq
          exact z_iret hQE hx hb hr hlk hw dX7_moment_90 ⟨hq, rfl⟩
        · have hq := hq.2 hc
          refine lv_aload_n hx hb dX7_moment_30 rfl (lv_at hl 0 rfl) ?_
          refine zg7_rail hx hb g7 hown hw h_o0 q1 dX7_moment_31 ?_
          refine lv_iload hx hb dX7_moment_34 (lv_at hl 3 rfl) ?_
          refine z_cvi ⟨hx, hb, hml, hown, hts⟩ hw (zk_7_20 hC h_o0) (kX2_now (zk_7_20 hC h_o0) hq) (by decide) rfl (cwV 1 hts gX7_moment_X2_now rfl rfl rfl (by decide +kernel) ⟨Nat.le_of_ble_eq_true rfl, Nat.le_of_ble_eq_true rfl⟩) rfl hl.1 rfl (Nat.le_of_ble_eq_true rfl) dX7_moment_36 ⟨Nat.zero_le _, Nat.zero_le _⟩ (fun r9 M0 J0 H locs hq hw => ?_)
          obtain ⟨hq, rfl, rfl⟩ := hq
          refine lv_i2l hx hb dX7_moment_39 rfl ?_
          refine lv_iload hx hb dX7_moment_40 (lv_at hl 3 rfl) ?_
          refine lv_iconst (v := (1 : Int32)) hx hb dX7_moment_42 (by decide) ?_
          refine lv_iadd hx hb dX7_moment_43 ?_
          refine lv_i2l hx hb dX7_moment_44 rfl ?_
          refine lv_lmul hx hb dX7_moment_45 ?_
          refine lv_iload_n hx hb dX7_moment_46 rfl (lv_at hl 1 rfl) ?_
          refine lv_i2l hx hb dX7_moment_47 rfl ?_
          refine lv_lmul hx hb dX7_moment_48 ?_
          refine lv_topl (fun y10 e_y10 => ?_)
          have hq := hq y10 e_y10
          refine lv_lstore (lv' := [(5, .long y10), (0, .ref (ad o0)), (1, .int x1), (2, .long y5), (4, .int x6)]) hx hb dX7_moment_49 hl (by decide) rfl (fun ls hl => ?_)
          refine lv_lload_n hx hb dX7_moment_51 rfl (lv_at hl 3 rfl) ?_
          refine lv_lload hx hb dX7_moment_52 (lv_at hl 0 rfl) ?_
          refine lv_ladd hx hb dX7_moment_54 ?_
          refine lv_lstore_n (lv' := [(2, .long (y5 + y10)), (5, .long y10), (0, .ref (ad o0)), (1, .int x1), (4, .int x6)]) hx hb dX7_moment_55 rfl hl (by decide) rfl (fun ls hl => ?_)
          refine lv_lload hx hb dX7_moment_56 (lv_at hl 1 rfl) ?_
          refine z_csi ⟨hx, hb, hml, hown, hts⟩ hw (kX7_isBeyondInt  hq) (va_cwS 1 hts gX7_moment_X7_isBeyondInt rfl rfl rfl (by decide +kernel) ⟨Nat.le_of_ble_eq_true rfl, Nat.le_of_ble_eq_true rfl⟩) rfl hl.1 rfl (Nat.le_of_ble_eq_true rfl) dX7_moment_58 ⟨Nat.zero_le _, Nat.zero_le _⟩ (fun r11 M0 J0 H locs hq hw => ?_)
          obtain ⟨hq, rfl, rfl⟩ := hq
          refine lv_if_ne (tgt := 71) hx hb dX7_moment_61 (by decide) (fun hc => ?_) (fun hc => ?_)
          · have hq := hq.1 hc
            refine lv_aload_n hx hb dX7_moment_71 rfl (lv_at hl 2 rfl) ?_
            refine lv_bipush (v := (6 : Int32)) hx hb dX7_moment_72 (by decide) ?_
            refine z_cvi ⟨hx, hb, hml, hown, hts⟩ hw h_o0 (kX7_found h_o0 hq) (by decide) rfl (cwV 1 hts gX7_moment_X7_found rfl rfl rfl (by decide +kernel) ⟨Nat.le_of_ble_eq_true rfl, Nat.le_of_ble_eq_true rfl⟩) rfl hl.1 rfl (Nat.le_of_ble_eq_true rfl) dX7_moment_74 ⟨Nat.zero_le _, Nat.zero_le _⟩ (fun r12 M13 J0 H locs hq hw => ?_)
            obtain ⟨hq, rfl⟩ := hq
            exact z_iret hQE hx hb hr hlk hw dX7_moment_77 ⟨hq, rfl⟩
          · have hq := hq.2 hc
            refine lv_lload_n hx hb dX7_moment_64 rfl (lv_at hl 0 rfl) ?_
            refine z_csi ⟨hx, hb, hml, hown, hts⟩ hw (kX7_isBeyondInt  hq) (va_cwS 1 hts gX7_moment_X7_isBeyondInt rfl rfl rfl (by decide +kernel) ⟨Nat.le_of_ble_eq_true rfl, Nat.le_of_ble_eq_true rfl⟩) rfl hl.1 rfl (Nat.le_of_ble_eq_true rfl) dX7_moment_65 ⟨Nat.zero_le _, Nat.zero_le _⟩ (fun r14 M0 J0 H locs hq hw => ?_)
            obtain ⟨hq, rfl, rfl⟩ := hq
            refine lv_if_eq (tgt := 78) hx hb dX7_moment_68 (by decide) (fun hc => ?_) (fun hc => ?_)
            · have hq := hq.1 hc
              obtain ⟨x15, e_x15⟩ : ∃ y : Int32, y = x6 + (1 : Int32) := ⟨_, rfl⟩
              have hq := hq x15 e_x15
              refine lv_iinc (v := x15) (lv' := [(4, .int x15), (2, .long (y5 + y10)), (5, .long y10), (0, .ref (ad o0)), (1, .int x1)]) hx hb dX7_moment_78 hl (k := 4) rfl (by rw [e_x15]; rfl) (by decide) rfl (fun ls hl => ?_)
              refine lv_goto (tgt := 18) hx hb dX7_moment_81 (by decide) ?_
              exact ih18 (y5 + y10) x15 _ _ _ hq hw (lv_sub hl [3, 4, 1, 0] rfl)
            · have hq := hq.2 hc
              refine lv_aload_n hx hb dX7_moment_71 rfl (lv_at hl 2 rfl) ?_
              refine lv_bipush (v := (6 : Int32)) hx hb dX7_moment_72 (by decide) ?_
              refine z_cvi ⟨hx, hb, hml, hown, hts⟩ hw h_o0 (kX7_found h_o0 hq) (by decide) rfl (cwV 1 hts gX7_moment_X7_found rfl rfl rfl (by decide +kernel) ⟨Nat.le_of_ble_eq_true rfl, Nat.le_of_ble_eq_true rfl⟩) rfl hl.1 rfl (Nat.le_of_ble_eq_true rfl) dX7_moment_74 ⟨Nat.zero_le _, Nat.zero_le _⟩ (fun r16 M17 J0 H locs hq hw => ?_)
              obtain ⟨hq, rfl⟩ := hq
              exact z_iret hQE hx hb hr hlk hw dX7_moment_77 ⟨hq, rfl⟩
    exact lp18 fu18 (0 : Int64) (0 : Int32) _ _ _ hq hw (lv_sub hl [2, 3, 1, 0] rfl)
  · have hq := hq.2 hc
    refine lv_ldc (v := (-1000002 : Int32)) hx hb hown q2 dX7_moment_10 ?_
    exact z_iret hQE hx hb hr hlk hw dX7_moment_12 ⟨hq, rfl⟩
set_option maxRecDepth 20000 in
theorem ggX7_versinesThatFit_X3_tellsNow : GoodIn wsX7_versinesThatFit wsX3_tellsNow := goodIn_r _ [7, 8, 9, 10, 11, 12, 13, 14, 15, 16, 17, 18, 19, 20, 37, 38, 39, 31, 32, 33, 34, 35, 36] (by decide +kernel) (by decide +kernel)
set_option maxRecDepth 20000 in
theorem gX7_versinesThatFit_X3_tellsNow : GoodIn wsX7_versinesThatFit (wsV RX7 313 RX3 yX3_tellsNow wsX3_tellsNow) := goodIn_app (goodIn_of _ (by decide +kernel)) ggX7_versinesThatFit_X3_tellsNow
theorem dX7_versinesThatFit_0 : decode cX7_versinesThatFit 0 = .ok (.iconst 0, 1) := by decide +kernel
theorem dX7_versinesThatFit_1 : decode cX7_versinesThatFit 1 = .ok (.istore 4, 2) := by decide +kernel
theorem dX7_versinesThatFit_3 : decode cX7_versinesThatFit 3 = .ok (.iconst 0, 1) := by decide +kernel
theorem dX7_versinesThatFit_4 : decode cX7_versinesThatFit 4 = .ok (.istore 5, 2) := by decide +kernel
theorem dX7_versinesThatFit_6 : decode cX7_versinesThatFit 6 = .ok (.iload 5, 2) := by decide +kernel
theorem dX7_versinesThatFit_8 : decode cX7_versinesThatFit 8 = .ok (.bipush 60, 2) := by decide +kernel
theorem dX7_versinesThatFit_10 : decode cX7_versinesThatFit 10 = .ok (.if_icmp .gt 35, 3) := by decide +kernel
theorem dX7_versinesThatFit_13 : decode cX7_versinesThatFit 13 = .ok (.aload_n 0, 1) := by decide +kernel
theorem dX7_versinesThatFit_14 : decode cX7_versinesThatFit 14 = .ok (.getfield 29, 3) := by decide +kernel
theorem dX7_versinesThatFit_17 : decode cX7_versinesThatFit 17 = .ok (.getfield 188, 3) := by decide +kernel
theorem dX7_versinesThatFit_20 : decode cX7_versinesThatFit 20 = .ok (.iload_n 1, 1) := by decide +kernel
theorem dX7_versinesThatFit_21 : decode cX7_versinesThatFit 21 = .ok (.iload 5, 2) := by decide +kernel
theorem dX7_versinesThatFit_23 : decode cX7_versinesThatFit 23 = .ok (.iastore, 1) := by decide +kernel
theorem dX7_versinesThatFit_24 : decode cX7_versinesThatFit 24 = .ok (.aload_n 2, 1) := by decide +kernel
theorem dX7_versinesThatFit_25 : decode cX7_versinesThatFit 25 = .ok (.aload_n 0, 1) := by decide +kernel
theorem dX7_versinesThatFit_26 : decode cX7_versinesThatFit 26 = .ok (.getfield 29, 3) := by decide +kernel
theorem dX7_versinesThatFit_29 : decode cX7_versinesThatFit 29 = .ok (.iload_n 3, 1) := by decide +kernel
theorem dX7_versinesThatFit_30 : decode cX7_versinesThatFit 30 = .ok (.invokevirtual 313, 3) := by decide +kernel
theorem dX7_versinesThatFit_33 : decode cX7_versinesThatFit 33 = .ok (.ifCond .eq 6, 3) := by decide +kernel
theorem dX7_versinesThatFit_36 : decode cX7_versinesThatFit 36 = .ok (.iinc 4 1, 3) := by decide +kernel
theorem dX7_versinesThatFit_39 : decode cX7_versinesThatFit 39 = .ok (.iinc 5 1, 3) := by decide +kernel
theorem dX7_versinesThatFit_42 : decode cX7_versinesThatFit 42 = .ok (.goto (-36), 3) := by decide +kernel
theorem dX7_versinesThatFit_45 : decode cX7_versinesThatFit 45 = .ok (.iload 4, 2) := by decide +kernel
theorem dX7_versinesThatFit_47 : decode cX7_versinesThatFit 47 = .ok (.ireturn, 1) := by decide +kernel
def rmX7_versinesThatFit : Room := { frames := 3, cells := 0, slots := 0, locals := 65 }
def lpX7_versinesThatFit_6 (o0 : Nat) (x1 : Int32) (o2 : Nat) (x3 : Int32) (Q : Int32 → zM → Prop) : Nat → Int32 → Int32 → zM → Prop
  | 0, _, _, _ => False
  | fu6 + 1, x6, x7, M8 =>
    (((60 : Int32) < x7) → (
    Q x6 M8)) ∧
    ((¬ (60 : Int32) < x7) → (
    vp_in x1 12 ∧
    ∀ M9 : zM, M9 = va_up M8 ((o0 + 25) + 2) (upd (M8 ((o0 + 25) + 2)) x1.toNatClampNeg x7) →
    wX3_tellsNow M9 o2 (o0 + 25) x3 (fun r10 =>
    ((r10 = 0) → (
    ∀ x11 : Int32, x11 = x7 + (1 : Int32) →
    lpX7_versinesThatFit_6 o0 x1 o2 x3 Q fu6 x6 x11 M9)) ∧
    ((¬ r10 = 0) → (
    ∀ x12 : Int32, x12 = x6 + (1 : Int32) →
    ∀ x13 : Int32, x13 = x7 + (1 : Int32) →
    lpX7_versinesThatFit_6 o0 x1 o2 x3 Q fu6 x12 x13 M9)))))
def wX7_versinesThatFit (M : zM) (o0 : Nat) (x1 : Int32) (o2 : Nat) (x3 : Int32) (Q : Int32 → zM → Prop) : Prop :=
    ∃ fu6 : Nat, lpX7_versinesThatFit_6 o0 x1 o2 x3 Q fu6 (0 : Int32) (0 : Int32) M
set_option maxHeartbeats 4000000 in
set_option maxRecDepth 100000 in
theorem kX7_versinesThatFit {l : Launch} {D : va_G} {Y : zY} {ad kd : Nat → Nat} {RL : List Nat} {M : zM} {J : zL} {o0 : Nat} {x1 : Int32} {o2 : Nat} {x3 : Int32} (h_o0 : kd o0 = 7) (h_o2 : kd o2 = 3) {Q : Int32 → zM → Prop} (hq : wX7_versinesThatFit M o0 x1 o2 x3 Q) : zCi l yX7_versinesThatFit wsX7_versinesThatFit rmX7_versinesThatFit [.ref (ad o0), .int x1, .ref (ad o2), .int x3] D Y ad kd RL M J (fun r M' J' => Q r M' ∧ J = J') := by
  refine z_meti (cc := cX7_versinesThatFit) (maxL := 6) (ret := (some .int)) (by decide) rfl (Nat.le_of_ble_eq_true rfl) ?_
  intro p e s m below meth c ls A ar QE hQE hx hb hr hml hown hts hlk hw hl
  have hown : s.vm.findClass RX7 = some m.cls := hown
  have hl : lv_has ls 6 [(0, .ref (ad o0)), (1, .int x1), (2, .ref (ad o2)), (3, .int x3)] := hl
  have hC := hw.2.2.2.2.2.1
  have g2 : ∀ w ∈ wsX20, w.before ar s = true := (fun w h => hts w (List.mem_cons_of_mem _ (List.mem_append_left _ (List.mem_append_right _ h))))
  have g7 : ∀ w ∈ wsX70, w.before ar s = true := (fun w h => hts w (List.mem_cons_of_mem _ (List.mem_append_left _ (List.mem_append_left _ (List.mem_append_right _ h)))))
  have q1 := hts _ (List.mem_of_getElem? (i := 1) rfl)
  have q2 := hts _ (List.mem_of_getElem? (i := 2) rfl)
  unfold wX7_versinesThatFit at hq
  refine lv_iconst (v := (0 : Int32)) hx hb dX7_versinesThatFit_0 (by decide) ?_
  refine lv_istore (lv' := [(4, .int (0 : Int32)), (0, .ref (ad o0)), (1, .int x1), (2, .ref (ad o2)), (3, .int x3)]) hx hb dX7_versinesThatFit_1 hl (by decide) rfl (fun ls hl => ?_)
  refine lv_iconst (v := (0 : Int32)) hx hb dX7_versinesThatFit_3 (by decide) ?_
  refine lv_istore (lv' := [(5, .int (0 : Int32)), (4, .int (0 : Int32)), (0, .ref (ad o0)), (1, .int x1), (2, .ref (ad o2)), (3, .int x3)]) hx hb dX7_versinesThatFit_4 hl (by decide) rfl (fun ls hl => ?_)
  obtain ⟨fu6, hq⟩ := hq
  have lp6 : ∀ (fu6 : Nat) (x6 : Int32) (x7 : Int32) (M8 : zM) (H : Heap) (locs : List Loc) (ls : Array Slot), lpX7_versinesThatFit_6 o0 x1 o2 x3 Q fu6 x6 x7 M8 → zH D Y ad kd RL M8 J A s.heap H locs s → lv_has ls 6 [(0, .ref (ad o0)), (1, .int x1), (2, .ref (ad o2)), (3, .int x3), (4, .int x6), (5, .int x7)] → W p l e rmX7_versinesThatFit s m ar below meth c H locs 0 0 QE (F0 m 6 ls []) := by
    intro fu6
    induction fu6 with
    | zero => intro x6 x7 M8 H locs ls hq; exact hq.elim
    | succ fu6 ih6 =>
      intro x6 x7 M8 H locs ls hq hw hl
      unfold lpX7_versinesThatFit_6 at hq
      refine lv_iload hx hb dX7_versinesThatFit_6 (lv_at hl 5 rfl) ?_
      refine lv_bipush (v := (60 : Int32)) hx hb dX7_versinesThatFit_8 (by decide) ?_
      refine lv_icmp_gt (tgt := 45) hx hb dX7_versinesThatFit_10 (by decide) (fun hc => ?_) (fun hc => ?_)
      · have hq := hq.1 hc
        refine lv_iload hx hb dX7_versinesThatFit_45 (lv_at hl 4 rfl) ?_
        exact z_iret hQE hx hb hr hlk hw dX7_versinesThatFit_47 ⟨hq, rfl⟩
      · have hq := hq.2 hc
        refine lv_aload_n hx hb dX7_versinesThatFit_13 rfl (lv_at hl 0 rfl) ?_
        refine zg7_draft hx hb g7 hown hw h_o0 q1 dX7_versinesThatFit_14 ?_
        refine zg2_versines hx hb g2 hown hw (zk_7_25 hC h_o0) q2 dX7_versinesThatFit_17 ?_
        refine lv_iload_n hx hb dX7_versinesThatFit_20 rfl (lv_at hl 1 rfl) ?_
        refine lv_iload hx hb dX7_versinesThatFit_21 (lv_at hl 5 rfl) ?_
        obtain ⟨hi, hq⟩ := hq
        refine z_iast (n := 12) hx hb hw (zk_2_2 hC (zk_7_25 hC h_o0)) hi dX7_versinesThatFit_23 (fun H locs hw => ?_)
        obtain ⟨M9, e_M9⟩ : ∃ y : zM, y = va_up M8 ((o0 + 25) + 2) (upd (M8 ((o0 + 25) + 2)) x1.toNatClampNeg x7) := ⟨_, rfl⟩
        rw [← e_M9] at hw
        have hq := hq M9 e_M9
        refine lv_aload_n hx hb dX7_versinesThatFit_24 rfl (lv_at hl 2 rfl) ?_
        refine lv_aload_n hx hb dX7_versinesThatFit_25 rfl (lv_at hl 0 rfl) ?_
        refine zg7_draft hx hb g7 hown hw h_o0 q1 dX7_versinesThatFit_26 ?_
        refine lv_iload_n hx hb dX7_versinesThatFit_29 rfl (lv_at hl 3 rfl) ?_
        refine z_cvi ⟨hx, hb, hml, hown, hts⟩ hw h_o2 (kX3_tellsNow h_o2 (zk_7_25 hC h_o0) hq) (by decide) rfl (cwV 2 hts gX7_versinesThatFit_X3_tellsNow rfl rfl rfl (by decide +kernel) ⟨Nat.le_of_ble_eq_true rfl, Nat.le_of_ble_eq_true rfl⟩) rfl hl.1 rfl (Nat.le_of_ble_eq_true rfl) dX7_versinesThatFit_30 ⟨Nat.zero_le _, Nat.zero_le _⟩ (fun r10 M0 J0 H locs hq hw => ?_)
        obtain ⟨hq, rfl, rfl⟩ := hq
        refine lv_if_eq (tgt := 39) hx hb dX7_versinesThatFit_33 (by decide) (fun hc => ?_) (fun hc => ?_)
        · have hq := hq.1 hc
          obtain ⟨x11, e_x11⟩ : ∃ y : Int32, y = x7 + (1 : Int32) := ⟨_, rfl⟩
          have hq := hq x11 e_x11
          refine lv_iinc (v := x11) (lv' := [(5, .int x11), (0, .ref (ad o0)), (1, .int x1), (2, .ref (ad o2)), (3, .int x3), (4, .int x6)]) hx hb dX7_versinesThatFit_39 hl (k := 5) rfl (by rw [e_x11]; rfl) (by decide) rfl (fun ls hl => ?_)
          refine lv_goto (tgt := 6) hx hb dX7_versinesThatFit_42 (by decide) ?_
          exact ih6 x6 x11 M9 _ _ _ hq hw (lv_sub hl [1, 2, 3, 4, 5, 0] rfl)
        · have hq := hq.2 hc
          obtain ⟨x12, e_x12⟩ : ∃ y : Int32, y = x6 + (1 : Int32) := ⟨_, rfl⟩
          have hq := hq x12 e_x12
          refine lv_iinc (v := x12) (lv' := [(4, .int x12), (0, .ref (ad o0)), (1, .int x1), (2, .ref (ad o2)), (3, .int x3), (5, .int x7)]) hx hb dX7_versinesThatFit_36 hl (k := 4) rfl (by rw [e_x12]; rfl) (by decide) rfl (fun ls hl => ?_)
          obtain ⟨x13, e_x13⟩ : ∃ y : Int32, y = x7 + (1 : Int32) := ⟨_, rfl⟩
          have hq := hq x13 e_x13
          refine lv_iinc (v := x13) (lv' := [(5, .int x13), (4, .int x12), (0, .ref (ad o0)), (1, .int x1), (2, .ref (ad o2)), (3, .int x3)]) hx hb dX7_versinesThatFit_39 hl (k := 5) rfl (by rw [e_x13]; rfl) (by decide) rfl (fun ls hl => ?_)
          refine lv_goto (tgt := 6) hx hb dX7_versinesThatFit_42 (by decide) ?_
          exact ih6 x12 x13 M9 _ _ _ hq hw (lv_sub hl [2, 3, 4, 5, 1, 0] rfl)
  exact lp6 fu6 (0 : Int32) (0 : Int32) M _ _ _ hq hw (lv_sub hl [2, 3, 4, 5, 1, 0] rfl)
set_option maxRecDepth 20000 in
theorem ggX7_leastVersineThatFits_X3_tellsNow : GoodIn wsX7_leastVersineThatFits wsX3_tellsNow := goodIn_r _ [8, 9, 10, 11, 12, 13, 14, 15, 16, 17, 18, 19, 20, 21, 38, 39, 40, 32, 33, 34, 35, 36, 37] (by decide +kernel) (by decide +kernel)
set_option maxRecDepth 20000 in
theorem gX7_leastVersineThatFits_X3_tellsNow : GoodIn wsX7_leastVersineThatFits (wsV RX7 313 RX3 yX3_tellsNow wsX3_tellsNow) := goodIn_app (goodIn_of _ (by decide +kernel)) ggX7_leastVersineThatFits_X3_tellsNow
theorem dX7_leastVersineThatFits_0 : decode cX7_leastVersineThatFits 0 = .ok (.iconst 0, 1) := by decide +kernel
theorem dX7_leastVersineThatFits_1 : decode cX7_leastVersineThatFits 1 = .ok (.istore 4, 2) := by decide +kernel
theorem dX7_leastVersineThatFits_3 : decode cX7_leastVersineThatFits 3 = .ok (.iload 4, 2) := by decide +kernel
theorem dX7_leastVersineThatFits_5 : decode cX7_leastVersineThatFits 5 = .ok (.bipush 60, 2) := by decide +kernel
theorem dX7_leastVersineThatFits_7 : decode cX7_leastVersineThatFits 7 = .ok (.if_icmp .gt 35, 3) := by decide +kernel
theorem dX7_leastVersineThatFits_10 : decode cX7_leastVersineThatFits 10 = .ok (.aload_n 0, 1) := by decide +kernel
theorem dX7_leastVersineThatFits_11 : decode cX7_leastVersineThatFits 11 = .ok (.getfield 29, 3) := by decide +kernel
theorem dX7_leastVersineThatFits_14 : decode cX7_leastVersineThatFits 14 = .ok (.getfield 188, 3) := by decide +kernel
theorem dX7_leastVersineThatFits_17 : decode cX7_leastVersineThatFits 17 = .ok (.iload_n 1, 1) := by decide +kernel
theorem dX7_leastVersineThatFits_18 : decode cX7_leastVersineThatFits 18 = .ok (.iload 4, 2) := by decide +kernel
theorem dX7_leastVersineThatFits_20 : decode cX7_leastVersineThatFits 20 = .ok (.iastore, 1) := by decide +kernel
theorem dX7_leastVersineThatFits_21 : decode cX7_leastVersineThatFits 21 = .ok (.aload_n 2, 1) := by decide +kernel
theorem dX7_leastVersineThatFits_22 : decode cX7_leastVersineThatFits 22 = .ok (.aload_n 0, 1) := by decide +kernel
theorem dX7_leastVersineThatFits_23 : decode cX7_leastVersineThatFits 23 = .ok (.getfield 29, 3) := by decide +kernel
theorem dX7_leastVersineThatFits_26 : decode cX7_leastVersineThatFits 26 = .ok (.iload_n 3, 1) := by decide +kernel
theorem dX7_leastVersineThatFits_27 : decode cX7_leastVersineThatFits 27 = .ok (.invokevirtual 313, 3) := by decide +kernel
theorem dX7_leastVersineThatFits_30 : decode cX7_leastVersineThatFits 30 = .ok (.ifCond .eq 6, 3) := by decide +kernel
theorem dX7_leastVersineThatFits_33 : decode cX7_leastVersineThatFits 33 = .ok (.iload 4, 2) := by decide +kernel
theorem dX7_leastVersineThatFits_35 : decode cX7_leastVersineThatFits 35 = .ok (.ireturn, 1) := by decide +kernel
theorem dX7_leastVersineThatFits_36 : decode cX7_leastVersineThatFits 36 = .ok (.iinc 4 1, 3) := by decide +kernel
theorem dX7_leastVersineThatFits_39 : decode cX7_leastVersineThatFits 39 = .ok (.goto (-36), 3) := by decide +kernel
theorem dX7_leastVersineThatFits_42 : decode cX7_leastVersineThatFits 42 = .ok (.ldc 206, 2) := by decide +kernel
theorem dX7_leastVersineThatFits_44 : decode cX7_leastVersineThatFits 44 = .ok (.ireturn, 1) := by decide +kernel
def rmX7_leastVersineThatFits : Room := { frames := 3, cells := 0, slots := 0, locals := 65 }
def lpX7_leastVersineThatFits_3 (o0 : Nat) (x1 : Int32) (o2 : Nat) (x3 : Int32) (Q : Int32 → zM → Prop) : Nat → Int32 → zM → Prop
  | 0, _, _ => False
  | fu3 + 1, x6, M7 =>
    (((60 : Int32) < x6) → (
    Q (-1000000 : Int32) M7)) ∧
    ((¬ (60 : Int32) < x6) → (
    vp_in x1 12 ∧
    ∀ M8 : zM, M8 = va_up M7 ((o0 + 25) + 2) (upd (M7 ((o0 + 25) + 2)) x1.toNatClampNeg x6) →
    wX3_tellsNow M8 o2 (o0 + 25) x3 (fun r9 =>
    ((r9 = 0) → (
    ∀ x10 : Int32, x10 = x6 + (1 : Int32) →
    lpX7_leastVersineThatFits_3 o0 x1 o2 x3 Q fu3 x10 M8)) ∧
    ((¬ r9 = 0) → (
    Q x6 M8)))))
def wX7_leastVersineThatFits (M : zM) (o0 : Nat) (x1 : Int32) (o2 : Nat) (x3 : Int32) (Q : Int32 → zM → Prop) : Prop :=
    ∃ fu3 : Nat, lpX7_leastVersineThatFits_3 o0 x1 o2 x3 Q fu3 (0 : Int32) M
set_option maxHeartbeats 4000000 in
set_option maxRecDepth 100000 in
theorem kX7_leastVersineThatFits {l : Launch} {D : va_G} {Y : zY} {ad kd : Nat → Nat} {RL : List Nat} {M : zM} {J : zL} {o0 : Nat} {x1 : Int32} {o2 : Nat} {x3 : Int32} (h_o0 : kd o0 = 7) (h_o2 : kd o2 = 3) {Q : Int32 → zM → Prop} (hq : wX7_leastVersineThatFits M o0 x1 o2 x3 Q) : zCi l yX7_leastVersineThatFits wsX7_leastVersineThatFits rmX7_leastVersineThatFits [.ref (ad o0), .int x1, .ref (ad o2), .int x3] D Y ad kd RL M J (fun r M' J' => Q r M' ∧ J = J') := by
  refine z_meti (cc := cX7_leastVersineThatFits) (maxL := 5) (ret := (some .int)) (by decide) rfl (Nat.le_of_ble_eq_true rfl) ?_
  intro p e s m below meth c ls A ar QE hQE hx hb hr hml hown hts hlk hw hl
  have hown : s.vm.findClass RX7 = some m.cls := hown
  have hl : lv_has ls 5 [(0, .ref (ad o0)), (1, .int x1), (2, .ref (ad o2)), (3, .int x3)] := hl
  have hC := hw.2.2.2.2.2.1
  have g2 : ∀ w ∈ wsX20, w.before ar s = true := (fun w h => hts w (List.mem_cons_of_mem _ (List.mem_append_left _ (List.mem_append_right _ h))))
  have g7 : ∀ w ∈ wsX70, w.before ar s = true := (fun w h => hts w (List.mem_cons_of_mem _ (List.mem_append_left _ (List.mem_append_left _ (List.mem_append_right _ h)))))
  have q1 := hts _ (List.mem_of_getElem? (i := 1) rfl)
  have q2 := hts _ (List.mem_of_getElem? (i := 2) rfl)
  have q3 := hts _ (List.mem_of_getElem? (i := 3) rfl)
  unfold wX7_leastVersineThatFits at hq
  refine lv_iconst (v := (0 : Int32)) hx hb dX7_leastVersineThatFits_0 (by decide) ?_
  refine lv_istore (lv' := [(4, .int (0 : Int32)), (0, .ref (ad o0)), (1, .int x1), (2, .ref (ad o2)), (3, .int x3)]) hx hb dX7_leastVersineThatFits_1 hl (by decide) rfl (fun ls hl => ?_)
  obtain ⟨fu3, hq⟩ := hq
  have lp3 : ∀ (fu3 : Nat) (x6 : Int32) (M7 : zM) (H : Heap) (locs : List Loc) (ls : Array Slot), lpX7_leastVersineThatFits_3 o0 x1 o2 x3 Q fu3 x6 M7 → zH D Y ad kd RL M7 J A s.heap H locs s → lv_has ls 5 [(0, .ref (ad o0)), (1, .int x1), (2, .ref (ad o2)), (3, .int x3), (4, .int x6)] → W p l e rmX7_leastVersineThatFits s m ar below meth c H locs 0 0 QE (F0 m 3 ls []) := by
    intro fu3
    induction fu3 with
    | zero => intro x6 M7 H locs ls hq; exact hq.elim
    | succ fu3 ih3 =>
      intro x6 M7 H locs ls hq hw hl
      unfold lpX7_leastVersineThatFits_3 at hq
      refine lv_iload hx hb dX7_leastVersineThatFits_3 (lv_at hl 4 rfl) ?_
      refine lv_bipush (v := (60 : Int32)) hx hb dX7_leastVersineThatFits_5 (by decide) ?_
      refine lv_icmp_gt (tgt := 42) hx hb dX7_leastVersineThatFits_7 (by decide) (fun hc => ?_) (fun hc => ?_)
      · have hq := hq.1 hc
        refine lv_ldc (v := (-1000000 : Int32)) hx hb hown q3 dX7_leastVersineThatFits_42 ?_
        exact z_iret hQE hx hb hr hlk hw dX7_leastVersineThatFits_44 ⟨hq, rfl⟩
      · have hq := hq.2 hc
        refine lv_aload_n hx hb dX7_leastVersineThatFits_10 rfl (lv_at hl 0 rfl) ?_
        refine zg7_draft hx hb g7 hown hw h_o0 q1 dX7_leastVersineThatFits_11 ?_
        refine zg2_versines hx hb g2 hown hw (zk_7_25 hC h_o0) q2 dX7_leastVersineThatFits_14 ?_
        refine lv_iload_n hx hb dX7_leastVersineThatFits_17 rfl (lv_at hl 1 rfl) ?_
        refine lv_iload hx hb dX7_leastVersineThatFits_18 (lv_at hl 4 rfl) ?_
        obtain ⟨hi, hq⟩ := hq
        refine z_iast (n := 12) hx hb hw (zk_2_2 hC (zk_7_25 hC h_o0)) hi dX7_leastVersineThatFits_20 (fun H locs hw => ?_)
        obtain ⟨M8, e_M8⟩ : ∃ y : zM, y = va_up M7 ((o0 + 25) + 2) (upd (M7 ((o0 + 25) + 2)) x1.toNatClampNeg x6) := ⟨_, rfl⟩
        rw [← e_M8] at hw
        have hq := hq M8 e_M8
        refine lv_aload_n hx hb dX7_leastVersineThatFits_21 rfl (lv_at hl 2 rfl) ?_
        refine lv_aload_n hx hb dX7_leastVersineThatFits_22 rfl (lv_at hl 0 rfl) ?_
        refine zg7_draft hx hb g7 hown hw h_o0 q1 dX7_leastVersineThatFits_23 ?_
        refine lv_iload_n hx hb dX7_leastVersineThatFits_26 rfl (lv_at hl 3 rfl) ?_
        refine z_cvi ⟨hx, hb, hml, hown, hts⟩ hw h_o2 (kX3_tellsNow h_o2 (zk_7_25 hC h_o0) hq) (by decide) rfl (cwV 2 hts gX7_leastVersineThatFits_X3_tellsNow rfl rfl rfl (by decide +kernel) ⟨Nat.le_of_ble_eq_true rfl, Nat.le_of_ble_eq_true rfl⟩) rfl hl.1 rfl (Nat.le_of_ble_eq_true rfl) dX7_leastVersineThatFits_27 ⟨Nat.zero_le _, Nat.zero_le _⟩ (fun r9 M0 J0 H locs hq hw => ?_)
        obtain ⟨hq, rfl, rfl⟩ := hq
        refine lv_if_eq (tgt := 36) hx hb dX7_leastVersineThatFits_30 (by decide) (fun hc => ?_) (fun hc => ?_)
        · have hq := hq.1 hc
          obtain ⟨x10, e_x10⟩ : ∃ y : Int32, y = x6 + (1 : Int32) := ⟨_, rfl⟩
          have hq := hq x10 e_x10
          refine lv_iinc (v := x10) (lv' := [(4, .int x10), (0, .ref (ad o0)), (1, .int x1), (2, .ref (ad o2)), (3, .int x3)]) hx hb dX7_leastVersineThatFits_36 hl (k := 4) rfl (by rw [e_x10]; rfl) (by decide) rfl (fun ls hl => ?_)
          refine lv_goto (tgt := 3) hx hb dX7_leastVersineThatFits_39 (by decide) ?_
          exact ih3 x10 M8 _ _ _ hq hw (lv_sub hl [1, 2, 3, 4, 0] rfl)
        · have hq := hq.2 hc
          refine lv_iload hx hb dX7_leastVersineThatFits_33 (lv_at hl 4 rfl) ?_
          exact z_iret hQE hx hb hr hlk hw dX7_leastVersineThatFits_35 ⟨hq, rfl⟩
  exact lp3 fu3 (0 : Int32) M _ _ _ hq hw (lv_sub hl [1, 2, 3, 4, 0] rfl)
set_option maxRecDepth 20000 in
theorem ggX7_slewsThatFit_X2_reach : GoodIn wsX7_slewsThatFit wsX2_reach := goodIn_r _ [7, 8, 9, 10, 11, 12, 13, 14, 41, 42, 43, 44, 45, 46] (by decide +kernel) (by decide +kernel)
set_option maxRecDepth 20000 in
theorem gX7_slewsThatFit_X2_reach : GoodIn wsX7_slewsThatFit (wsV RX7 154 RX2 yX2_reach wsX2_reach) := goodIn_app (goodIn_of _ (by decide +kernel)) ggX7_slewsThatFit_X2_reach
set_option maxRecDepth 20000 in
theorem ggX7_slewsThatFit_X3_tellsNow : GoodIn wsX7_slewsThatFit wsX3_tellsNow := goodIn_r _ [19, 20, 21, 22, 23, 6, 24, 25, 26, 27, 28, 29, 30, 8, 47, 48, 49, 41, 42, 43, 44, 45, 46] (by decide +kernel) (by decide +kernel)
set_option maxRecDepth 20000 in
theorem gX7_slewsThatFit_X3_tellsNow : GoodIn wsX7_slewsThatFit (wsV RX7 313 RX3 yX3_tellsNow wsX3_tellsNow) := goodIn_app (goodIn_of _ (by decide +kernel)) ggX7_slewsThatFit_X3_tellsNow
theorem dX7_slewsThatFit_0 : decode cX7_slewsThatFit 0 = .ok (.aload_n 0, 1) := by decide +kernel
theorem dX7_slewsThatFit_1 : decode cX7_slewsThatFit 1 = .ok (.getfield 29, 3) := by decide +kernel
theorem dX7_slewsThatFit_4 : decode cX7_slewsThatFit 4 = .ok (.iload_n 1, 1) := by decide +kernel
theorem dX7_slewsThatFit_5 : decode cX7_slewsThatFit 5 = .ok (.invokevirtual 154, 3) := by decide +kernel
theorem dX7_slewsThatFit_8 : decode cX7_slewsThatFit 8 = .ok (.istore 4, 2) := by decide +kernel
theorem dX7_slewsThatFit_10 : decode cX7_slewsThatFit 10 = .ok (.iconst 0, 1) := by decide +kernel
theorem dX7_slewsThatFit_11 : decode cX7_slewsThatFit 11 = .ok (.istore 5, 2) := by decide +kernel
theorem dX7_slewsThatFit_13 : decode cX7_slewsThatFit 13 = .ok (.iload 4, 2) := by decide +kernel
theorem dX7_slewsThatFit_15 : decode cX7_slewsThatFit 15 = .ok (.ineg, 1) := by decide +kernel
theorem dX7_slewsThatFit_16 : decode cX7_slewsThatFit 16 = .ok (.istore 6, 2) := by decide +kernel
theorem dX7_slewsThatFit_18 : decode cX7_slewsThatFit 18 = .ok (.iload 6, 2) := by decide +kernel
theorem dX7_slewsThatFit_20 : decode cX7_slewsThatFit 20 = .ok (.iload 4, 2) := by decide +kernel
theorem dX7_slewsThatFit_22 : decode cX7_slewsThatFit 22 = .ok (.if_icmp .gt 43, 3) := by decide +kernel
theorem dX7_slewsThatFit_25 : decode cX7_slewsThatFit 25 = .ok (.aload_n 0, 1) := by decide +kernel
theorem dX7_slewsThatFit_26 : decode cX7_slewsThatFit 26 = .ok (.getfield 29, 3) := by decide +kernel
theorem dX7_slewsThatFit_29 : decode cX7_slewsThatFit 29 = .ok (.getfield 158, 3) := by decide +kernel
theorem dX7_slewsThatFit_32 : decode cX7_slewsThatFit 32 = .ok (.iload_n 1, 1) := by decide +kernel
theorem dX7_slewsThatFit_33 : decode cX7_slewsThatFit 33 = .ok (.iload 6, 2) := by decide +kernel
theorem dX7_slewsThatFit_35 : decode cX7_slewsThatFit 35 = .ok (.iastore, 1) := by decide +kernel
theorem dX7_slewsThatFit_36 : decode cX7_slewsThatFit 36 = .ok (.aload_n 2, 1) := by decide +kernel
theorem dX7_slewsThatFit_37 : decode cX7_slewsThatFit 37 = .ok (.aload_n 0, 1) := by decide +kernel
theorem dX7_slewsThatFit_38 : decode cX7_slewsThatFit 38 = .ok (.getfield 29, 3) := by decide +kernel
theorem dX7_slewsThatFit_41 : decode cX7_slewsThatFit 41 = .ok (.iload_n 3, 1) := by decide +kernel
theorem dX7_slewsThatFit_42 : decode cX7_slewsThatFit 42 = .ok (.invokevirtual 313, 3) := by decide +kernel
theorem dX7_slewsThatFit_45 : decode cX7_slewsThatFit 45 = .ok (.ifCond .eq 14, 3) := by decide +kernel
theorem dX7_slewsThatFit_48 : decode cX7_slewsThatFit 48 = .ok (.iload 5, 2) := by decide +kernel
theorem dX7_slewsThatFit_50 : decode cX7_slewsThatFit 50 = .ok (.iconst 1, 1) := by decide +kernel
theorem dX7_slewsThatFit_51 : decode cX7_slewsThatFit 51 = .ok (.iload 6, 2) := by decide +kernel
theorem dX7_slewsThatFit_53 : decode cX7_slewsThatFit 53 = .ok (.iconst 3, 1) := by decide +kernel
theorem dX7_slewsThatFit_54 : decode cX7_slewsThatFit 54 = .ok (.iadd, 1) := by decide +kernel
theorem dX7_slewsThatFit_55 : decode cX7_slewsThatFit 55 = .ok (.ishl, 1) := by decide +kernel
theorem dX7_slewsThatFit_56 : decode cX7_slewsThatFit 56 = .ok (.ior, 1) := by decide +kernel
theorem dX7_slewsThatFit_57 : decode cX7_slewsThatFit 57 = .ok (.istore 5, 2) := by decide +kernel
theorem dX7_slewsThatFit_59 : decode cX7_slewsThatFit 59 = .ok (.iinc 6 1, 3) := by decide +kernel
theorem dX7_slewsThatFit_62 : decode cX7_slewsThatFit 62 = .ok (.goto (-44), 3) := by decide +kernel
theorem dX7_slewsThatFit_65 : decode cX7_slewsThatFit 65 = .ok (.iload 5, 2) := by decide +kernel
theorem dX7_slewsThatFit_67 : decode cX7_slewsThatFit 67 = .ok (.ireturn, 1) := by decide +kernel
def rmX7_slewsThatFit : Room := { frames := 3, cells := 0, slots := 0, locals := 65 }
def lpX7_slewsThatFit_18 (o0 : Nat) (x1 : Int32) (o2 : Nat) (x3 : Int32) (r6 : Int32) (Q : Int32 → zM → Prop) : Nat → Int32 → Int32 → zM → Prop
  | 0, _, _, _ => False
  | fu18 + 1, x7, x8, M9 =>
    ((r6 < x8) → (
    Q x7 M9)) ∧
    ((¬ r6 < x8) → (
    vp_in x1 12 ∧
    ∀ M10 : zM, M10 = va_up M9 ((o0 + 25) + 4) (upd (M9 ((o0 + 25) + 4)) x1.toNatClampNeg x8) →
    wX3_tellsNow M10 o2 (o0 + 25) x3 (fun r11 =>
    ((r11 = 0) → (
    ∀ x12 : Int32, x12 = x8 + (1 : Int32) →
    lpX7_slewsThatFit_18 o0 x1 o2 x3 r6 Q fu18 x7 x12 M10)) ∧
    ((¬ r11 = 0) → (
    ∀ x13 : Int32, x13 = (x7 ||| ((1 : Int32) <<< ((x8 + (3 : Int32)) &&& 31))) →
    ∀ x14 : Int32, x14 = x8 + (1 : Int32) →
    lpX7_slewsThatFit_18 o0 x1 o2 x3 r6 Q fu18 x13 x14 M10)))))
def wX7_slewsThatFit (M : zM) (o0 : Nat) (x1 : Int32) (o2 : Nat) (x3 : Int32) (Q : Int32 → zM → Prop) : Prop :=
    wX2_reach M (o0 + 25) x1 (fun r6 =>
    ∃ fu18 : Nat, lpX7_slewsThatFit_18 o0 x1 o2 x3 r6 Q fu18 (0 : Int32) (-r6) M)
set_option maxHeartbeats 4000000 in
set_option maxRecDepth 100000 in
theorem kX7_slewsThatFit {l : Launch} {D : va_G} {Y : zY} {ad kd : Nat → Nat} {RL : List Nat} {M : zM} {J : zL} {o0 : Nat} {x1 : Int32} {o2 : Nat} {x3 : Int32} (h_o0 : kd o0 = 7) (h_o2 : kd o2 = 3) {Q : Int32 → zM → Prop} (hq : wX7_slewsThatFit M o0 x1 o2 x3 Q) : zCi l yX7_slewsThatFit wsX7_slewsThatFit rmX7_slewsThatFit [.ref (ad o0), .int x1, .ref (ad o2), .int x3] D Y ad kd RL M J (fun r M' J' => Q r M' ∧ J = J') := by
  refine z_meti (cc := cX7_slewsThatFit) (maxL := 7) (ret := (some .int)) (by decide) rfl (Nat.le_of_ble_eq_true rfl) ?_
  intro p e s m below meth c ls A ar QE hQE hx hb hr hml hown hts hlk hw hl
  have hown : s.vm.findClass RX7 = some m.cls := hown
  have hl : lv_has ls 7 [(0, .ref (ad o0)), (1, .int x1), (2, .ref (ad o2)), (3, .int x3)] := hl
  have hC := hw.2.2.2.2.2.1
  have g2 : ∀ w ∈ wsX20, w.before ar s = true := (fun w h => hts w (List.mem_cons_of_mem _ (List.mem_append_left _ (List.mem_append_right _ h))))
  have g7 : ∀ w ∈ wsX70, w.before ar s = true := (fun w h => hts w (List.mem_cons_of_mem _ (List.mem_append_left _ (List.mem_append_left _ (List.mem_append_right _ h)))))
  have q1 := hts _ (List.mem_of_getElem? (i := 1) rfl)
  have q2 := hts _ (List.mem_of_getElem? (i := 2) rfl)
  unfold wX7_slewsThatFit at hq
  refine lv_aload_n hx hb dX7_slewsThatFit_0 rfl (lv_at hl 0 rfl) ?_
  refine zg7_draft hx hb g7 hown hw h_o0 q1 dX7_slewsThatFit_1 ?_
  refine lv_iload_n hx hb dX7_slewsThatFit_4 rfl (lv_at hl 1 rfl) ?_
  refine z_cvi ⟨hx, hb, hml, hown, hts⟩ hw (zk_7_25 hC h_o0) (kX2_reach (zk_7_25 hC h_o0) hq) (by decide) rfl (cwV 1 hts gX7_slewsThatFit_X2_reach rfl rfl rfl (by decide +kernel) ⟨Nat.le_of_ble_eq_true rfl, Nat.le_of_ble_eq_true rfl⟩) rfl hl.1 rfl (Nat.le_of_ble_eq_true rfl) dX7_slewsThatFit_5 ⟨Nat.zero_le _, Nat.zero_le _⟩ (fun r6 M0 J0 H locs hq hw => ?_)
  obtain ⟨hq, rfl, rfl⟩ := hq
  refine lv_istore (lv' := [(4, .int r6), (0, .ref (ad o0)), (1, .int x1), (2, .ref (ad o2)), (3, .int x3)]) hx hb dX7_slewsThatFit_8 hl (by decide) rfl (fun ls hl => ?_)
  refine lv_iconst (v := (0 : Int32)) hx hb dX7_slewsThatFit_10 (by decide) ?_
  refine lv_istore (lv' := [(5, .int (0 : Int32)), (4, .int r6), (0, .ref (ad o0)), (1, .int x1), (2, .ref (ad o2)), (3, .int x3)]) hx hb dX7_slewsThatFit_11 hl (by decide) rfl (fun ls hl => ?_)
  refine lv_iload hx hb dX7_slewsThatFit_13 (lv_at hl 1 rfl) ?_
  refine lv_ineg hx hb dX7_slewsThatFit_15 ?_
  refine lv_istore (lv' := [(6, .int (-r6)), (5, .int (0 : Int32)), (4, .int r6), (0, .ref (ad o0)), (1, .int x1), (2, .ref (ad o2)), (3, .int x3)]) hx hb dX7_slewsThatFit_16 hl (by decide) rfl (fun ls hl => ?_)
  obtain ⟨fu18, hq⟩ := hq
  have lp18 : ∀ (fu18 : Nat) (x7 : Int32) (x8 : Int32) (M9 : zM) (H : Heap) (locs : List Loc) (ls : Array Slot), lpX7_slewsThatFit_18 o0 x1 o2 x3 r6 Q fu18 x7 x8 M9 → zH D Y ad kd RL M9 J A s.heap H locs s → lv_has ls 7 [(0, .ref (ad o0)), (1, .int x1), (2, .ref (ad o2)), (3, .int x3), (4, .int r6), (5, .int x7), (6, .int x8)] → W p l e rmX7_slewsThatFit s m ar below meth c H locs 0 0 QE (F0 m 18 ls []) := by
    intro fu18
    induction fu18 with
    | zero => intro x7 x8 M9 H locs ls hq; exact hq.elim
    | succ fu18 ih18 =>
      intro x7 x8 M9 H locs ls hq hw hl
      unfold lpX7_slewsThatFit_18 at hq
      refine lv_iload hx hb dX7_slewsThatFit_18 (lv_at hl 6 rfl) ?_
      refine lv_iload hx hb dX7_slewsThatFit_20 (lv_at hl 4 rfl) ?_
      refine lv_icmp_gt (tgt := 65) hx hb dX7_slewsThatFit_22 (by decide) (fun hc => ?_) (fun hc => ?_)
      · have hq := hq.1 hc
        refine lv_iload hx hb dX7_slewsThatFit_65 (lv_at hl 5 rfl) ?_
        exact z_iret hQE hx hb hr hlk hw dX7_slewsThatFit_67 ⟨hq, rfl⟩
      · have hq := hq.2 hc
        refine lv_aload_n hx hb dX7_slewsThatFit_25 rfl (lv_at hl 0 rfl) ?_
        refine zg7_draft hx hb g7 hown hw h_o0 q1 dX7_slewsThatFit_26 ?_
        refine zg2_slews hx hb g2 hown hw (zk_7_25 hC h_o0) q2 dX7_slewsThatFit_29 ?_
        refine lv_iload_n hx hb dX7_slewsThatFit_32 rfl (lv_at hl 1 rfl) ?_
        refine lv_iload hx hb dX7_slewsThatFit_33 (lv_at hl 6 rfl) ?_
        obtain ⟨hi, hq⟩ := hq
        refine z_iast (n := 12) hx hb hw (zk_2_4 hC (zk_7_25 hC h_o0)) hi dX7_slewsThatFit_35 (fun H locs hw => ?_)
        obtain ⟨M10, e_M10⟩ : ∃ y : zM, y = va_up M9 ((o0 + 25) + 4) (upd (M9 ((o0 + 25) + 4)) x1.toNatClampNeg x8) := ⟨_, rfl⟩
        rw [← e_M10] at hw
        have hq := hq M10 e_M10
        refine lv_aload_n hx hb dX7_slewsThatFit_36 rfl (lv_at hl 2 rfl) ?_
        refine lv_aload_n hx hb dX7_slewsThatFit_37 rfl (lv_at hl 0 rfl) ?_
        refine zg7_draft hx hb g7 hown hw h_o0 q1 dX7_slewsThatFit_38 ?_
        refine lv_iload_n hx hb dX7_slewsThatFit_41 rfl (lv_at hl 3 rfl) ?_
        refine z_cvi ⟨hx, hb, hml, hown, hts⟩ hw h_o2 (kX3_tellsNow h_o2 (zk_7_25 hC h_o0) hq) (by decide) rfl (cwV 2 hts gX7_slewsThatFit_X3_tellsNow rfl rfl rfl (by decide +kernel) ⟨Nat.le_of_ble_eq_true rfl, Nat.le_of_ble_eq_true rfl⟩) rfl hl.1 rfl (Nat.le_of_ble_eq_true rfl) dX7_slewsThatFit_42 ⟨Nat.zero_le _, Nat.zero_le _⟩ (fun r11 M0 J0 H locs hq hw => ?_)
        obtain ⟨hq, rfl, rfl⟩ := hq
        refine lv_if_eq (tgt := 59) hx hb dX7_slewsThatFit_45 (by decide) (fun hc => ?_) (fun hc => ?_)
        · have hq := hq.1 hc
          obtain ⟨x12, e_x12⟩ : ∃ y : Int32, y = x8 + (1 : Int32) := ⟨_, rfl⟩
          have hq := hq x12 e_x12
          refine lv_iinc (v := x12) (lv' := [(6, .int x12), (0, .ref (ad o0)), (1, .int x1), (2, .ref (ad o2)), (3, .int x3), (4, .int r6), (5, .int x7)]) hx hb dX7_slewsThatFit_59 hl (k := 6) rfl (by rw [e_x12]; rfl) (by decide) rfl (fun ls hl => ?_)
          refine lv_goto (tgt := 18) hx hb dX7_slewsThatFit_62 (by decide) ?_
          exact ih18 x7 x12 M10 _ _ _ hq hw (lv_sub hl [1, 2, 3, 4, 5, 6, 0] rfl)
        · have hq := hq.2 hc
          refine lv_iload hx hb dX7_slewsThatFit_48 (lv_at hl 5 rfl) ?_
          refine lv_iconst (v := (1 : Int32)) hx hb dX7_slewsThatFit_50 (by decide) ?_
          refine lv_iload hx hb dX7_slewsThatFit_51 (lv_at hl 6 rfl) ?_
          refine lv_iconst (v := (3 : Int32)) hx hb dX7_slewsThatFit_53 (by decide) ?_
          refine lv_iadd hx hb dX7_slewsThatFit_54 ?_
          refine lv_ishl hx hb dX7_slewsThatFit_55 ?_
          refine lv_ior hx hb dX7_slewsThatFit_56 ?_
          refine lv_topi (fun x13 e_x13 => ?_)
          have hq := hq x13 e_x13
          refine lv_istore (lv' := [(5, .int x13), (0, .ref (ad o0)), (1, .int x1), (2, .ref (ad o2)), (3, .int x3), (4, .int r6), (6, .int x8)]) hx hb dX7_slewsThatFit_57 hl (by decide) rfl (fun ls hl => ?_)
          obtain ⟨x14, e_x14⟩ : ∃ y : Int32, y = x8 + (1 : Int32) := ⟨_, rfl⟩
          have hq := hq x14 e_x14
          refine lv_iinc (v := x14) (lv' := [(6, .int x14), (5, .int x13), (0, .ref (ad o0)), (1, .int x1), (2, .ref (ad o2)), (3, .int x3), (4, .int r6)]) hx hb dX7_slewsThatFit_59 hl (k := 6) rfl (by rw [e_x14]; rfl) (by decide) rfl (fun ls hl => ?_)
          refine lv_goto (tgt := 18) hx hb dX7_slewsThatFit_62 (by decide) ?_
          exact ih18 x13 x14 M10 _ _ _ hq hw (lv_sub hl [2, 3, 4, 5, 6, 1, 0] rfl)
  exact lp18 fu18 (0 : Int32) (-r6) M _ _ _ hq hw (lv_sub hl [3, 4, 5, 6, 2, 1, 0] rfl)
