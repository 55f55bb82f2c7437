section ZC2
variable {p : Program} {l : Launch} {e : Env} {R : Room} {s : State} {m : MethodId} {args : Array Value} {below : List Frame} {meth : Method} {c : Code} {H : Heap} {locs : List Loc} {cells slots : Nat} {Q : State → Prop}
variable {cc : ByteArray} {pc : Nat} {ls : Array Slot} {rest : List Value} {D : va_G} {Y : zY} {A : Nat → Prop} {own : String} {index : Nat}
theorem z_ctorI {y : MethodName} {ws Ts : List Cond} {rm : Room} {st : List Value} {bytes : ByteArray} {maxL nL mc ms q0 : Nat} {e0 : va_E} {wr : va_W} {QB : (Nat → Prop) → Unit → State → Prop} {H0 : Heap} (S : CallFix p m c cc nL s args Ts own) (hP : va_P D vwCl (wr ++ [(q0, e0)]) H) (hK : va_K D vwCl (zT Y) s) (hD : va_D A (wr ++ [(q0, e0)])) (hS : va_S A H0 H locs) (hA : ∀ q : Nat, H0.size ≤ q → A q) (hN : zN s)
    (hM : ∀ sz, Met l y ws rm (va_Pc [.ref q0] (zO D Y [(q0, e0)] sz)) (va_Qv (fun (_ : Unit) => True) (QB (va_A [(q0, e0)] sz)) (va_A [(q0, e0)] sz)) mc ms (va_A [(q0, e0)] sz))
    (cw : CallB R s args own index y bytes maxL none ws rm mc ms 0 ∧ y.name = "<init>" ∧ (Cond.instanceMethod y).before args s = true) (hsize : ls.size = nL) (hst : st = .ref q0 :: rest) (hW : (rest.map fun v => v.category).sum ≤ 8) (hdg : decode cc pc = .ok (.invokespecial index, 3)) (hf : cells + mc ≤ R.cells ∧ slots + ms ≤ R.slots)
    (k : ∀ (t : State) (H1 : Heap) (locs1 : List Loc), t.heap = H1 → QB (va_A [(q0, e0)] H.size) () t → (∀ w1 : va_W, va_P D vwCl w1 H1 → va_D (va_A [(q0, e0)] H.size) w1 → va_P D vwCl (wr ++ w1) H1 ∧ va_D A (wr ++ w1)) → va_S A H0 H1 locs1 → W p l e R s m args below meth c H1 locs1 (cells + mc) (slots + ms) Q (F0 m (pc + 3) ls rest)) : W p l e R s m args below meth c H locs cells slots Q (F0 m pc ls st) := by
  have hF : ∀ q, va_A [(q0, e0)] H.size q → A q := by
    intro q h
    rcases h with ⟨i, e, hi⟩ | h
    · exact (z_D2 hD).2 i _ hi
    · exact hA q (Nat.le_trans hS.1 h)
  refine va_callv (va_runI (As := []) (rest := rest) S (hM H.size) cw ⟨zO_blind, fun U hU hW => ⟨rfl, by rw [hU], by rw [hU]; exact z_P2 hP, va_K.moved hW.alike hK, (z_D2 hD).weaken (fun _ _ _ _ => trivial), hN.warm hW⟩⟩ rfl rfl hsize hst (lv_room hW) hdg hf) hS (fun q _ h => hF q h) hF (fun u t H1 locs1 ht hvm hw hB hz1 hk1 hS => ?_)
  exact k t H1 locs1 ht hB (fun w1 hP1 hD1 => z_join hP hD hk1 hF hP1 hD1) hS
end ZC2
theorem z_start_N {args : Array Value} {s : State} (hts : ∀ w ∈ lw_tbl, w.before args s = true) : zN s := ⟨va_Nw.of rfl (hts _ (List.mem_of_getElem? (i := 84) (by decide +kernel))), va_Nw.of rfl (hts _ (List.mem_of_getElem? (i := 535) (by decide +kernel))), va_Nw.of rfl (hts _ (List.mem_of_getElem? (i := 107) (by decide +kernel))), va_Nw.of rfl (hts _ (List.mem_of_getElem? (i := 146) (by decide +kernel))), va_Nw.of rfl (hts _ (List.mem_of_getElem? (i := 164) (by decide +kernel))), va_Nw.of rfl (hts _ (List.mem_of_getElem? (i := 179) (by decide +kernel))), va_Nw.of rfl (hts _ (List.mem_of_getElem? (i := 203) (by decide +kernel))), va_Nw.of rfl (hts _ (List.mem_of_getElem? (i := 410) (by decide +kernel))), va_Nw.of rfl (hts _ (List.mem_of_getElem? (i := 540) (by decide +kernel))), va_Nw.of rfl (hts _ (List.mem_of_getElem? (i := 752) (by decide +kernel))), va_AO.of (hts _ (List.mem_of_getElem? (i := 143) (by decide +kernel))), va_AO.of (hts _ (List.mem_of_getElem? (i := 81) (by decide +kernel)))⟩
set_option maxRecDepth 100000 in
theorem z_start_X {args : Array Value} {s : State} (hts : ∀ w ∈ lw_tbl, w.before args s = true) (hgv : (Jvm.Cond.and given_1 narrow_1).before args s = true) : zX (fun q : Nat => s.heap.size ≤ q) s s.heap := by
  have hs := flat_of_before _ hgv
  have hA : ∀ a : Nat, a < s.heap.size → ¬ (fun q : Nat => s.heap.size ≤ q) a := fun a h => Nat.not_le.mpr h
  have ha0 : (Cond.arrayOf (.static "SlewRails" "ALSO" "[I") .int).before args s = true := hs _ (by decide +kernel)
  have hl0 := va_eqt (hs (Cond.eq (.length (.static "SlewRails" "ALSO" "[I")) (.int 6)) (by decide +kernel))
  have e0_0 := va_eqt (hs (Cond.eq (.elem (.static "SlewRails" "ALSO" "[I") (.int 0)) (.int (-1))) (by decide +kernel))
  have e0_1 := va_eqt (hs (Cond.eq (.elem (.static "SlewRails" "ALSO" "[I") (.int 1)) (.int (0))) (by decide +kernel))
  have e0_2 := va_eqt (hs (Cond.eq (.elem (.static "SlewRails" "ALSO" "[I") (.int 2)) (.int (1))) (by decide +kernel))
  have e0_3 := va_eqt (hs (Cond.eq (.elem (.static "SlewRails" "ALSO" "[I") (.int 3)) (.int (1))) (by decide +kernel))
  have e0_4 := va_eqt (hs (Cond.eq (.elem (.static "SlewRails" "ALSO" "[I") (.int 4)) (.int (0))) (by decide +kernel))
  have e0_5 := va_eqt (hs (Cond.eq (.elem (.static "SlewRails" "ALSO" "[I") (.int 5)) (.int (4))) (by decide +kernel))
  have hel0 : ∀ k : Nat, k < 6 → (Term.elem (.static "SlewRails" "ALSO" "[I") (.int (Int32.ofNat k))).eval args s none [] s = some (.int (zalso k)) := by
    intro k hk
    rcases (show k = 0 ∨ k = 1 ∨ k = 2 ∨ k = 3 ∨ k = 4 ∨ k = 5 by omega) with rfl | rfl | rfl | rfl | rfl | rfl
    · exact e0_0
    · exact e0_1
    · exact e0_2
    · exact e0_3
    · exact e0_4
    · exact e0_5
  obtain ⟨t0, et0, hT0⟩ := va_Tof (tm := (.static "SlewRails" "ALSO" "[I")) (ty := .int) (N := 6) (f := fun k => .int (zalso k)) (A := fun q : Nat => s.heap.size ≤ q) (by decide) ha0 hl0 hel0 hA
  have hz0 := va_Zof (A := fun q : Nat => s.heap.size ≤ q) (hts (.laysStatic "SlewRails" "ALSO" "[I") (List.mem_of_getElem? (i := 739) (by decide +kernel))) (hts (.initialized "SlewRails") (List.mem_of_getElem? (i := 60) (by decide +kernel))) et0 hA
  have ha1 : (Cond.arrayOf (.static "SlewRails$Asks" "SIZE_BODIES" "[I") .int).before args s = true := hs _ (by decide +kernel)
  have hl1 := va_eqt (hs (Cond.eq (.length (.static "SlewRails$Asks" "SIZE_BODIES" "[I")) (.int 6)) (by decide +kernel))
  have e1_0 := va_eqt (hs (Cond.eq (.elem (.static "SlewRails$Asks" "SIZE_BODIES" "[I") (.int 0)) (.int (10))) (by decide +kernel))
  have e1_1 := va_eqt (hs (Cond.eq (.elem (.static "SlewRails$Asks" "SIZE_BODIES" "[I") (.int 1)) (.int (11))) (by decide +kernel))
  have e1_2 := va_eqt (hs (Cond.eq (.elem (.static "SlewRails$Asks" "SIZE_BODIES" "[I") (.int 2)) (.int (12))) (by decide +kernel))
  have e1_3 := va_eqt (hs (Cond.eq (.elem (.static "SlewRails$Asks" "SIZE_BODIES" "[I") (.int 3)) (.int (0))) (by decide +kernel))
  have e1_4 := va_eqt (hs (Cond.eq (.elem (.static "SlewRails$Asks" "SIZE_BODIES" "[I") (.int 4)) (.int (13))) (by decide +kernel))
  have e1_5 := va_eqt (hs (Cond.eq (.elem (.static "SlewRails$Asks" "SIZE_BODIES" "[I") (.int 5)) (.int (14))) (by decide +kernel))
  have hel1 : ∀ k : Nat, k < 6 → (Term.elem (.static "SlewRails$Asks" "SIZE_BODIES" "[I") (.int (Int32.ofNat k))).eval args s none [] s = some (.int (zsizes k)) := by
    intro k hk
    rcases (show k = 0 ∨ k = 1 ∨ k = 2 ∨ k = 3 ∨ k = 4 ∨ k = 5 by omega) with rfl | rfl | rfl | rfl | rfl | rfl
    · exact e1_0
    · exact e1_1
    · exact e1_2
    · exact e1_3
    · exact e1_4
    · exact e1_5
  obtain ⟨t1, et1, hT1⟩ := va_Tof (tm := (.static "SlewRails$Asks" "SIZE_BODIES" "[I")) (ty := .int) (N := 6) (f := fun k => .int (zsizes k)) (A := fun q : Nat => s.heap.size ≤ q) (by decide) ha1 hl1 hel1 hA
  have hz1 := va_Zof (A := fun q : Nat => s.heap.size ≤ q) (hts (.laysStatic "SlewRails$Asks" "SIZE_BODIES" "[I") (List.mem_of_getElem? (i := 754) (by decide +kernel))) (hts (.initialized "SlewRails$Asks") (List.mem_of_getElem? (i := 64) (by decide +kernel))) et1 hA
  have ha2 : (Cond.arrayOf (.static "SlewRails$Asks" "MARK_BODIES" "[I") .int).before args s = true := hs _ (by decide +kernel)
  have hl2 := va_eqt (hs (Cond.eq (.length (.static "SlewRails$Asks" "MARK_BODIES" "[I")) (.int 6)) (by decide +kernel))
  have e2_0 := va_eqt (hs (Cond.eq (.elem (.static "SlewRails$Asks" "MARK_BODIES" "[I") (.int 0)) (.int (20))) (by decide +kernel))
  have e2_1 := va_eqt (hs (Cond.eq (.elem (.static "SlewRails$Asks" "MARK_BODIES" "[I") (.int 1)) (.int (21))) (by decide +kernel))
  have e2_2 := va_eqt (hs (Cond.eq (.elem (.static "SlewRails$Asks" "MARK_BODIES" "[I") (.int 2)) (.int (24))) (by decide +kernel))
  have e2_3 := va_eqt (hs (Cond.eq (.elem (.static "SlewRails$Asks" "MARK_BODIES" "[I") (.int 3)) (.int (22))) (by decide +kernel))
  have e2_4 := va_eqt (hs (Cond.eq (.elem (.static "SlewRails$Asks" "MARK_BODIES" "[I") (.int 4)) (.int (23))) (by decide +kernel))
  have e2_5 := va_eqt (hs (Cond.eq (.elem (.static "SlewRails$Asks" "MARK_BODIES" "[I") (.int 5)) (.int (0))) (by decide +kernel))
  have hel2 : ∀ k : Nat, k < 6 → (Term.elem (.static "SlewRails$Asks" "MARK_BODIES" "[I") (.int (Int32.ofNat k))).eval args s none [] s = some (.int (zmarks k)) := by
    intro k hk
    rcases (show k = 0 ∨ k = 1 ∨ k = 2 ∨ k = 3 ∨ k = 4 ∨ k = 5 by omega) with rfl | rfl | rfl | rfl | rfl | rfl
    · exact e2_0
    · exact e2_1
    · exact e2_2
    · exact e2_3
    · exact e2_4
    · exact e2_5
  obtain ⟨t2, et2, hT2⟩ := va_Tof (tm := (.static "SlewRails$Asks" "MARK_BODIES" "[I")) (ty := .int) (N := 6) (f := fun k => .int (zmarks k)) (A := fun q : Nat => s.heap.size ≤ q) (by decide) ha2 hl2 hel2 hA
  have hz2 := va_Zof (A := fun q : Nat => s.heap.size ≤ q) (hts (.laysStatic "SlewRails$Asks" "MARK_BODIES" "[I") (List.mem_of_getElem? (i := 756) (by decide +kernel))) (hts (.initialized "SlewRails$Asks") (List.mem_of_getElem? (i := 64) (by decide +kernel))) et2 hA
  exact ⟨t0, t1, t2, hz0, hT0, hz1, hT1, hz2, hT2⟩
theorem z_start_K {args : Array Value} {s : State} (hts : ∀ w ∈ lw_tbl, w.before args s = true) : ∃ (D : va_G) (Y : zY), va_K D vwCl (zT Y) s := by
  obtain ⟨c0, iS0, hKn0⟩ := u_known (C := RX0) (T := TX0) (N := 2) (n := 2) hts inX0 (hts (.instantiable RX0 2) (List.mem_of_getElem? (i := 163) (by decide +kernel)))
  obtain ⟨c1, iS1, hKn1⟩ := u_known (C := RX1) (T := TX1) (N := 3) (n := 3) hts inX1 (hts (.instantiable RX1 3) (List.mem_of_getElem? (i := 145) (by decide +kernel)))
  obtain ⟨c2, iS2, hKn2⟩ := u_known (C := RX2) (T := TX2) (N := 6) (n := 6) hts inX2 (hts (.instantiable RX2 6) (List.mem_of_getElem? (i := 106) (by decide +kernel)))
  obtain ⟨c3, iS3, hKn3⟩ := u_known (C := RX3) (T := TX3) (N := 3) (n := 3) hts inX3 (hts (.instantiable RX3 3) (List.mem_of_getElem? (i := 202) (by decide +kernel)))
  obtain ⟨c4, iS4, hKn4⟩ := u_known (C := RX4) (T := TX4) (N := 7) (n := 7) hts inX4 (hts (.instantiable RX4 7) (List.mem_of_getElem? (i := 534) (by decide +kernel)))
  obtain ⟨c5, iS5, hKn5⟩ := u_known (C := RX5) (T := TX5) (N := 5) (n := 5) hts inX5 (hts (.instantiable RX5 5) (List.mem_of_getElem? (i := 178) (by decide +kernel)))
  obtain ⟨c6, iS6, hKn6⟩ := u_known (C := RX6) (T := TX6) (N := 4) (n := 4) hts inX6 (hts (.instantiable RX6 4) (List.mem_of_getElem? (i := 83) (by decide +kernel)))
  obtain ⟨c7, iS7, hKn7⟩ := u_known (C := RX7) (T := TX7) (N := 10) (n := 10) hts inX7 (hts (.instantiable RX7 10) (List.mem_of_getElem? (i := 73) (by decide +kernel)))
  obtain ⟨c8, iS8, hKn8⟩ := u_known (C := RX8) (T := TX8) (N := 26) (n := 26) hts inX8 (hts (.instantiable RX8 26) (List.mem_of_getElem? (i := 787) (by decide +kernel)))
  obtain ⟨yI, kI, xI, f1I, f2I, f3I⟩ := Cond.arrayClass_spec (hts (.arrayClass .int) (List.mem_of_getElem? (i := 104) (by decide +kernel)))
  obtain ⟨yJ, kJ, xJ, f1J, f2J, f3J⟩ := Cond.arrayClass_spec (hts (.arrayClass .long) (List.mem_of_getElem? (i := 201) (by decide +kernel)))
  obtain ⟨yZ, kZ, xZ, f1Z, f2Z, f3Z⟩ := Cond.arrayClass_spec (hts (.arrayClass .boolean) (List.mem_of_getElem? (i := 872) (by decide +kernel)))
  obtain ⟨xR, yR, kR, h1R, h2R, h3R, h4R, h5R⟩ := Cond.arrayOver_spec (hts (.arrayOver (.object RX2)) (List.mem_of_getElem? (i := 143) (by decide +kernel)))
  obtain ⟨xW, yW, kW, h1W, h2W, h3W, h4W, h5W⟩ := Cond.arrayOver_spec (hts (.arrayOver (.object RX3)) (List.mem_of_getElem? (i := 81) (by decide +kernel)))
  refine ⟨(fun k => if k = 0 then c0 else if k = 1 then c1 else if k = 2 then c2 else if k = 3 then c3 else if k = 4 then c4 else if k = 5 then c5 else if k = 6 then c6 else if k = 7 then c7 else c8, fun k => if k = 0 then iS0 else if k = 1 then iS1 else if k = 2 then iS2 else if k = 3 then iS3 else if k = 4 then iS4 else if k = 5 then iS5 else if k = 6 then iS6 else if k = 7 then iS7 else iS8), (yI, yJ, yZ, yR, yW), ?_, ?_⟩
  · intro k q hq
    match k, hq with
    | 0, hq => cases hq; exact hKn0
    | 1, hq => cases hq; exact hKn1
    | 2, hq => cases hq; exact hKn2
    | 3, hq => cases hq; exact hKn3
    | 4, hq => cases hq; exact hKn4
    | 5, hq => cases hq; exact hKn5
    | 6, hq => cases hq; exact hKn6
    | 7, hq => cases hq; exact hKn7
    | 8, hq => cases hq; exact hKn8
    | k + 9, hq => simp [vwCl] at hq
  · intro k q hq
    match k, hq with
    | 0, hq => cases hq; exact ⟨fun N z => ⟨(fun k h => by cases h), kI, f2I, xI, f3I⟩, f1I⟩
    | 1, hq => cases hq; exact ⟨fun N z => ⟨(fun k h => by cases h), kJ, f2J, xJ, f3J⟩, f1J⟩
    | 2, hq => cases hq; exact ⟨fun N z => ⟨(fun k h => by cases h), kZ, f2Z, xZ, f3Z⟩, f1Z⟩
    | 3, hq => cases hq; exact ⟨fun N z => ⟨(fun k h => by cases h), kR, h3R, xR, h4R⟩, kR, xR, h3R, h4R, h1R, h5R⟩
    | 4, hq => cases hq; exact ⟨fun N z => ⟨(fun k h => by cases h), kW, h3W, xW, h4W⟩, kW, xW, h3W, h4W, h1W, h5W⟩
    | k + 5, hq => simp [zT] at hq
set_option maxHeartbeats 40000000 in
set_option maxRecDepth 100000 in
/-- the law from its entry, if I is kept by every call and holds at first -/
theorem whole_open {p : Program} {e : Env} {s : State} {m : MethodId} {below : List Frame} {meth : Method} {c : Code} (l : Launch) {b L : Nat} {xs : Nat → Int32} {I : zM → zL → Prop} (hst : zSteps I) (hI : I M0 J0) (hL : L ≤ 3072) (C0 : lw_At p s m meth c b L xs) : W p l e room_1 s m #[Value.ref b] below meth c s.heap [] 0 0 (lw_Z below #[Value.ref b] s) (entryFrame m ([Value.ref b] : List Value).toArray 4) := by
  obtain ⟨hx, hb, hr, hml, hown, htsT, hX, hbl, hlocks, hgv⟩ := id C0
  have hts := fun w h => htsT w (wsL_law_in w h)
  have hown : s.vm.findClass RL = some m.cls := hown
  have hb : c.code = cL_law := hb
  have hA : ∀ q : Nat, s.heap.size ≤ q → (fun q : Nat => s.heap.size ≤ q) q := fun _ h => h
  have hN := z_start_N htsT
  have hXs := z_start_X htsT hgv
  obtain ⟨D, Y, hK⟩ := z_start_K htsT
  have g7 : ∀ w ∈ wsX70, w.before #[Value.ref b] s = true := fun w h => htsT w (inX7 w h)
  have g8 : ∀ w ∈ wsX80, w.before #[Value.ref b] s = true := fun w h => htsT w (inX8 w h)
  have hS : va_S (fun q : Nat => s.heap.size ≤ q) s.heap s.heap [] := va_S.rf
  have hP : va_P D vwCl [] s.heap := fun k q h => by simp at h
  have hD : va_D (fun q : Nat => s.heap.size ≤ q) [] := ⟨fun i j p q h => by simp at h, fun k q h => by simp at h⟩
  have hl := lv_entry ([.ref b]) (n := 4) (Nat.le_of_ble_eq_true rfl)
  rw [lg_entry_eq]
  generalize (lg_sl ([.ref b]) ++ List.replicate (4 - (lg_sl ([.ref b])).length) Slot.unset).toArray = ls at hl ⊢
  have hl : lv_has ls 4 [(0, .ref b)] := hl
  refine va_new (ci := 7) (fs := [.null, .null, .null, .null, .null, .null, .null, .null, .null, .int 0]) (C := RX7) (T := TX7) (N := 10) hx hb g7 (fun _ h => h) tyX7 tyX7_ok hown (htsT (.classLink RL 7 RX7) (List.mem_of_getElem? (i := 72) (by decide +kernel))) (htsT (.instantiable RX7 10) (List.mem_of_getElem? (i := 73) (by decide +kernel))) (htsT (.initialized RX7) (List.mem_of_getElem? (i := 60) (by decide +kernel))) hK hP hD hS hA rfl (fun j hj => by rcases (show j = 0 ∨ j = 1 ∨ j = 2 ∨ j = 3 ∨ j = 4 ∨ j = 5 ∨ j = 6 ∨ j = 7 ∨ j = 8 ∨ j = 9 by omega) with rfl | rfl | rfl | rfl | rfl | rfl | rfl | rfl | rfl | rfl <;> rfl) (Nat.le_of_ble_eq_true rfl) (Nat.le_of_ble_eq_true rfl) dL_law_0 (fun h7 H hP hD hS => ?_)
  refine lv_dup hx hb dL_law_3 rfl ?_
  refine z_ctorI (mc := 47) (ms := 760) (rm := rmX7_init) (QB := fun A _ t => QB7 D Y h7 A t) (wr := []) (rest := [.ref h7]) ⟨hx, hb, hml, hown, hts⟩ hP hK hD hS hA hN (fun sz => kX7_init h7 sz) (cwI 0 hts gL_law_X7_init rfl rfl rfl (htsT (.initialized RX7) (List.mem_of_getElem? (i := 60) (by decide +kernel))) (htsT (.methodLink RL 9 yX7_init) (List.mem_of_getElem? (i := 74) (by decide +kernel))) (htsT (.instanceMethod yX7_init) (List.mem_of_getElem? (i := 75) (by decide +kernel))) rfl (by decide +kernel) ⟨(Nat.le_of_ble_eq_true rfl), (Nat.le_of_ble_eq_true rfl)⟩) hl.1 rfl (Nat.le_of_ble_eq_true rfl) dL_law_4 ⟨(Nat.le_of_ble_eq_true rfl), (Nat.le_of_ble_eq_true rfl)⟩ (fun t H locs ht hB hj hS => ?_)
  obtain ⟨q1, q2, q3, q4, q5, q6, q7, q8, q9, q10, q11, q12, q13, q14, q15, q16, q17, q18, q19, q20, q21, q22, q23, q24, q25, q26, q27, q28, q29, q30, q31, q32, q33, q34, q35, q36, q37, q38, q39, q40, q41, q42, q43, q44, q45, q46, q47, hP1, hD1⟩ := hB
  rw [ht] at hP1
  obtain ⟨hP, hD⟩ := hj _ hP1 hD1
  have hP : va_P D vwCl (w7 Y h7 q1 q2 q3 q4 q5 q6 q7 q8 q9 q10 q11 q12 q13 q14 q15 q16 q17 q18 q19 q20 q21 q22 q23 q24 q25 q26 q27 q28 q29 q30 q31 q32 q33 q34 q35 q36 q37 q38 q39 q40 q41 q42 q43 q44 q45 q46 q47) H := hP
  have hD : va_D (fun q : Nat => s.heap.size ≤ q) (w7 Y h7 q1 q2 q3 q4 q5 q6 q7 q8 q9 q10 q11 q12 q13 q14 q15 q16 q17 q18 q19 q20 q21 q22 q23 q24 q25 q26 q27 q28 q29 q30 q31 q32 q33 q34 q35 q36 q37 q38 q39 q40 q41 q42 q43 q44 q45 q46 q47) := hD
  refine lv_astore_n (lv' := [(1, .ref h7), (0, .ref b)]) hx hb dL_law_7 rfl hl (by decide) rfl (fun ls hl => ?_)
  refine va_new (ci := 8) (fs := [.null, .null, .null, .null, .int 0, .null, .int 0, .int 0, .int 0, .int 0, .int 0, .int 0, .int 0, .null, .null, .null, .null, .int 0, .null, .null, .null, .null, .int 0, .int 0, .null, .int 0]) (C := RX8) (T := TX8) (N := 26) hx hb g8 (fun _ h => h) tyX8 tyX8_ok hown (htsT (.classLink RL 10 RX8) (List.mem_of_getElem? (i := 786) (by decide +kernel))) (htsT (.instantiable RX8 26) (List.mem_of_getElem? (i := 787) (by decide +kernel))) (htsT (.initialized RX8) (List.mem_of_getElem? (i := 67) (by decide +kernel))) hK hP hD hS hA rfl (fun j hj => by rcases (show j = 0 ∨ j = 1 ∨ j = 2 ∨ j = 3 ∨ j = 4 ∨ j = 5 ∨ j = 6 ∨ j = 7 ∨ j = 8 ∨ j = 9 ∨ j = 10 ∨ j = 11 ∨ j = 12 ∨ j = 13 ∨ j = 14 ∨ j = 15 ∨ j = 16 ∨ j = 17 ∨ j = 18 ∨ j = 19 ∨ j = 20 ∨ j = 21 ∨ j = 22 ∨ j = 23 ∨ j = 24 ∨ j = 25 by omega) with rfl | rfl | rfl | rfl | rfl | rfl | rfl | rfl | rfl | rfl | rfl | rfl | rfl | rfl | rfl | rfl | rfl | rfl | rfl | rfl | rfl | rfl | rfl | rfl | rfl | rfl <;> rfl) (Nat.le_of_ble_eq_true rfl) (Nat.le_of_ble_eq_true rfl) dL_law_8 (fun h8 H hP hD hS => ?_)
  refine lv_dup hx hb dL_law_11 rfl ?_
  refine z_ctorI (mc := 14) (ms := 6092) (rm := rmX8_init) (QB := fun A _ t => QB8 D Y h8 A t) (wr := w7 Y h7 q1 q2 q3 q4 q5 q6 q7 q8 q9 q10 q11 q12 q13 q14 q15 q16 q17 q18 q19 q20 q21 q22 q23 q24 q25 q26 q27 q28 q29 q30 q31 q32 q33 q34 q35 q36 q37 q38 q39 q40 q41 q42 q43 q44 q45 q46 q47) (rest := [.ref h8]) ⟨hx, hb, hml, hown, hts⟩ hP hK hD hS hA hN (fun sz => kX8_init h8 sz) (cwI 0 hts gL_law_X8_init rfl rfl rfl (htsT (.initialized RX8) (List.mem_of_getElem? (i := 67) (by decide +kernel))) (htsT (.methodLink RL 12 yX8_init) (List.mem_of_getElem? (i := 788) (by decide +kernel))) (htsT (.instanceMethod yX8_init) (List.mem_of_getElem? (i := 789) (by decide +kernel))) rfl (by decide +kernel) ⟨(Nat.le_of_ble_eq_true rfl), (Nat.le_of_ble_eq_true rfl)⟩) hl.1 rfl (Nat.le_of_ble_eq_true rfl) dL_law_12 ⟨(Nat.le_of_ble_eq_true rfl), (Nat.le_of_ble_eq_true rfl)⟩ (fun t H locs ht hB hj hS => ?_)
  obtain ⟨p1, p2, p3, p4, p5, p6, p7, p8, p9, p10, p11, p12, p13, p14, hP1, hD1⟩ := hB
  rw [ht] at hP1
  obtain ⟨hP, hD⟩ := hj (w8 Y h8 p1 p2 p3 p4 p5 p6 p7 p8 p9 p10 p11 p12 p13 p14) hP1 hD1
  rw [w_zW Y h7 q1 q2 q3 q4 q5 q6 q7 q8 q9 q10 q11 q12 q13 q14 q15 q16 q17 q18 q19 q20 q21 q22 q23 q24 q25 q26 q27 q28 q29 q30 q31 q32 q33 q34 q35 q36 q37 q38 q39 q40 q41 q42 q43 q44 q45 q46 q47 h8 p1 p2 p3 p4 p5 p6 p7 p8 p9 p10 p11 p12 p13 p14] at hP hD
  have e7 : ad0 h7 q1 q2 q3 q4 q5 q6 q7 q8 q9 q10 q11 q12 q13 q14 q15 q16 q17 q18 q19 q20 q21 q22 q23 q24 q25 q26 q27 q28 q29 q30 q31 q32 q33 q34 q35 q36 q37 q38 q39 q40 q41 q42 q43 q44 q45 q46 q47 h8 p1 p2 p3 p4 p5 p6 p7 p8 p9 p10 p11 p12 p13 p14 0 = h7 := rfl
  have e8 : ad0 h7 q1 q2 q3 q4 q5 q6 q7 q8 q9 q10 q11 q12 q13 q14 q15 q16 q17 q18 q19 q20 q21 q22 q23 q24 q25 q26 q27 q28 q29 q30 q31 q32 q33 q34 q35 q36 q37 q38 q39 q40 q41 q42 q43 q44 q45 q46 q47 h8 p1 p2 p3 p4 p5 p6 p7 p8 p9 p10 p11 p12 p13 p14 200 = h8 := rfl
  generalize ad0 h7 q1 q2 q3 q4 q5 q6 q7 q8 q9 q10 q11 q12 q13 q14 q15 q16 q17 q18 q19 q20 q21 q22 q23 q24 q25 q26 q27 q28 q29 q30 q31 q32 q33 q34 q35 q36 q37 q38 q39 q40 q41 q42 q43 q44 q45 q46 q47 h8 p1 p2 p3 p4 p5 p6 p7 p8 p9 p10 p11 p12 p13 p14 = ad at hP hD e7 e8
  rw [← e7] at hl
  rw [← e8]
  refine lv_astore_n (lv' := [(2, .ref (ad 200)), (1, .ref (ad 0)), (0, .ref b)]) hx hb dL_law_15 rfl hl (by decide) rfl (fun ls hl => ?_)
  refine lv_iconst (v := (0 : Int32)) hx hb dL_law_16 (by decide) ?_
  refine lv_istore_n (lv' := [(3, .int (0 : Int32)), (2, .ref (ad 200)), (1, .ref (ad 0)), (0, .ref b)]) hx hb dL_law_17 rfl hl (by decide) rfl (fun ls hl => ?_)
  exact law_loop hst hL C0 (L / 6 + 1) 0 0 M0 J0 ad kd0 RL0 _ _ _ _ _ nI_0.symm (Nat.zero_le L) (by omega) hI (by decide +kernel) (by decide +kernel) (by omega) (by omega) ⟨hP, hK, hD, hS, hA, kd0_cl, kd0_rl, kd0_zz, hN, hXs⟩ (lv_sub hl [3, 2, 1, 0] rfl)
