def st_row (I : zM → zL → Prop) : Prop := ∀ (M : zM) (J : zL) (a1 : Int32) (a2 : Int32) (a3 : Int32), I M J → wX7_row M 0 a1 a2 a3 (fun r1 M1 => wX8_row M1 200 a1 a2 a3 (fun r2 M2 => r1 = r2 ∧ I M2 J))
def st_set (I : zM → zL → Prop) : Prop := ∀ (M : zM) (J : zL) (a1 : Int32) (a2 : Int32) (a3 : Int32), I M J → wX7_set M 0 a1 a2 a3 (fun r1 M1 => wX8_set M1 200 a1 a2 a3 (fun r2 M2 => r1 = r2 ∧ I M2 J))
def st_copy (I : zM → zL → Prop) : Prop := ∀ (M : zM) (J : zL) (a1 : Int32) (a2 : Int32) (a3 : Int32) (a4 : Int32) (a5 : Int32), I M J → wX7_copy M 0 a1 a2 a3 a4 a5 (fun r1 M1 => wX8_copy M1 200 a1 a2 a3 a4 a5 (fun r2 M2 => r1 = r2 ∧ I M2 J))
def st_drop (I : zM → zL → Prop) : Prop := ∀ (M : zM) (J : zL) (a1 : Int32), I M J → wX7_drop M 0 a1 (fun r1 M1 => wX8_drop M1 200 a1 (fun r2 M2 => r1 = r2 ∧ I M2 J))
def st_feed (I : zM → zL → Prop) : Prop := ∀ (M : zM) (J : zL) (a1 : Int32), I M J → wX7_feed M 0 a1 (fun r1 M1 => wX8_feed M1 200 a1 (fun r2 M2 => r1 = r2 ∧ I M2 J))
def st_rail (I : zM → zL → Prop) : Prop := ∀ (M : zM) (J : zL), I M J → wX7_rail M 0 (fun r1 M1 => wX8_rail M1 200 (fun r2 M2 => r1 = r2 ∧ I M2 J))
def st_fault (I : zM → zL → Prop) : Prop := ∀ (M : zM) (J : zL), I M J → wX7_fault M 0 (fun r1 => wX8_fault M 200 (fun r2 => r1 = r2 ∧ I M J))
def st_lay (I : zM → zL → Prop) : Prop := ∀ (M : zM) (J : zL) (a1 : Int32) (a2 : Int32), I M J → wX7_lay M 0 a1 a2 (fun r1 M1 => wX8_lay M1 200 a1 a2 (fun r2 M2 => r1 = r2 ∧ I M2 J))
def st_work (I : zM → zL → Prop) : Prop := ∀ (M : zM) (J : zL), I M J → wX7_work M 0 (fun r1 M1 => wX8_work M1 200 (fun r2 M2 => r1 = r2 ∧ I M2 J))
def st_gang (I : zM → zL → Prop) : Prop := ∀ (M : zM) (J : zL) (a1 : Int32) (a2 : Int32), I M J → wX7_gang M 0 a1 a2 (fun r1 M1 => wX8_gang M1 200 a1 a2 (fun r2 M2 => r1 = r2 ∧ I M2 J))
def st_read (I : zM → zL → Prop) : Prop := ∀ (M : zM) (J : zL) (a1 : Int32) (a2 : Int32), I M J → wX7_read M 0 a1 a2 (fun r1 M1 => wX8_read M1 200 a1 a2 (fun r2 M2 => r1 = r2 ∧ I M2 J))
def st_bound (I : zM → zL → Prop) : Prop := ∀ (M : zM) (J : zL) (a1 : Int32) (a2 : Int32), I M J → wX7_bound M 0 a1 a2 (fun r1 M1 => wX8_bound M1 200 a1 a2 (fun r2 M2 => r1 = r2 ∧ I M2 J))
def st_undo (I : zM → zL → Prop) : Prop := ∀ (M : zM) (J : zL), I M J → wX7_undo M 0 (fun r1 M1 => wX8_undo M1 200 (fun r2 M2 => r1 = r2 ∧ I M2 J))
def st_peg (I : zM → zL → Prop) : Prop := ∀ (M : zM) (J : zL) (a1 : Int32) (a2 : Int32), I M J → wX7_peg M 0 a1 a2 (fun r1 => wX8_peg M 200 a1 a2 (fun r2 => r1 = r2 ∧ I M J))
def st_line (I : zM → zL → Prop) : Prop := ∀ (M : zM) (J : zL) (a1 : Int32), I M J → wX7_line M 0 a1 (fun r1 => wX8_line M 200 a1 (fun r2 => r1 = r2 ∧ I M J))
def st_best (I : zM → zL → Prop) : Prop := ∀ (M : zM) (J : zL) (a1 : Int32), I M J → wX7_best M 0 a1 (fun r1 M1 => wX8_best M1 200 a1 (fun r2 M2 => r1 = r2 ∧ I M2 J))
def st_wrong (I : zM → zL → Prop) : Prop := ∀ (M : zM) (J : zL) (a1 : Int32), I M J → wX7_wrong M 0 a1 (fun r1 M1 => wX8_wrong M1 200 a1 (fun r2 M2 => r1 = r2 ∧ I M2 J))
def st_moment (I : zM → zL → Prop) : Prop := ∀ (M : zM) (J : zL) (a1 : Int32), I M J → wX7_moment M 0 a1 (fun r1 M1 => wX8_moment M1 200 a1 (fun r2 M2 => r1 = r2 ∧ I M2 J))
def st_fits (I : zM → zL → Prop) : Prop := ∀ (M : zM) (J : zL) (a1 : Int32) (a2 : Int32) (a3 : Int32) (a4 : Int32), I M J → wX7_fits M 0 a1 a2 a3 a4 (fun r1 M1 => wX8_fits M1 200 a1 a2 a3 a4 (fun r2 M2 => r1 = r2 ∧ I M2 J))
def st_tell (I : zM → zL → Prop) : Prop := ∀ (M : zM) (J : zL) (a1 : Int32) (a2 : Int32) (a3 : Int32), I M J → wX7_tell M 0 a1 a2 a3 (fun r1 M1 => wX8_tell M1 200 a1 a2 a3 (fun r2 M2 => r1 = r2 ∧ I M2 J))
def st_chance (I : zM → zL → Prop) : Prop := ∀ (M : zM) (J : zL) (a1 : Int32) (a2 : Int32) (a3 : Int32), I M J → wX7_chance M J 0 a1 a2 a3 (fun r1 M1 J1 => wX8_chance M1 200 a1 a2 a3 (fun r2 M2 => r1 = r2 ∧ I M2 J1))
def st_drawn (I : zM → zL → Prop) : Prop := ∀ (M : zM) (J : zL) (a1 : Int32) (a2 : Int32) (a3 : Int32), I M J → wX7_drawn M 0 a1 a2 a3 (fun r1 M1 => wX8_drawn M1 200 a1 a2 a3 (fun r2 M2 => r1 = r2 ∧ I M2 J))
def st_image (I : zM → zL → Prop) : Prop := ∀ (M : zM) (J : zL) (a1 : Int32), I M J → wX7_image M 0 a1 (fun r1 M1 => wX8_image M1 200 a1 (fun r2 M2 => r1 = r2 ∧ I M2 J))
def st_restore (I : zM → zL → Prop) : Prop := ∀ (M : zM) (J : zL) (a1 : Int32), I M J → wX7_restore M 0 a1 (fun r1 M1 => wX8_restore M1 200 a1 (fun r2 M2 => r1 = r2 ∧ I M2 J))
def st_kind (I : zM → zL → Prop) : Prop := ∀ (M : zM) (J : zL) (a1 : Int32), I M J → wX7_kind M 0 a1 (fun r1 => wX8_kind M 200 a1 (fun r2 => r1 = r2 ∧ I M J))
def st_as (I : zM → zL → Prop) : Prop := ∀ (M : zM) (J : zL) (a1 : Int32) (a2 : Int32), I M J → wX7_as M 0 a1 a2 (fun r1 M1 => wX8_as M1 200 a1 a2 (fun r2 M2 => r1 = r2 ∧ I M2 J))
def st_ask (I : zM → zL → Prop) : Prop := ∀ (M : zM) (J : zL) (a1 : Int32) (a2 : Int32), I M J → wX7_ask M 0 a1 a2 (fun r1 M1 => wX8_ask M1 200 a1 a2 (fun r2 M2 => r1 = r2 ∧ I M2 J))
def st_trace (I : zM → zL → Prop) : Prop := ∀ (M : zM) (J : zL) (a1 : Int32), I M J → wX7_trace M 0 a1 (fun r1 => wX8_trace M 200 a1 (fun r2 => r1 = r2 ∧ I M J))
def st_count (I : zM → zL → Prop) : Prop := ∀ (M : zM) (J : zL) (a1 : Int32), I M J → wX7_count M 0 a1 (fun r1 => wX8_count M 200 a1 (fun r2 => r1 = r2 ∧ I M J))
def st_status (I : zM → zL → Prop) : Prop := ∀ (M : zM) (J : zL), I M J → wX7_status M 0 (fun r1 => wX8_status M 200 (fun r2 => r1 = r2 ∧ I M J))
def zSteps (I : zM → zL → Prop) : Prop := st_row I ∧ st_set I ∧ st_copy I ∧ st_drop I ∧ st_feed I ∧ st_rail I ∧ st_fault I ∧ st_lay I ∧ st_work I ∧ st_gang I ∧ st_read I ∧ st_bound I ∧ st_undo I ∧ st_peg I ∧ st_line I ∧ st_best I ∧ st_wrong I ∧ st_moment I ∧ st_fits I ∧ st_tell I ∧ st_chance I ∧ st_drawn I ∧ st_image I ∧ st_restore I ∧ st_kind I ∧ st_as I ∧ st_ask I ∧ st_trace I ∧ st_count I ∧ st_status I
theorem zl_cmp (x : Int64) : lg_cmp x x = 0 := by simp [lg_cmp]
theorem zl_idx {L i : Nat} (hL : L ≤ 3072) (hi : i ≤ L) (h : ¬ (Int32.ofNat L - 6 < nI i)) : i + 6 ≤ L := by
  have h1 : (nI L - nI 6).toInt = (L : Int) - (6 : Nat) := pk_sub_toInt (by omega) (by omega)
  have h2 : (nI i).toInt = (i : Int) := nI_toInt (by omega)
  have h3 : ¬ ((nI L - nI 6).toInt < (nI i).toInt) := fun q => h (Int32.lt_iff_toInt_lt.mpr q)
  rw [h1, h2] at h3
  omega
/-! THE CLAIM OUT OF ONE WALK OF THE LAW'S BODY. Your part is whole_start (and what it stands on); all else here is the same for every law, but numbers. -/
def R_law : String := "SlewRailsLaw"
def lw_P (b : Addr) (xs : List Int32) (args : Array Value) (s : State) : Prop := args = #[.ref b] ∧ s.IntsAt b xs ∧ xs.length ≤ 3072 ∧ (Jvm.Cond.and given_1 narrow_1).before args s = true
def lw_Q (_ : Array Value) (s : State) (o : Outcome) (t : State) : Prop := o = .returned (some (.int 1)) ∧ Framed s o t [] 600000 7302250
def lw_Z (below : List Frame) (a : Array Value) (s : State) : State → Prop := fun t => ∃ o, t.status = .running ∧ Ended t below o ∧ lw_Q a s o t
/-- the law's own end, with 1 on the stack, nothing written that was there before, its room as the claim has it -/
theorem lw_ret {p : Program} {l : Launch} {e : Env} {s : State} {m : MethodId} {below : List Frame} {meth : Method} {c : Code} {b : Nat} (hx : p.tables.exec = Jvm.exec) (hb : c.code = code) (hr : meth.sig.returnType = ret) (hlocks : meth.locks = false) {pc : Nat} {H : Heap} {ls : Array Slot} (hdg : decode code pc = .ok (.ireturn, 1)) : W p l e room_1 s m #[Value.ref b] below meth c H [] 600000 7302250 (lw_Z below #[Value.ref b] s) (F0 m pc ls [.int 1]) := by
  intro T hT X
  obtain ⟨fs, hret, hrun, hended, hW, hframe⟩ := X.leave (v := some (.int 1)) (hlocks := hlocks) (fun h => by rw [hr] at h; cases h)
  have hmeth' : T.vm.method? m = some meth := X.method'
  refine ⟨T.setFrames fs, ?_, .returned (some (.int 1)), hrun, hended, rfl, ⟨_, rfl⟩, hW, hframe⟩
  jvm_step X.here [X.here.top, hx, hb, hdg, hmeth', hr, ret, narrow_b1]
  (try refine ⟨rfl, ?_⟩); (try refine ⟨rfl, ?_⟩)
  first | (intro acts; rw [hret _ acts rfl rfl rfl]) | rw [hret _ _ rfl rfl rfl]
  exact Steps.refl _
/-- what holds at the law's entry: the machine, the code, the tables' words (any of lw_tbl by 'hts w (by decide +kernel)'), the script of L ints xs at the cell b, what the Statement gives of the start (any of its parts by flat_of_before) -/
def lw_At (p : Program) (s : State) (m : MethodId) (meth : Method) (c : Code) (b L : Nat) (xs : Nat → Int32) : Prop :=
  p.tables.exec = Jvm.exec ∧ c.code = code ∧ meth.sig.returnType = ret ∧ c.maxLocals = 4 ∧ s.vm.findClass R_law = some m.cls ∧ (∀ w ∈ lw_tbl, w.before #[Value.ref b] s = true) ∧ va_X b L xs s s.heap ∧ b < s.heap.size ∧ meth.locks = false ∧ (Jvm.Cond.and given_1 narrow_1).before #[Value.ref b] s = true
set_option maxHeartbeats 40000000 in
set_option maxRecDepth 100000 in
theorem law_loop {p : Program} {e : Env} {s : State} {m : MethodId} {below : List Frame} {meth : Method} {c : Code} {l : Launch} {b L : Nat} {xs : Nat → Int32} {I : zM → zL → Prop} {D : va_G} {Y : zY} (hst : zSteps I) (hL : L ≤ 3072) (C0 : lw_At p s m meth c b L xs) : ∀ (n i : Nat) (x3 : Int32) (M : zM) (J : zL) (ad kd : Nat → Nat) (RS : List Nat) (cells slots : Nat) (H : Heap) (locs : List Loc) (ls : Array Slot), x3 = nI i → i ≤ L → L < i + 6 * n → I M J → kd 0 = 7 → kd 200 = 8 → cells + 65 * n ≤ 500000 → slots + 4189 * n ≤ 7000000 → zH D Y ad kd RS M J (fun q : Nat => s.heap.size ≤ q) s.heap H locs s → lv_has ls 4 [(0, .ref b), (1, .ref (ad 0)), (2, .ref (ad 200)), (3, .int x3)] → W p l e room_1 s m #[Value.ref b] below meth c H locs cells slots (lw_Z below #[Value.ref b] s) (F0 m 18 ls []) := by
  obtain ⟨hx, hb, hr, hml, hown, hts, hX, hbl, hlocks, hgv⟩ := id C0
  have hts := fun w h => hts w (wsL_law_in w h)
  have hown : s.vm.findClass RL = some m.cls := hown
  have hb : c.code = cL_law := hb
  have hbA : ¬ (fun q : Nat => s.heap.size ≤ q) b := Nat.not_le.mpr hbl
  intro n
  induction n with
  | zero => intro i x3 M J ad kd RS cells slots H locs ls ex hi hn; omega
  | succ n ih =>
    intro i x3 M J ad kd RS cells slots H locs ls ex hi hn hI k7 k8 hce hsl hw hl
    refine lv_iload_n hx hb dL_law_18 rfl (lv_at hl 3 rfl) ?_
    refine lv_aload_n hx hb dL_law_19 rfl (lv_at hl 0 rfl) ?_
    refine va_slen hx hb hX hbl hbA hw.2.2.2.1 dL_law_20 ?_
    refine lv_bipush (v := (6 : Int32)) hx hb dL_law_21 (by decide) ?_
    refine lv_isub hx hb dL_law_23 ?_
    refine lv_icmp_gt (tgt := 1055) hx hb dL_law_24 (by decide) (fun hc => ?_) (fun hc => ?_)
    · refine lv_iconst (v := (1 : Int32)) hx hb dL_law_1055 (by decide) ?_
      refine va_forget (fun q hq => hw.2.2.2.1.2.2 q hq) ?_
      refine W.widen (k := 600000) (n := 7302250) (by omega) (by omega) ?_
      exact lw_ret hx hb hr hlocks dL_law_1056
    · rw [ex] at hc
      have h6 := zl_idx hL hi hc
      have hin : ∀ k : Nat, k < 6 → vp_in (x3 + (OfNat.ofNat k : Int32)) L := fun k hk => by
        rw [ex, show (OfNat.ofNat k : Int32) = nI k from rfl, nI_add]
        exact vp_in_nI (by omega) (by omega)
      have hin0 : vp_in x3 L := by rw [ex]; exact vp_in_nI (by omega) (by omega)
      have jn : ∀ (M : zM) (J : zL) (ad kd : Nat → Nat) (RS : List Nat) (cells slots : Nat) (H : Heap) (locs : List Loc), I M J → kd 0 = 7 → kd 200 = 8 → cells + 65 * n ≤ 500000 → slots + 4189 * n ≤ 7000000 → zH D Y ad kd RS M J (fun q : Nat => s.heap.size ≤ q) s.heap H locs s → lv_has ls 4 [(0, .ref b), (1, .ref (ad 0)), (2, .ref (ad 200)), (3, .int x3)] → W p l e room_1 s m #[Value.ref b] below meth c H locs cells slots (lw_Z below #[Value.ref b] s) (F0 m 1049 ls []) := by
        intro M J ad kd RS cells slots H locs hI k7 k8 hce hsl hw hl
        obtain ⟨x4, ex4⟩ : ∃ y : Int32, y = x3 + (6 : Int32) := ⟨_, rfl⟩
        refine lv_iinc (v := x4) (lv' := [(3, .int x4), (0, .ref b), (1, .ref (ad 0)), (2, .ref (ad 200))]) hx hb dL_law_1049 hl (k := 3) rfl (by rw [ex4]; rfl) (by decide) rfl (fun ls hl => ?_)
        refine lv_goto (tgt := 18) hx hb dL_law_1052 (by decide) ?_
        exact ih (i + 6) x4 M J ad kd RS cells slots H locs ls (by rw [ex4, ex]; exact nI_add i 6) (by omega) (by omega) hI k7 k8 hce hsl hw (lv_sub hl [1, 2, 3, 0] rfl)
      refine lv_aload_n hx hb dL_law_27 rfl (lv_at hl 0 rfl) ?_
      refine lv_iload_n hx hb dL_law_28 rfl (lv_at hl 3 rfl) ?_
      refine va_sld hx hb hX hbl hbA hw.2.2.2.1 hin0 dL_law_29 ?_
      refine lv_bipush (v := (31 : Int32)) hx hb dL_law_30 (by decide) ?_
      refine lv_iand hx hb dL_law_32 ?_
      by_cases hsw : (xs x3.toNatClampNeg &&& (31 : Int32)).toInt < 0 ∨ 29 < (xs x3.toNatClampNeg &&& (31 : Int32)).toInt
      · refine lv_tableOut (tgt := 1049) hx hb dL_law_33 hsw (by decide) ?_
        exact jn M J ad kd RS cells slots H locs hI k7 k8 (by omega) (by omega) hw hl
      · rcases (show (xs x3.toNatClampNeg &&& (31 : Int32)).toInt = 0 ∨ (xs x3.toNatClampNeg &&& (31 : Int32)).toInt = 1 ∨ (xs x3.toNatClampNeg &&& (31 : Int32)).toInt = 2 ∨ (xs x3.toNatClampNeg &&& (31 : Int32)).toInt = 3 ∨ (xs x3.toNatClampNeg &&& (31 : Int32)).toInt = 4 ∨ (xs x3.toNatClampNeg &&& (31 : Int32)).toInt = 5 ∨ (xs x3.toNatClampNeg &&& (31 : Int32)).toInt = 6 ∨ (xs x3.toNatClampNeg &&& (31 : Int32)).toInt = 7 ∨ (xs x3.toNatClampNeg &&& (31 : Int32)).toInt = 8 ∨ (xs x3.toNatClampNeg &&& (31 : Int32)).toInt = 9 ∨ (xs x3.toNatClampNeg &&& (31 : Int32)).toInt = 10 ∨ (xs x3.toNatClampNeg &&& (31 : Int32)).toInt = 11 ∨ (xs x3.toNatClampNeg &&& (31 : Int32)).toInt = 12 ∨ (xs x3.toNatClampNeg &&& (31 : Int32)).toInt = 13 ∨ (xs x3.toNatClampNeg &&& (31 : Int32)).toInt = 14 ∨ (xs x3.toNatClampNeg &&& (31 : Int32)).toInt = 15 ∨ (xs x3.toNatClampNeg &&& (31 : Int32)).toInt = 16 ∨ (xs x3.toNatClampNeg &&& (31 : Int32)).toInt = 17 ∨ (xs x3.toNatClampNeg &&& (31 : Int32)).toInt = 18 ∨ (xs x3.toNatClampNeg &&& (31 : Int32)).toInt = 19 ∨ (xs x3.toNatClampNeg &&& (31 : Int32)).toInt = 20 ∨ (xs x3.toNatClampNeg &&& (31 : Int32)).toInt = 21 ∨ (xs x3.toNatClampNeg &&& (31 : Int32)).toInt = 22 ∨ (xs x3.toNatClampNeg &&& (31 : Int32)).toInt = 23 ∨ (xs x3.toNatClampNeg &&& (31 : Int32)).toInt = 24 ∨ (xs x3.toNatClampNeg &&& (31 : Int32)).toInt = 25 ∨ (xs x3.toNatClampNeg &&& (31 : Int32)).toInt = 26 ∨ (xs x3.toNatClampNeg &&& (31 : Int32)).toInt = 27 ∨ (xs x3.toNatClampNeg &&& (31 : Int32)).toInt = 28 ∨ (xs x3.toNatClampNeg &&& (31 : Int32)).toInt = 29 by omega) with hs | hs | hs | hs | hs | hs | hs | hs | hs | hs | hs | hs | hs | hs | hs | hs | hs | hs | hs | hs | hs | hs | hs | hs | hs | hs | hs | hs | hs | hs
        · refine lv_tableIn (off := 135) (tgt := 168) hx hb dL_law_33 (by omega) (by omega) (by rw [hs]; rfl) (by decide) ?_
          refine lv_aload_n hx hb dL_law_168 rfl (lv_at hl 1 rfl) ?_
          refine lv_aload_n hx hb dL_law_169 rfl (lv_at hl 0 rfl) ?_
          refine lv_iload_n hx hb dL_law_170 rfl (lv_at hl 3 rfl) ?_
          refine lv_iconst (v := (1 : Int32)) hx hb dL_law_171 (by decide) ?_
          refine lv_iadd hx hb dL_law_172 ?_
          refine va_sld hx hb hX hbl hbA hw.2.2.2.1 (hin 1 (by omega)) dL_law_173 ?_
          refine lv_aload_n hx hb dL_law_174 rfl (lv_at hl 0 rfl) ?_
          refine lv_iload_n hx hb dL_law_175 rfl (lv_at hl 3 rfl) ?_
          refine lv_iconst (v := (2 : Int32)) hx hb dL_law_176 (by decide) ?_
          refine lv_iadd hx hb dL_law_177 ?_
          refine va_sld hx hb hX hbl hbA hw.2.2.2.1 (hin 2 (by omega)) dL_law_178 ?_
          refine lv_aload_n hx hb dL_law_179 rfl (lv_at hl 0 rfl) ?_
          refine lv_iload_n hx hb dL_law_180 rfl (lv_at hl 3 rfl) ?_
          refine lv_iconst (v := (3 : Int32)) hx hb dL_law_181 (by decide) ?_
          refine lv_iadd hx hb dL_law_182 ?_
          refine va_sld hx hb hX hbl hbA hw.2.2.2.1 (hin 3 (by omega)) dL_law_183 ?_
          have hq := hst.1 M J (xs (x3 + (1 : Int32)).toNatClampNeg) (xs (x3 + (2 : Int32)).toNatClampNeg) (xs (x3 + (3 : Int32)).toNatClampNeg) hI
          refine z_cvi ⟨hx, hb, hml, hown, hts⟩ hw k7 (kX7_row k7 hq) (by decide) rfl (cwV 3 hts gL_law_X7_row rfl rfl rfl (by decide +kernel) ⟨Nat.le_of_ble_eq_true rfl, Nat.le_of_ble_eq_true rfl⟩) rfl hl.1 rfl (Nat.le_of_ble_eq_true rfl) dL_law_184 ⟨by show _ ≤ 600000; omega, by show _ ≤ 7302250; omega⟩ (fun r1 M1 J0 H locs hq hw => ?_)
          obtain ⟨hq, rfl⟩ := hq
          refine lv_aload_n hx hb dL_law_187 rfl (lv_at hl 2 rfl) ?_
          refine lv_aload_n hx hb dL_law_188 rfl (lv_at hl 0 rfl) ?_
          refine lv_iload_n hx hb dL_law_189 rfl (lv_at hl 3 rfl) ?_
          refine lv_iconst (v := (1 : Int32)) hx hb dL_law_190 (by decide) ?_
          refine lv_iadd hx hb dL_law_191 ?_
          refine va_sld hx hb hX hbl hbA hw.2.2.2.1 (hin 1 (by omega)) dL_law_192 ?_
          refine lv_aload_n hx hb dL_law_193 rfl (lv_at hl 0 rfl) ?_
          refine lv_iload_n hx hb dL_law_194 rfl (lv_at hl 3 rfl) ?_
          refine lv_iconst (v := (2 : Int32)) hx hb dL_law_195 (by decide) ?_
          refine lv_iadd hx hb dL_law_196 ?_
          refine va_sld hx hb hX hbl hbA hw.2.2.2.1 (hin 2 (by omega)) dL_law_197 ?_
          refine lv_aload_n hx hb dL_law_198 rfl (lv_at hl 0 rfl) ?_
          refine lv_iload_n hx hb dL_law_199 rfl (lv_at hl 3 rfl) ?_
          refine lv_iconst (v := (3 : Int32)) hx hb dL_law_200 (by decide) ?_
          refine lv_iadd hx hb dL_law_201 ?_
          refine va_sld hx hb hX hbl hbA hw.2.2.2.1 (hin 3 (by omega)) dL_law_202 ?_
          refine z_cvi ⟨hx, hb, hml, hown, hts⟩ hw k8 (kX8_row k8 hq) (by decide) rfl (cwV 3 hts gL_law_X8_row rfl rfl rfl (by decide +kernel) ⟨Nat.le_of_ble_eq_true rfl, Nat.le_of_ble_eq_true rfl⟩) rfl hl.1 rfl (Nat.le_of_ble_eq_true rfl) dL_law_203 ⟨by show _ ≤ 600000; omega, by show _ ≤ 7302250; omega⟩ (fun r2 M2 J0 H locs hq hw => ?_)
          obtain ⟨hq, rfl⟩ := hq
          obtain ⟨hr9, hI⟩ := hq
          refine lv_icmp_eq (tgt := 1049) hx hb dL_law_206 (by decide) (fun _ => ?_) (fun hc => absurd hr9 hc)
          exact jn _ _ ad kd RS _ _ _ _ hI k7 k8 (by omega) (by omega) hw hl
        · refine lv_tableIn (off := 178) (tgt := 211) hx hb dL_law_33 (by omega) (by omega) (by rw [hs]; rfl) (by decide) ?_
          refine lv_aload_n hx hb dL_law_211 rfl (lv_at hl 1 rfl) ?_
          refine lv_aload_n hx hb dL_law_212 rfl (lv_at hl 0 rfl) ?_
          refine lv_iload_n hx hb dL_law_213 rfl (lv_at hl 3 rfl) ?_
          refine lv_iconst (v := (1 : Int32)) hx hb dL_law_214 (by decide) ?_
          refine lv_iadd hx hb dL_law_215 ?_
          refine va_sld hx hb hX hbl hbA hw.2.2.2.1 (hin 1 (by omega)) dL_law_216 ?_
          refine lv_aload_n hx hb dL_law_217 rfl (lv_at hl 0 rfl) ?_
          refine lv_iload_n hx hb dL_law_218 rfl (lv_at hl 3 rfl) ?_
          refine lv_iconst (v := (2 : Int32)) hx hb dL_law_219 (by decide) ?_
          refine lv_iadd hx hb dL_law_220 ?_
          refine va_sld hx hb hX hbl hbA hw.2.2.2.1 (hin 2 (by omega)) dL_law_221 ?_
          refine lv_aload_n hx hb dL_law_222 rfl (lv_at hl 0 rfl) ?_
          refine lv_iload_n hx hb dL_law_223 rfl (lv_at hl 3 rfl) ?_
          refine lv_iconst (v := (3 : Int32)) hx hb dL_law_224 (by decide) ?_
          refine lv_iadd hx hb dL_law_225 ?_
          refine va_sld hx hb hX hbl hbA hw.2.2.2.1 (hin 3 (by omega)) dL_law_226 ?_
          have hq := hst.2.1 M J (xs (x3 + (1 : Int32)).toNatClampNeg) (xs (x3 + (2 : Int32)).toNatClampNeg) (xs (x3 + (3 : Int32)).toNatClampNeg) hI
          refine z_cvi ⟨hx, hb, hml, hown, hts⟩ hw k7 (kX7_set k7 hq) (by decide) rfl (cwV 3 hts gL_law_X7_set rfl rfl rfl (by decide +kernel) ⟨Nat.le_of_ble_eq_true rfl, Nat.le_of_ble_eq_true rfl⟩) rfl hl.1 rfl (Nat.le_of_ble_eq_true rfl) dL_law_227 ⟨by show _ ≤ 600000; omega, by show _ ≤ 7302250; omega⟩ (fun r1 M1 J0 H locs hq hw => ?_)
          obtain ⟨hq, rfl⟩ := hq
          refine lv_aload_n hx hb dL_law_230 rfl (lv_at hl 2 rfl) ?_
          refine lv_aload_n hx hb dL_law_231 rfl (lv_at hl 0 rfl) ?_
          refine lv_iload_n hx hb dL_law_232 rfl (lv_at hl 3 rfl) ?_
          refine lv_iconst (v := (1 : Int32)) hx hb dL_law_233 (by decide) ?_
          refine lv_iadd hx hb dL_law_234 ?_
          refine va_sld hx hb hX hbl hbA hw.2.2.2.1 (hin 1 (by omega)) dL_law_235 ?_
          refine lv_aload_n hx hb dL_law_236 rfl (lv_at hl 0 rfl) ?_
          refine lv_iload_n hx hb dL_law_237 rfl (lv_at hl 3 rfl) ?_
          refine lv_iconst (v := (2 : Int32)) hx hb dL_law_238 (by decide) ?_
          refine lv_iadd hx hb dL_law_239 ?_
          refine va_sld hx hb hX hbl hbA hw.2.2.2.1 (hin 2 (by omega)) dL_law_240 ?_
          refine lv_aload_n hx hb dL_law_241 rfl (lv_at hl 0 rfl) ?_
          refine lv_iload_n hx hb dL_law_242 rfl (lv_at hl 3 rfl) ?_
          refine lv_iconst (v := (3 : Int32)) hx hb dL_law_243 (by decide) ?_
          refine lv_iadd hx hb dL_law_244 ?_
          refine va_sld hx hb hX hbl hbA hw.2.2.2.1 (hin 3 (by omega)) dL_law_245 ?_
          refine z_cvi ⟨hx, hb, hml, hown, hts⟩ hw k8 (kX8_set k8 hq) (by decide) rfl (cwV 3 hts gL_law_X8_set rfl rfl rfl (by decide +kernel) ⟨Nat.le_of_ble_eq_true rfl, Nat.le_of_ble_eq_true rfl⟩) rfl hl.1 rfl (Nat.le_of_ble_eq_true rfl) dL_law_246 ⟨by show _ ≤ 600000; omega, by show _ ≤ 7302250; omega⟩ (fun r2 M2 J0 H locs hq hw => ?_)
          obtain ⟨hq, rfl⟩ := hq
          obtain ⟨hr9, hI⟩ := hq
          refine lv_icmp_eq (tgt := 1049) hx hb dL_law_249 (by decide) (fun _ => ?_) (fun hc => absurd hr9 hc)
          exact jn _ _ ad kd RS _ _ _ _ hI k7 k8 (by omega) (by omega) hw hl
        · refine lv_tableIn (off := 221) (tgt := 254) hx hb dL_law_33 (by omega) (by omega) (by rw [hs]; rfl) (by decide) ?_
          refine lv_aload_n hx hb dL_law_254 rfl (lv_at hl 1 rfl) ?_
          refine lv_aload_n hx hb dL_law_255 rfl (lv_at hl 0 rfl) ?_
          refine lv_iload_n hx hb dL_law_256 rfl (lv_at hl 3 rfl) ?_
          refine lv_iconst (v := (1 : Int32)) hx hb dL_law_257 (by decide) ?_
          refine lv_iadd hx hb dL_law_258 ?_
          refine va_sld hx hb hX hbl hbA hw.2.2.2.1 (hin 1 (by omega)) dL_law_259 ?_
          refine lv_aload_n hx hb dL_law_260 rfl (lv_at hl 0 rfl) ?_
          refine lv_iload_n hx hb dL_law_261 rfl (lv_at hl 3 rfl) ?_
          refine lv_iconst (v := (2 : Int32)) hx hb dL_law_262 (by decide) ?_
          refine lv_iadd hx hb dL_law_263 ?_
          refine va_sld hx hb hX hbl hbA hw.2.2.2.1 (hin 2 (by omega)) dL_law_264 ?_
          refine lv_aload_n hx hb dL_law_265 rfl (lv_at hl 0 rfl) ?_
          refine lv_iload_n hx hb dL_law_266 rfl (lv_at hl 3 rfl) ?_
          refine lv_iconst (v := (3 : Int32)) hx hb dL_law_267 (by decide) ?_
          refine lv_iadd hx hb dL_law_268 ?_
          refine va_sld hx hb hX hbl hbA hw.2.2.2.1 (hin 3 (by omega)) dL_law_269 ?_
          refine lv_aload_n hx hb dL_law_270 rfl (lv_at hl 0 rfl) ?_
          refine lv_iload_n hx hb dL_law_271 rfl (lv_at hl 3 rfl) ?_
          refine lv_iconst (v := (4 : Int32)) hx hb dL_law_272 (by decide) ?_
          refine lv_iadd hx hb dL_law_273 ?_
          refine va_sld hx hb hX hbl hbA hw.2.2.2.1 (hin 4 (by omega)) dL_law_274 ?_
          refine lv_aload_n hx hb dL_law_275 rfl (lv_at hl 0 rfl) ?_
          refine lv_iload_n hx hb dL_law_276 rfl (lv_at hl 3 rfl) ?_
          refine lv_iconst (v := (5 : Int32)) hx hb dL_law_277 (by decide) ?_
          refine lv_iadd hx hb dL_law_278 ?_
          refine va_sld hx hb hX hbl hbA hw.2.2.2.1 (hin 5 (by omega)) dL_law_279 ?_
          have hq := hst.2.2.1 M J (xs (x3 + (1 : Int32)).toNatClampNeg) (xs (x3 + (2 : Int32)).toNatClampNeg) (xs (x3 + (3 : Int32)).toNatClampNeg) (xs (x3 + (4 : Int32)).toNatClampNeg) (xs (x3 + (5 : Int32)).toNatClampNeg) hI
          refine z_cvi ⟨hx, hb, hml, hown, hts⟩ hw k7 (kX7_copy k7 hq) (by decide) rfl (cwV 5 hts gL_law_X7_copy rfl rfl rfl (by decide +kernel) ⟨Nat.le_of_ble_eq_true rfl, Nat.le_of_ble_eq_true rfl⟩) rfl hl.1 rfl (Nat.le_of_ble_eq_true rfl) dL_law_280 ⟨by show _ ≤ 600000; omega, by show _ ≤ 7302250; omega⟩ (fun r1 M1 J0 H locs hq hw => ?_)
          obtain ⟨hq, rfl⟩ := hq
          refine lv_aload_n hx hb dL_law_283 rfl (lv_at hl 2 rfl) ?_
          refine lv_aload_n hx hb dL_law_284 rfl (lv_at hl 0 rfl) ?_
          refine lv_iload_n hx hb dL_law_285 rfl (lv_at hl 3 rfl) ?_
          refine lv_iconst (v := (1 : Int32)) hx hb dL_law_286 (by decide) ?_
          refine lv_iadd hx hb dL_law_287 ?_
          refine va_sld hx hb hX hbl hbA hw.2.2.2.1 (hin 1 (by omega)) dL_law_288 ?_
          refine lv_aload_n hx hb dL_law_289 rfl (lv_at hl 0 rfl) ?_
          refine lv_iload_n hx hb dL_law_290 rfl (lv_at hl 3 rfl) ?_
          refine lv_iconst (v := (2 : Int32)) hx hb dL_law_291 (by decide) ?_
          refine lv_iadd hx hb dL_law_292 ?_
          refine va_sld hx hb hX hbl hbA hw.2.2.2.1 (hin 2 (by omega)) dL_law_293 ?_
          refine lv_aload_n hx hb dL_law_294 rfl (lv_at hl 0 rfl) ?_
          refine lv_iload_n hx hb dL_law_295 rfl (lv_at hl 3 rfl) ?_
          refine lv_iconst (v := (3 : Int32)) hx hb dL_law_296 (by decide) ?_
          refine lv_iadd hx hb dL_law_297 ?_
          refine va_sld hx hb hX hbl hbA hw.2.2.2.1 (hin 3 (by omega)) dL_law_298 ?_
          refine lv_aload_n hx hb dL_law_299 rfl (lv_at hl 0 rfl) ?_
          refine lv_iload_n hx hb dL_law_300 rfl (lv_at hl 3 rfl) ?_
          refine lv_iconst (v := (4 : Int32)) hx hb dL_law_301 (by decide) ?_
          refine lv_iadd hx hb dL_law_302 ?_
          refine va_sld hx hb hX hbl hbA hw.2.2.2.1 (hin 4 (by omega)) dL_law_303 ?_
          refine lv_aload_n hx hb dL_law_304 rfl (lv_at hl 0 rfl) ?_
          refine lv_iload_n hx hb dL_law_305 rfl (lv_at hl 3 rfl) ?_
          refine lv_iconst (v := (5 : Int32)) hx hb dL_law_306 (by decide) ?_
          refine lv_iadd hx hb dL_law_307 ?_
          refine va_sld hx hb hX hbl hbA hw.2.2.2.1 (hin 5 (by omega)) dL_law_308 ?_
          refine z_cvi ⟨hx, hb, hml, hown, hts⟩ hw k8 (kX8_copy k8 hq) (by decide) rfl (cwV 5 hts gL_law_X8_copy rfl rfl rfl (by decide +kernel) ⟨Nat.le_of_ble_eq_true rfl, Nat.le_of_ble_eq_true rfl⟩) rfl hl.1 rfl (Nat.le_of_ble_eq_true rfl) dL_law_309 ⟨by show _ ≤ 600000; omega, by show _ ≤ 7302250; omega⟩ (fun r2 M2 J0 H locs hq hw => ?_)
          obtain ⟨hq, rfl⟩ := hq
          obtain ⟨hr9, hI⟩ := hq
          refine lv_icmp_eq (tgt := 1049) hx hb dL_law_312 (by decide) (fun _ => ?_) (fun hc => absurd hr9 hc)
          exact jn _ _ ad kd RS _ _ _ _ hI k7 k8 (by omega) (by omega) hw hl
        · refine lv_tableIn (off := 284) (tgt := 317) hx hb dL_law_33 (by omega) (by omega) (by rw [hs]; rfl) (by decide) ?_
          refine lv_aload_n hx hb dL_law_317 rfl (lv_at hl 1 rfl) ?_
          refine lv_aload_n hx hb dL_law_318 rfl (lv_at hl 0 rfl) ?_
          refine lv_iload_n hx hb dL_law_319 rfl (lv_at hl 3 rfl) ?_
          refine lv_iconst (v := (1 : Int32)) hx hb dL_law_320 (by decide) ?_
          refine lv_iadd hx hb dL_law_321 ?_
          refine va_sld hx hb hX hbl hbA hw.2.2.2.1 (hin 1 (by omega)) dL_law_322 ?_
          have hq := hst.2.2.2.1 M J (xs (x3 + (1 : Int32)).toNatClampNeg) hI
          refine z_cvi ⟨hx, hb, hml, hown, hts⟩ hw k7 (kX7_drop k7 hq) (by decide) rfl (cwV 1 hts gL_law_X7_drop rfl rfl rfl (by decide +kernel) ⟨Nat.le_of_ble_eq_true rfl, Nat.le_of_ble_eq_true rfl⟩) rfl hl.1 rfl (Nat.le_of_ble_eq_true rfl) dL_law_323 ⟨by show _ ≤ 600000; omega, by show _ ≤ 7302250; omega⟩ (fun r1 M1 J0 H locs hq hw => ?_)
          obtain ⟨hq, rfl⟩ := hq
          refine lv_aload_n hx hb dL_law_326 rfl (lv_at hl 2 rfl) ?_
          refine lv_aload_n hx hb dL_law_327 rfl (lv_at hl 0 rfl) ?_
          refine lv_iload_n hx hb dL_law_328 rfl (lv_at hl 3 rfl) ?_
          refine lv_iconst (v := (1 : Int32)) hx hb dL_law_329 (by decide) ?_
          refine lv_iadd hx hb dL_law_330 ?_
          refine va_sld hx hb hX hbl hbA hw.2.2.2.1 (hin 1 (by omega)) dL_law_331 ?_
          refine z_cvi ⟨hx, hb, hml, hown, hts⟩ hw k8 (kX8_drop k8 hq) (by decide) rfl (cwV 1 hts gL_law_X8_drop rfl rfl rfl (by decide +kernel) ⟨Nat.le_of_ble_eq_true rfl, Nat.le_of_ble_eq_true rfl⟩) rfl hl.1 rfl (Nat.le_of_ble_eq_true rfl) dL_law_332 ⟨by show _ ≤ 600000; omega, by show _ ≤ 7302250; omega⟩ (fun r2 M2 J0 H locs hq hw => ?_)
          obtain ⟨hq, rfl⟩ := hq
          obtain ⟨hr9, hI⟩ := hq
          refine lv_icmp_eq (tgt := 1049) hx hb dL_law_335 (by decide) (fun _ => ?_) (fun hc => absurd hr9 hc)
          exact jn _ _ ad kd RS _ _ _ _ hI k7 k8 (by omega) (by omega) hw hl
        · refine lv_tableIn (off := 307) (tgt := 340) hx hb dL_law_33 (by omega) (by omega) (by rw [hs]; rfl) (by decide) ?_
          refine lv_aload_n hx hb dL_law_340 rfl (lv_at hl 1 rfl) ?_
          refine lv_aload_n hx hb dL_law_341 rfl (lv_at hl 0 rfl) ?_
          refine lv_iload_n hx hb dL_law_342 rfl (lv_at hl 3 rfl) ?_
          refine lv_iconst (v := (1 : Int32)) hx hb dL_law_343 (by decide) ?_
          refine lv_iadd hx hb dL_law_344 ?_
          refine va_sld hx hb hX hbl hbA hw.2.2.2.1 (hin 1 (by omega)) dL_law_345 ?_
          have hq := hst.2.2.2.2.1 M J (xs (x3 + (1 : Int32)).toNatClampNeg) hI
          refine z_cvi ⟨hx, hb, hml, hown, hts⟩ hw k7 (kX7_feed k7 hq) (by decide) rfl (cwV 1 hts gL_law_X7_feed rfl rfl rfl (by decide +kernel) ⟨Nat.le_of_ble_eq_true rfl, Nat.le_of_ble_eq_true rfl⟩) rfl hl.1 rfl (Nat.le_of_ble_eq_true rfl) dL_law_346 ⟨by show _ ≤ 600000; omega, by show _ ≤ 7302250; omega⟩ (fun r1 M1 J0 H locs hq hw => ?_)
          obtain ⟨hq, rfl⟩ := hq
          refine lv_aload_n hx hb dL_law_349 rfl (lv_at hl 2 rfl) ?_
          refine lv_aload_n hx hb dL_law_350 rfl (lv_at hl 0 rfl) ?_
          refine lv_iload_n hx hb dL_law_351 rfl (lv_at hl 3 rfl) ?_
          refine lv_iconst (v := (1 : Int32)) hx hb dL_law_352 (by decide) ?_
          refine lv_iadd hx hb dL_law_353 ?_
          refine va_sld hx hb hX hbl hbA hw.2.2.2.1 (hin 1 (by omega)) dL_law_354 ?_
          refine z_cvi ⟨hx, hb, hml, hown, hts⟩ hw k8 (kX8_feed k8 hq) (by decide) rfl (cwV 1 hts gL_law_X8_feed rfl rfl rfl (by decide +kernel) ⟨Nat.le_of_ble_eq_true rfl, Nat.le_of_ble_eq_true rfl⟩) rfl hl.1 rfl (Nat.le_of_ble_eq_true rfl) dL_law_355 ⟨by show _ ≤ 600000; omega, by show _ ≤ 7302250; omega⟩ (fun r2 M2 J0 H locs hq hw => ?_)
          obtain ⟨hq, rfl⟩ := hq
          obtain ⟨hr9, hI⟩ := hq
          refine lv_icmp_eq (tgt := 1049) hx hb dL_law_358 (by decide) (fun _ => ?_) (fun hc => absurd hr9 hc)
          exact jn _ _ ad kd RS _ _ _ _ hI k7 k8 (by omega) (by omega) hw hl
        · refine lv_tableIn (off := 330) (tgt := 363) hx hb dL_law_33 (by omega) (by omega) (by rw [hs]; rfl) (by decide) ?_
          refine lv_aload_n hx hb dL_law_363 rfl (lv_at hl 1 rfl) ?_
          have hq := hst.2.2.2.2.2.1 M J  hI
          refine z_cvi ⟨hx, hb, hml, hown, hts⟩ hw k7 (kX7_rail k7 hq) (by decide) rfl (cwV 0 hts gL_law_X7_rail rfl rfl rfl (by decide +kernel) ⟨Nat.le_of_ble_eq_true rfl, Nat.le_of_ble_eq_true rfl⟩) rfl hl.1 rfl (Nat.le_of_ble_eq_true rfl) dL_law_364 ⟨by show _ ≤ 600000; omega, by show _ ≤ 7302250; omega⟩ (fun r1 M1 J0 H locs hq hw => ?_)
          obtain ⟨hq, rfl⟩ := hq
          refine lv_aload_n hx hb dL_law_367 rfl (lv_at hl 2 rfl) ?_
          refine z_cvi ⟨hx, hb, hml, hown, hts⟩ hw k8 (kX8_rail k8 hq) (by decide) rfl (cwV 0 hts gL_law_X8_rail rfl rfl rfl (by decide +kernel) ⟨Nat.le_of_ble_eq_true rfl, Nat.le_of_ble_eq_true rfl⟩) rfl hl.1 rfl (Nat.le_of_ble_eq_true rfl) dL_law_368 ⟨by show _ ≤ 600000; omega, by show _ ≤ 7302250; omega⟩ (fun r2 M2 J0 H locs hq hw => ?_)
          obtain ⟨hq, rfl⟩ := hq
          obtain ⟨hr9, hI⟩ := hq
          refine lv_icmp_eq (tgt := 1049) hx hb dL_law_371 (by decide) (fun _ => ?_) (fun hc => absurd hr9 hc)
          exact jn _ _ ad kd RS _ _ _ _ hI k7 k8 (by omega) (by omega) hw hl
        · refine lv_tableIn (off := 343) (tgt := 376) hx hb dL_law_33 (by omega) (by omega) (by rw [hs]; rfl) (by decide) ?_
          refine lv_aload_n hx hb dL_law_376 rfl (lv_at hl 1 rfl) ?_
          have hq := hst.2.2.2.2.2.2.1 M J  hI
          refine z_cvi ⟨hx, hb, hml, hown, hts⟩ hw k7 (kX7_fault k7 hq) (by decide) rfl (cwV 0 hts gL_law_X7_fault rfl rfl rfl (by decide +kernel) ⟨Nat.le_of_ble_eq_true rfl, Nat.le_of_ble_eq_true rfl⟩) rfl hl.1 rfl (Nat.le_of_ble_eq_true rfl) dL_law_377 ⟨by show _ ≤ 600000; omega, by show _ ≤ 7302250; omega⟩ (fun r1 M0 J0 H locs hq hw => ?_)
          obtain ⟨hq, rfl, rfl⟩ := hq
          refine lv_aload_n hx hb dL_law_380 rfl (lv_at hl 2 rfl) ?_
          refine z_cvi ⟨hx, hb, hml, hown, hts⟩ hw k8 (kX8_fault k8 hq) (by decide) rfl (cwV 0 hts gL_law_X8_fault rfl rfl rfl (by decide +kernel) ⟨Nat.le_of_ble_eq_true rfl, Nat.le_of_ble_eq_true rfl⟩) rfl hl.1 rfl (Nat.le_of_ble_eq_true rfl) dL_law_381 ⟨by show _ ≤ 600000; omega, by show _ ≤ 7302250; omega⟩ (fun r2 M0 J0 H locs hq hw => ?_)
          obtain ⟨hq, rfl, rfl⟩ := hq
          obtain ⟨hr9, hI⟩ := hq
          refine lv_icmp_eq (tgt := 1049) hx hb dL_law_384 (by decide) (fun _ => ?_) (fun hc => absurd hr9 hc)
          exact jn _ _ ad kd RS _ _ _ _ hI k7 k8 (by omega) (by omega) hw hl
        · refine lv_tableIn (off := 356) (tgt := 389) hx hb dL_law_33 (by omega) (by omega) (by rw [hs]; rfl) (by decide) ?_
          refine lv_aload_n hx hb dL_law_389 rfl (lv_at hl 1 rfl) ?_
          refine lv_aload_n hx hb dL_law_390 rfl (lv_at hl 0 rfl) ?_
          refine lv_iload_n hx hb dL_law_391 rfl (lv_at hl 3 rfl) ?_
          refine lv_iconst (v := (1 : Int32)) hx hb dL_law_392 (by decide) ?_
          refine lv_iadd hx hb dL_law_393 ?_
          refine va_sld hx hb hX hbl hbA hw.2.2.2.1 (hin 1 (by omega)) dL_law_394 ?_
          refine lv_aload_n hx hb dL_law_395 rfl (lv_at hl 0 rfl) ?_
          refine lv_iload_n hx hb dL_law_396 rfl (lv_at hl 3 rfl) ?_
          refine lv_iconst (v := (2 : Int32)) hx hb dL_law_397 (by decide) ?_
          refine lv_iadd hx hb dL_law_398 ?_
          refine va_sld hx hb hX hbl hbA hw.2.2.2.1 (hin 2 (by omega)) dL_law_399 ?_
          have hq := hst.2.2.2.2.2.2.2.1 M J (xs (x3 + (1 : Int32)).toNatClampNeg) (xs (x3 + (2 : Int32)).toNatClampNeg) hI
          refine z_cai ⟨hx, hb, hml, hown, hts⟩ hw k7 (kX7_lay k7 hq) (by decide) rfl (cwV 2 hts gL_law_X7_lay rfl rfl rfl (by decide +kernel) ⟨Nat.le_of_ble_eq_true rfl, Nat.le_of_ble_eq_true rfl⟩) rfl hl.1 rfl (Nat.le_of_ble_eq_true rfl) dL_law_400 ⟨by show cells + 5 ≤ 600000; omega, by show slots + 54 ≤ 7302250; omega⟩ (fun r1 ad kd RS M1 J0 H locs hq hE hw => ?_)
          obtain ⟨hq, rfl⟩ := hq
          have hA0 := (hE 0 (by rw [k7]; decide)).2
          have hA2 := (hE 200 (by rw [k8]; decide)).2
          have k7 := ((hE 0 (by rw [k7]; decide)).1).trans k7
          have k8 := ((hE 200 (by rw [k8]; decide)).1).trans k8
          rw [← hA0, ← hA2] at hl
          refine lv_aload_n hx hb dL_law_403 rfl (lv_at hl 2 rfl) ?_
          refine lv_aload_n hx hb dL_law_404 rfl (lv_at hl 0 rfl) ?_
          refine lv_iload_n hx hb dL_law_405 rfl (lv_at hl 3 rfl) ?_
          refine lv_iconst (v := (1 : Int32)) hx hb dL_law_406 (by decide) ?_
          refine lv_iadd hx hb dL_law_407 ?_
          refine va_sld hx hb hX hbl hbA hw.2.2.2.1 (hin 1 (by omega)) dL_law_408 ?_
          refine lv_aload_n hx hb dL_law_409 rfl (lv_at hl 0 rfl) ?_
          refine lv_iload_n hx hb dL_law_410 rfl (lv_at hl 3 rfl) ?_
          refine lv_iconst (v := (2 : Int32)) hx hb dL_law_411 (by decide) ?_
          refine lv_iadd hx hb dL_law_412 ?_
          refine va_sld hx hb hX hbl hbA hw.2.2.2.1 (hin 2 (by omega)) dL_law_413 ?_
          refine z_cvi ⟨hx, hb, hml, hown, hts⟩ hw k8 (kX8_lay k8 hq) (by decide) rfl (cwV 2 hts gL_law_X8_lay rfl rfl rfl (by decide +kernel) ⟨Nat.le_of_ble_eq_true rfl, Nat.le_of_ble_eq_true rfl⟩) rfl hl.1 rfl (Nat.le_of_ble_eq_true rfl) dL_law_414 ⟨by show _ ≤ 600000; omega, by show _ ≤ 7302250; omega⟩ (fun r2 M2 J0 H locs hq hw => ?_)
          obtain ⟨hq, rfl⟩ := hq
          obtain ⟨hr9, hI⟩ := hq
          refine lv_icmp_eq (tgt := 1049) hx hb dL_law_417 (by decide) (fun _ => ?_) (fun hc => absurd hr9 hc)
          exact jn _ _ ad kd RS _ _ _ _ hI k7 k8 (by omega) (by omega) hw hl
        · refine lv_tableIn (off := 389) (tgt := 422) hx hb dL_law_33 (by omega) (by omega) (by rw [hs]; rfl) (by decide) ?_
          refine lv_aload_n hx hb dL_law_422 rfl (lv_at hl 1 rfl) ?_
          have hq := hst.2.2.2.2.2.2.2.2.1 M J  hI
          refine z_cai ⟨hx, hb, hml, hown, hts⟩ hw k7 (kX7_work k7 hq) (by decide) rfl (cwV 0 hts gL_law_X7_work rfl rfl rfl (by decide +kernel) ⟨Nat.le_of_ble_eq_true rfl, Nat.le_of_ble_eq_true rfl⟩) rfl hl.1 rfl (Nat.le_of_ble_eq_true rfl) dL_law_423 ⟨by show cells + 5 ≤ 600000; omega, by show slots + 54 ≤ 7302250; omega⟩ (fun r1 ad kd RS M1 J0 H locs hq hE hw => ?_)
          obtain ⟨hq, rfl⟩ := hq
          have hA0 := (hE 0 (by rw [k7]; decide)).2
          have hA2 := (hE 200 (by rw [k8]; decide)).2
          have k7 := ((hE 0 (by rw [k7]; decide)).1).trans k7
          have k8 := ((hE 200 (by rw [k8]; decide)).1).trans k8
          rw [← hA0, ← hA2] at hl
          refine lv_aload_n hx hb dL_law_426 rfl (lv_at hl 2 rfl) ?_
          refine z_cvi ⟨hx, hb, hml, hown, hts⟩ hw k8 (kX8_work k8 hq) (by decide) rfl (cwV 0 hts gL_law_X8_work rfl rfl rfl (by decide +kernel) ⟨Nat.le_of_ble_eq_true rfl, Nat.le_of_ble_eq_true rfl⟩) rfl hl.1 rfl (Nat.le_of_ble_eq_true rfl) dL_law_427 ⟨by show _ ≤ 600000; omega, by show _ ≤ 7302250; omega⟩ (fun r2 M2 J0 H locs hq hw => ?_)
          obtain ⟨hq, rfl⟩ := hq
          obtain ⟨hr9, hI⟩ := hq
          refine lv_icmp_eq (tgt := 1049) hx hb dL_law_430 (by decide) (fun _ => ?_) (fun hc => absurd hr9 hc)
          exact jn _ _ ad kd RS _ _ _ _ hI k7 k8 (by omega) (by omega) hw hl
        · refine lv_tableIn (off := 402) (tgt := 435) hx hb dL_law_33 (by omega) (by omega) (by rw [hs]; rfl) (by decide) ?_
          refine lv_aload_n hx hb dL_law_435 rfl (lv_at hl 1 rfl) ?_
          refine lv_aload_n hx hb dL_law_436 rfl (lv_at hl 0 rfl) ?_
          refine lv_iload_n hx hb dL_law_437 rfl (lv_at hl 3 rfl) ?_
          refine lv_iconst (v := (1 : Int32)) hx hb dL_law_438 (by decide) ?_
          refine lv_iadd hx hb dL_law_439 ?_
          refine va_sld hx hb hX hbl hbA hw.2.2.2.1 (hin 1 (by omega)) dL_law_440 ?_
          refine lv_aload_n hx hb dL_law_441 rfl (lv_at hl 0 rfl) ?_
          refine lv_iload_n hx hb dL_law_442 rfl (lv_at hl 3 rfl) ?_
          refine lv_iconst (v := (2 : Int32)) hx hb dL_law_443 (by decide) ?_
          refine lv_iadd hx hb dL_law_444 ?_
          refine va_sld hx hb hX hbl hbA hw.2.2.2.1 (hin 2 (by omega)) dL_law_445 ?_
          have hq := hst.2.2.2.2.2.2.2.2.2.1 M J (xs (x3 + (1 : Int32)).toNatClampNeg) (xs (x3 + (2 : Int32)).toNatClampNeg) hI
          refine z_cai ⟨hx, hb, hml, hown, hts⟩ hw k7 (kX7_gang k7 hq) (by decide) rfl (cwV 2 hts gL_law_X7_gang rfl rfl rfl (by decide +kernel) ⟨Nat.le_of_ble_eq_true rfl, Nat.le_of_ble_eq_true rfl⟩) rfl hl.1 rfl (Nat.le_of_ble_eq_true rfl) dL_law_446 ⟨by show cells + 65 ≤ 600000; omega, by show slots + 702 ≤ 7302250; omega⟩ (fun r1 ad kd RS M1 J0 H locs hq hE hw => ?_)
          obtain ⟨hq, rfl⟩ := hq
          have hA0 := (hE 0 (by rw [k7]; decide)).2
          have hA2 := (hE 200 (by rw [k8]; decide)).2
          have k7 := ((hE 0 (by rw [k7]; decide)).1).trans k7
          have k8 := ((hE 200 (by rw [k8]; decide)).1).trans k8
          rw [← hA0, ← hA2] at hl
          refine lv_aload_n hx hb dL_law_449 rfl (lv_at hl 2 rfl) ?_
          refine lv_aload_n hx hb dL_law_450 rfl (lv_at hl 0 rfl) ?_
          refine lv_iload_n hx hb dL_law_451 rfl (lv_at hl 3 rfl) ?_
          refine lv_iconst (v := (1 : Int32)) hx hb dL_law_452 (by decide) ?_
          refine lv_iadd hx hb dL_law_453 ?_
          refine va_sld hx hb hX hbl hbA hw.2.2.2.1 (hin 1 (by omega)) dL_law_454 ?_
          refine lv_aload_n hx hb dL_law_455 rfl (lv_at hl 0 rfl) ?_
          refine lv_iload_n hx hb dL_law_456 rfl (lv_at hl 3 rfl) ?_
          refine lv_iconst (v := (2 : Int32)) hx hb dL_law_457 (by decide) ?_
          refine lv_iadd hx hb dL_law_458 ?_
          refine va_sld hx hb hX hbl hbA hw.2.2.2.1 (hin 2 (by omega)) dL_law_459 ?_
          refine z_cvi ⟨hx, hb, hml, hown, hts⟩ hw k8 (kX8_gang k8 hq) (by decide) rfl (cwV 2 hts gL_law_X8_gang rfl rfl rfl (by decide +kernel) ⟨Nat.le_of_ble_eq_true rfl, Nat.le_of_ble_eq_true rfl⟩) rfl hl.1 rfl (Nat.le_of_ble_eq_true rfl) dL_law_460 ⟨by show _ ≤ 600000; omega, by show _ ≤ 7302250; omega⟩ (fun r2 M2 J0 H locs hq hw => ?_)
          obtain ⟨hq, rfl⟩ := hq
          obtain ⟨hr9, hI⟩ := hq
          refine lv_icmp_eq (tgt := 1049) hx hb dL_law_463 (by decide) (fun _ => ?_) (fun hc => absurd hr9 hc)
          exact jn _ _ ad kd RS _ _ _ _ hI k7 k8 (by omega) (by omega) hw hl
        · refine lv_tableIn (off := 435) (tgt := 468) hx hb dL_law_33 (by omega) (by omega) (by rw [hs]; rfl) (by decide) ?_
          refine lv_aload_n hx hb dL_law_468 rfl (lv_at hl 1 rfl) ?_
          refine lv_aload_n hx hb dL_law_469 rfl (lv_at hl 0 rfl) ?_
          refine lv_iload_n hx hb dL_law_470 rfl (lv_at hl 3 rfl) ?_
          refine lv_iconst (v := (1 : Int32)) hx hb dL_law_471 (by decide) ?_
          refine lv_iadd hx hb dL_law_472 ?_
          refine va_sld hx hb hX hbl hbA hw.2.2.2.1 (hin 1 (by omega)) dL_law_473 ?_
          refine lv_aload_n hx hb dL_law_474 rfl (lv_at hl 0 rfl) ?_
          refine lv_iload_n hx hb dL_law_475 rfl (lv_at hl 3 rfl) ?_
          refine lv_iconst (v := (2 : Int32)) hx hb dL_law_476 (by decide) ?_
          refine lv_iadd hx hb dL_law_477 ?_
          refine va_sld hx hb hX hbl hbA hw.2.2.2.1 (hin 2 (by omega)) dL_law_478 ?_
          have hq := hst.2.2.2.2.2.2.2.2.2.2.1 M J (xs (x3 + (1 : Int32)).toNatClampNeg) (xs (x3 + (2 : Int32)).toNatClampNeg) hI
          refine z_cai ⟨hx, hb, hml, hown, hts⟩ hw k7 (kX7_read k7 hq) (by decide) rfl (cwV 2 hts gL_law_X7_read rfl rfl rfl (by decide +kernel) ⟨Nat.le_of_ble_eq_true rfl, Nat.le_of_ble_eq_true rfl⟩) rfl hl.1 rfl (Nat.le_of_ble_eq_true rfl) dL_law_479 ⟨by show cells + 5 ≤ 600000; omega, by show slots + 54 ≤ 7302250; omega⟩ (fun r1 ad kd RS M1 J0 H locs hq hE hw => ?_)
          obtain ⟨hq, rfl⟩ := hq
          have hA0 := (hE 0 (by rw [k7]; decide)).2
          have hA2 := (hE 200 (by rw [k8]; decide)).2
          have k7 := ((hE 0 (by rw [k7]; decide)).1).trans k7
          have k8 := ((hE 200 (by rw [k8]; decide)).1).trans k8
          rw [← hA0, ← hA2] at hl
          refine lv_aload_n hx hb dL_law_482 rfl (lv_at hl 2 rfl) ?_
          refine lv_aload_n hx hb dL_law_483 rfl (lv_at hl 0 rfl) ?_
          refine lv_iload_n hx hb dL_law_484 rfl (lv_at hl 3 rfl) ?_
          refine lv_iconst (v := (1 : Int32)) hx hb dL_law_485 (by decide) ?_
          refine lv_iadd hx hb dL_law_486 ?_
          refine va_sld hx hb hX hbl hbA hw.2.2.2.1 (hin 1 (by omega)) dL_law_487 ?_
          refine lv_aload_n hx hb dL_law_488 rfl (lv_at hl 0 rfl) ?_
          refine lv_iload_n hx hb dL_law_489 rfl (lv_at hl 3 rfl) ?_
          refine lv_iconst (v := (2 : Int32)) hx hb dL_law_490 (by decide) ?_
          refine lv_iadd hx hb dL_law_491 ?_
          refine va_sld hx hb hX hbl hbA hw.2.2.2.1 (hin 2 (by omega)) dL_law_492 ?_
          refine z_cvi ⟨hx, hb, hml, hown, hts⟩ hw k8 (kX8_read k8 hq) (by decide) rfl (cwV 2 hts gL_law_X8_read rfl rfl rfl (by decide +kernel) ⟨Nat.le_of_ble_eq_true rfl, Nat.le_of_ble_eq_true rfl⟩) rfl hl.1 rfl (Nat.le_of_ble_eq_true rfl) dL_law_493 ⟨by show _ ≤ 600000; omega, by show _ ≤ 7302250; omega⟩ (fun r2 M2 J0 H locs hq hw => ?_)
          obtain ⟨hq, rfl⟩ := hq
          obtain ⟨hr9, hI⟩ := hq
          refine lv_icmp_eq (tgt := 1049) hx hb dL_law_496 (by decide) (fun _ => ?_) (fun hc => absurd hr9 hc)
          exact jn _ _ ad kd RS _ _ _ _ hI k7 k8 (by omega) (by omega) hw hl
        · refine lv_tableIn (off := 468) (tgt := 501) hx hb dL_law_33 (by omega) (by omega) (by rw [hs]; rfl) (by decide) ?_
          refine lv_aload_n hx hb dL_law_501 rfl (lv_at hl 1 rfl) ?_
          refine lv_aload_n hx hb dL_law_502 rfl (lv_at hl 0 rfl) ?_
          refine lv_iload_n hx hb dL_law_503 rfl (lv_at hl 3 rfl) ?_
          refine lv_iconst (v := (1 : Int32)) hx hb dL_law_504 (by decide) ?_
          refine lv_iadd hx hb dL_law_505 ?_
          refine va_sld hx hb hX hbl hbA hw.2.2.2.1 (hin 1 (by omega)) dL_law_506 ?_
          refine lv_aload_n hx hb dL_law_507 rfl (lv_at hl 0 rfl) ?_
          refine lv_iload_n hx hb dL_law_508 rfl (lv_at hl 3 rfl) ?_
          refine lv_iconst (v := (2 : Int32)) hx hb dL_law_509 (by decide) ?_
          refine lv_iadd hx hb dL_law_510 ?_
          refine va_sld hx hb hX hbl hbA hw.2.2.2.1 (hin 2 (by omega)) dL_law_511 ?_
          have hq := hst.2.2.2.2.2.2.2.2.2.2.2.1 M J (xs (x3 + (1 : Int32)).toNatClampNeg) (xs (x3 + (2 : Int32)).toNatClampNeg) hI
          refine z_cai ⟨hx, hb, hml, hown, hts⟩ hw k7 (kX7_bound k7 hq) (by decide) rfl (cwV 2 hts gL_law_X7_bound rfl rfl rfl (by decide +kernel) ⟨Nat.le_of_ble_eq_true rfl, Nat.le_of_ble_eq_true rfl⟩) rfl hl.1 rfl (Nat.le_of_ble_eq_true rfl) dL_law_512 ⟨by show cells + 5 ≤ 600000; omega, by show slots + 54 ≤ 7302250; omega⟩ (fun r1 ad kd RS M1 J0 H locs hq hE hw => ?_)
          obtain ⟨hq, rfl⟩ := hq
          have hA0 := (hE 0 (by rw [k7]; decide)).2
          have hA2 := (hE 200 (by rw [k8]; decide)).2
          have k7 := ((hE 0 (by rw [k7]; decide)).1).trans k7
          have k8 := ((hE 200 (by rw [k8]; decide)).1).trans k8
          rw [← hA0, ← hA2] at hl
          refine lv_aload_n hx hb dL_law_515 rfl (lv_at hl 2 rfl) ?_
          refine lv_aload_n hx hb dL_law_516 rfl (lv_at hl 0 rfl) ?_
          refine lv_iload_n hx hb dL_law_517 rfl (lv_at hl 3 rfl) ?_
          refine lv_iconst (v := (1 : Int32)) hx hb dL_law_518 (by decide) ?_
          refine lv_iadd hx hb dL_law_519 ?_
          refine va_sld hx hb hX hbl hbA hw.2.2.2.1 (hin 1 (by omega)) dL_law_520 ?_
          refine lv_aload_n hx hb dL_law_521 rfl (lv_at hl 0 rfl) ?_
          refine lv_iload_n hx hb dL_law_522 rfl (lv_at hl 3 rfl) ?_
          refine lv_iconst (v := (2 : Int32)) hx hb dL_law_523 (by decide) ?_
          refine lv_iadd hx hb dL_law_524 ?_
          refine va_sld hx hb hX hbl hbA hw.2.2.2.1 (hin 2 (by omega)) dL_law_525 ?_
          refine z_cvi ⟨hx, hb, hml, hown, hts⟩ hw k8 (kX8_bound k8 hq) (by decide) rfl (cwV 2 hts gL_law_X8_bound rfl rfl rfl (by decide +kernel) ⟨Nat.le_of_ble_eq_true rfl, Nat.le_of_ble_eq_true rfl⟩) rfl hl.1 rfl (Nat.le_of_ble_eq_true rfl) dL_law_526 ⟨by show _ ≤ 600000; omega, by show _ ≤ 7302250; omega⟩ (fun r2 M2 J0 H locs hq hw => ?_)
          obtain ⟨hq, rfl⟩ := hq
          obtain ⟨hr9, hI⟩ := hq
          refine lv_icmp_eq (tgt := 1049) hx hb dL_law_529 (by decide) (fun _ => ?_) (fun hc => absurd hr9 hc)
          exact jn _ _ ad kd RS _ _ _ _ hI k7 k8 (by omega) (by omega) hw hl
        · refine lv_tableIn (off := 501) (tgt := 534) hx hb dL_law_33 (by omega) (by omega) (by rw [hs]; rfl) (by decide) ?_
          refine lv_aload_n hx hb dL_law_534 rfl (lv_at hl 1 rfl) ?_
          have hq := hst.2.2.2.2.2.2.2.2.2.2.2.2.1 M J  hI
          refine z_cvi ⟨hx, hb, hml, hown, hts⟩ hw k7 (kX7_undo k7 hq) (by decide) rfl (cwV 0 hts gL_law_X7_undo rfl rfl rfl (by decide +kernel) ⟨Nat.le_of_ble_eq_true rfl, Nat.le_of_ble_eq_true rfl⟩) rfl hl.1 rfl (Nat.le_of_ble_eq_true rfl) dL_law_535 ⟨by show _ ≤ 600000; omega, by show _ ≤ 7302250; omega⟩ (fun r1 M1 J0 H locs hq hw => ?_)
          obtain ⟨hq, rfl⟩ := hq
          refine lv_aload_n hx hb dL_law_538 rfl (lv_at hl 2 rfl) ?_
          refine z_cvi ⟨hx, hb, hml, hown, hts⟩ hw k8 (kX8_undo k8 hq) (by decide) rfl (cwV 0 hts gL_law_X8_undo rfl rfl rfl (by decide +kernel) ⟨Nat.le_of_ble_eq_true rfl, Nat.le_of_ble_eq_true rfl⟩) rfl hl.1 rfl (Nat.le_of_ble_eq_true rfl) dL_law_539 ⟨by show _ ≤ 600000; omega, by show _ ≤ 7302250; omega⟩ (fun r2 M2 J0 H locs hq hw => ?_)
          obtain ⟨hq, rfl⟩ := hq
          obtain ⟨hr9, hI⟩ := hq
          refine lv_icmp_eq (tgt := 1049) hx hb dL_law_542 (by decide) (fun _ => ?_) (fun hc => absurd hr9 hc)
          exact jn _ _ ad kd RS _ _ _ _ hI k7 k8 (by omega) (by omega) hw hl
        · refine lv_tableIn (off := 514) (tgt := 547) hx hb dL_law_33 (by omega) (by omega) (by rw [hs]; rfl) (by decide) ?_
          refine lv_aload_n hx hb dL_law_547 rfl (lv_at hl 1 rfl) ?_
          refine lv_aload_n hx hb dL_law_548 rfl (lv_at hl 0 rfl) ?_
          refine lv_iload_n hx hb dL_law_549 rfl (lv_at hl 3 rfl) ?_
          refine lv_iconst (v := (1 : Int32)) hx hb dL_law_550 (by decide) ?_
          refine lv_iadd hx hb dL_law_551 ?_
          refine va_sld hx hb hX hbl hbA hw.2.2.2.1 (hin 1 (by omega)) dL_law_552 ?_
          refine lv_aload_n hx hb dL_law_553 rfl (lv_at hl 0 rfl) ?_
          refine lv_iload_n hx hb dL_law_554 rfl (lv_at hl 3 rfl) ?_
          refine lv_iconst (v := (2 : Int32)) hx hb dL_law_555 (by decide) ?_
          refine lv_iadd hx hb dL_law_556 ?_
          refine va_sld hx hb hX hbl hbA hw.2.2.2.1 (hin 2 (by omega)) dL_law_557 ?_
          have hq := hst.2.2.2.2.2.2.2.2.2.2.2.2.2.1 M J (xs (x3 + (1 : Int32)).toNatClampNeg) (xs (x3 + (2 : Int32)).toNatClampNeg) hI
          refine z_cvi ⟨hx, hb, hml, hown, hts⟩ hw k7 (kX7_peg k7 hq) (by decide) rfl (cwV 2 hts gL_law_X7_peg rfl rfl rfl (by decide +kernel) ⟨Nat.le_of_ble_eq_true rfl, Nat.le_of_ble_eq_true rfl⟩) rfl hl.1 rfl (Nat.le_of_ble_eq_true rfl) dL_law_558 ⟨by show _ ≤ 600000; omega, by show _ ≤ 7302250; omega⟩ (fun r1 M0 J0 H locs hq hw => ?_)
          obtain ⟨hq, rfl, rfl⟩ := hq
          refine lv_aload_n hx hb dL_law_561 rfl (lv_at hl 2 rfl) ?_
          refine lv_aload_n hx hb dL_law_562 rfl (lv_at hl 0 rfl) ?_
          refine lv_iload_n hx hb dL_law_563 rfl (lv_at hl 3 rfl) ?_
          refine lv_iconst (v := (1 : Int32)) hx hb dL_law_564 (by decide) ?_
          refine lv_iadd hx hb dL_law_565 ?_
          refine va_sld hx hb hX hbl hbA hw.2.2.2.1 (hin 1 (by omega)) dL_law_566 ?_
          refine lv_aload_n hx hb dL_law_567 rfl (lv_at hl 0 rfl) ?_
          refine lv_iload_n hx hb dL_law_568 rfl (lv_at hl 3 rfl) ?_
          refine lv_iconst (v := (2 : Int32)) hx hb dL_law_569 (by decide) ?_
          refine lv_iadd hx hb dL_law_570 ?_
          refine va_sld hx hb hX hbl hbA hw.2.2.2.1 (hin 2 (by omega)) dL_law_571 ?_
          refine z_cvi ⟨hx, hb, hml, hown, hts⟩ hw k8 (kX8_peg k8 hq) (by decide) rfl (cwV 2 hts gL_law_X8_peg rfl rfl rfl (by decide +kernel) ⟨Nat.le_of_ble_eq_true rfl, Nat.le_of_ble_eq_true rfl⟩) rfl hl.1 rfl (Nat.le_of_ble_eq_true rfl) dL_law_572 ⟨by show _ ≤ 600000; omega, by show _ ≤ 7302250; omega⟩ (fun r2 M0 J0 H locs hq hw => ?_)
          obtain ⟨hq, rfl, rfl⟩ := hq
          obtain ⟨hr9, hI⟩ := hq
          refine lv_icmp_eq (tgt := 1049) hx hb dL_law_575 (by decide) (fun _ => ?_) (fun hc => absurd hr9 hc)
          exact jn _ _ ad kd RS _ _ _ _ hI k7 k8 (by omega) (by omega) hw hl
        · refine lv_tableIn (off := 547) (tgt := 580) hx hb dL_law_33 (by omega) (by omega) (by rw [hs]; rfl) (by decide) ?_
          refine lv_aload_n hx hb dL_law_580 rfl (lv_at hl 1 rfl) ?_
          refine lv_aload_n hx hb dL_law_581 rfl (lv_at hl 0 rfl) ?_
          refine lv_iload_n hx hb dL_law_582 rfl (lv_at hl 3 rfl) ?_
          refine lv_iconst (v := (1 : Int32)) hx hb dL_law_583 (by decide) ?_
          refine lv_iadd hx hb dL_law_584 ?_
          refine va_sld hx hb hX hbl hbA hw.2.2.2.1 (hin 1 (by omega)) dL_law_585 ?_
          have hq := hst.2.2.2.2.2.2.2.2.2.2.2.2.2.2.1 M J (xs (x3 + (1 : Int32)).toNatClampNeg) hI
          refine z_cvi ⟨hx, hb, hml, hown, hts⟩ hw k7 (kX7_line k7 hq) (by decide) rfl (cwV 1 hts gL_law_X7_line rfl rfl rfl (by decide +kernel) ⟨Nat.le_of_ble_eq_true rfl, Nat.le_of_ble_eq_true rfl⟩) rfl hl.1 rfl (Nat.le_of_ble_eq_true rfl) dL_law_586 ⟨by show _ ≤ 600000; omega, by show _ ≤ 7302250; omega⟩ (fun r1 M0 J0 H locs hq hw => ?_)
          obtain ⟨hq, rfl, rfl⟩ := hq
          refine lv_aload_n hx hb dL_law_589 rfl (lv_at hl 2 rfl) ?_
          refine lv_aload_n hx hb dL_law_590 rfl (lv_at hl 0 rfl) ?_
          refine lv_iload_n hx hb dL_law_591 rfl (lv_at hl 3 rfl) ?_
          refine lv_iconst (v := (1 : Int32)) hx hb dL_law_592 (by decide) ?_
          refine lv_iadd hx hb dL_law_593 ?_
          refine va_sld hx hb hX hbl hbA hw.2.2.2.1 (hin 1 (by omega)) dL_law_594 ?_
          refine z_cvi ⟨hx, hb, hml, hown, hts⟩ hw k8 (kX8_line k8 hq) (by decide) rfl (cwV 1 hts gL_law_X8_line rfl rfl rfl (by decide +kernel) ⟨Nat.le_of_ble_eq_true rfl, Nat.le_of_ble_eq_true rfl⟩) rfl hl.1 rfl (Nat.le_of_ble_eq_true rfl) dL_law_595 ⟨by show _ ≤ 600000; omega, by show _ ≤ 7302250; omega⟩ (fun r2 M0 J0 H locs hq hw => ?_)
          obtain ⟨hq, rfl, rfl⟩ := hq
          obtain ⟨hr9, hI⟩ := hq
          refine lv_icmp_eq (tgt := 1049) hx hb dL_law_598 (by decide) (fun _ => ?_) (fun hc => absurd hr9 hc)
          exact jn _ _ ad kd RS _ _ _ _ hI k7 k8 (by omega) (by omega) hw hl
        · refine lv_tableIn (off := 570) (tgt := 603) hx hb dL_law_33 (by omega) (by omega) (by rw [hs]; rfl) (by decide) ?_
          refine lv_aload_n hx hb dL_law_603 rfl (lv_at hl 1 rfl) ?_
          refine lv_aload_n hx hb dL_law_604 rfl (lv_at hl 0 rfl) ?_
          refine lv_iload_n hx hb dL_law_605 rfl (lv_at hl 3 rfl) ?_
          refine lv_iconst (v := (1 : Int32)) hx hb dL_law_606 (by decide) ?_
          refine lv_iadd hx hb dL_law_607 ?_
          refine va_sld hx hb hX hbl hbA hw.2.2.2.1 (hin 1 (by omega)) dL_law_608 ?_
          have hq := hst.2.2.2.2.2.2.2.2.2.2.2.2.2.2.2.1 M J (xs (x3 + (1 : Int32)).toNatClampNeg) hI
          refine z_cai ⟨hx, hb, hml, hown, hts⟩ hw k7 (kX7_best k7 hq) (by decide) rfl (cwV 1 hts gL_law_X7_best rfl rfl rfl (by decide +kernel) ⟨Nat.le_of_ble_eq_true rfl, Nat.le_of_ble_eq_true rfl⟩) rfl hl.1 rfl (Nat.le_of_ble_eq_true rfl) dL_law_609 ⟨by show cells + 8 ≤ 600000; omega, by show slots + 4189 ≤ 7302250; omega⟩ (fun r1 ad kd RS M1 J0 H locs hq hE hw => ?_)
          obtain ⟨hq, rfl⟩ := hq
          have hA0 := (hE 0 (by rw [k7]; decide)).2
          have hA2 := (hE 200 (by rw [k8]; decide)).2
          have k7 := ((hE 0 (by rw [k7]; decide)).1).trans k7
          have k8 := ((hE 200 (by rw [k8]; decide)).1).trans k8
          rw [← hA0, ← hA2] at hl
          refine lv_aload_n hx hb dL_law_612 rfl (lv_at hl 2 rfl) ?_
          refine lv_aload_n hx hb dL_law_613 rfl (lv_at hl 0 rfl) ?_
          refine lv_iload_n hx hb dL_law_614 rfl (lv_at hl 3 rfl) ?_
          refine lv_iconst (v := (1 : Int32)) hx hb dL_law_615 (by decide) ?_
          refine lv_iadd hx hb dL_law_616 ?_
          refine va_sld hx hb hX hbl hbA hw.2.2.2.1 (hin 1 (by omega)) dL_law_617 ?_
          refine z_cvi ⟨hx, hb, hml, hown, hts⟩ hw k8 (kX8_best k8 hq) (by decide) rfl (cwV 1 hts gL_law_X8_best rfl rfl rfl (by decide +kernel) ⟨Nat.le_of_ble_eq_true rfl, Nat.le_of_ble_eq_true rfl⟩) rfl hl.1 rfl (Nat.le_of_ble_eq_true rfl) dL_law_618 ⟨by show _ ≤ 600000; omega, by show _ ≤ 7302250; omega⟩ (fun r2 M2 J0 H locs hq hw => ?_)
          obtain ⟨hq, rfl⟩ := hq
          obtain ⟨hr9, hI⟩ := hq
          refine lv_icmp_eq (tgt := 1049) hx hb dL_law_621 (by decide) (fun _ => ?_) (fun hc => absurd hr9 hc)
          exact jn _ _ ad kd RS _ _ _ _ hI k7 k8 (by omega) (by omega) hw hl
        · refine lv_tableIn (off := 593) (tgt := 626) hx hb dL_law_33 (by omega) (by omega) (by rw [hs]; rfl) (by decide) ?_
          refine lv_aload_n hx hb dL_law_626 rfl (lv_at hl 1 rfl) ?_
          refine lv_aload_n hx hb dL_law_627 rfl (lv_at hl 0 rfl) ?_
          refine lv_iload_n hx hb dL_law_628 rfl (lv_at hl 3 rfl) ?_
          refine lv_iconst (v := (1 : Int32)) hx hb dL_law_629 (by decide) ?_
          refine lv_iadd hx hb dL_law_630 ?_
          refine va_sld hx hb hX hbl hbA hw.2.2.2.1 (hin 1 (by omega)) dL_law_631 ?_
          have hq := hst.2.2.2.2.2.2.2.2.2.2.2.2.2.2.2.2.1 M J (xs (x3 + (1 : Int32)).toNatClampNeg) hI
          refine z_cvi ⟨hx, hb, hml, hown, hts⟩ hw k7 (kX7_wrong k7 hq) (by decide) rfl (cwV 1 hts gL_law_X7_wrong rfl rfl rfl (by decide +kernel) ⟨Nat.le_of_ble_eq_true rfl, Nat.le_of_ble_eq_true rfl⟩) rfl hl.1 rfl (Nat.le_of_ble_eq_true rfl) dL_law_632 ⟨by show _ ≤ 600000; omega, by show _ ≤ 7302250; omega⟩ (fun r1 M1 J0 H locs hq hw => ?_)
          obtain ⟨hq, rfl⟩ := hq
          refine lv_aload_n hx hb dL_law_635 rfl (lv_at hl 2 rfl) ?_
          refine lv_aload_n hx hb dL_law_636 rfl (lv_at hl 0 rfl) ?_
          refine lv_iload_n hx hb dL_law_637 rfl (lv_at hl 3 rfl) ?_
          refine lv_iconst (v := (1 : Int32)) hx hb dL_law_638 (by decide) ?_
          refine lv_iadd hx hb dL_law_639 ?_
          refine va_sld hx hb hX hbl hbA hw.2.2.2.1 (hin 1 (by omega)) dL_law_640 ?_
          refine z_cvi ⟨hx, hb, hml, hown, hts⟩ hw k8 (kX8_wrong k8 hq) (by decide) rfl (cwV 1 hts gL_law_X8_wrong rfl rfl rfl (by decide +kernel) ⟨Nat.le_of_ble_eq_true rfl, Nat.le_of_ble_eq_true rfl⟩) rfl hl.1 rfl (Nat.le_of_ble_eq_true rfl) dL_law_641 ⟨by show _ ≤ 600000; omega, by show _ ≤ 7302250; omega⟩ (fun r2 M2 J0 H locs hq hw => ?_)
          obtain ⟨hq, rfl⟩ := hq
          obtain ⟨hr9, hI⟩ := hq
          refine lv_icmp_eq (tgt := 1049) hx hb dL_law_644 (by decide) (fun _ => ?_) (fun hc => absurd hr9 hc)
          exact jn _ _ ad kd RS _ _ _ _ hI k7 k8 (by omega) (by omega) hw hl
        · refine lv_tableIn (off := 616) (tgt := 649) hx hb dL_law_33 (by omega) (by omega) (by rw [hs]; rfl) (by decide) ?_
          refine lv_aload_n hx hb dL_law_649 rfl (lv_at hl 1 rfl) ?_
          refine lv_aload_n hx hb dL_law_650 rfl (lv_at hl 0 rfl) ?_
          refine lv_iload_n hx hb dL_law_651 rfl (lv_at hl 3 rfl) ?_
          refine lv_iconst (v := (1 : Int32)) hx hb dL_law_652 (by decide) ?_
          refine lv_iadd hx hb dL_law_653 ?_
          refine va_sld hx hb hX hbl hbA hw.2.2.2.1 (hin 1 (by omega)) dL_law_654 ?_
          have hq := hst.2.2.2.2.2.2.2.2.2.2.2.2.2.2.2.2.2.1 M J (xs (x3 + (1 : Int32)).toNatClampNeg) hI
          refine z_cvi ⟨hx, hb, hml, hown, hts⟩ hw k7 (kX7_moment k7 hq) (by decide) rfl (cwV 1 hts gL_law_X7_moment rfl rfl rfl (by decide +kernel) ⟨Nat.le_of_ble_eq_true rfl, Nat.le_of_ble_eq_true rfl⟩) rfl hl.1 rfl (Nat.le_of_ble_eq_true rfl) dL_law_655 ⟨by show _ ≤ 600000; omega, by show _ ≤ 7302250; omega⟩ (fun r1 M1 J0 H locs hq hw => ?_)
          obtain ⟨hq, rfl⟩ := hq
          refine lv_aload_n hx hb dL_law_658 rfl (lv_at hl 2 rfl) ?_
          refine lv_aload_n hx hb dL_law_659 rfl (lv_at hl 0 rfl) ?_
          refine lv_iload_n hx hb dL_law_660 rfl (lv_at hl 3 rfl) ?_
          refine lv_iconst (v := (1 : Int32)) hx hb dL_law_661 (by decide) ?_
          refine lv_iadd hx hb dL_law_662 ?_
          refine va_sld hx hb hX hbl hbA hw.2.2.2.1 (hin 1 (by omega)) dL_law_663 ?_
          refine z_cvi ⟨hx, hb, hml, hown, hts⟩ hw k8 (kX8_moment k8 hq) (by decide) rfl (cwV 1 hts gL_law_X8_moment rfl rfl rfl (by decide +kernel) ⟨Nat.le_of_ble_eq_true rfl, Nat.le_of_ble_eq_true rfl⟩) rfl hl.1 rfl (Nat.le_of_ble_eq_true rfl) dL_law_664 ⟨by show _ ≤ 600000; omega, by show _ ≤ 7302250; omega⟩ (fun r2 M2 J0 H locs hq hw => ?_)
          obtain ⟨hq, rfl⟩ := hq
          obtain ⟨hr9, hI⟩ := hq
          refine lv_icmp_eq (tgt := 1049) hx hb dL_law_667 (by decide) (fun _ => ?_) (fun hc => absurd hr9 hc)
          exact jn _ _ ad kd RS _ _ _ _ hI k7 k8 (by omega) (by omega) hw hl
        · refine lv_tableIn (off := 639) (tgt := 672) hx hb dL_law_33 (by omega) (by omega) (by rw [hs]; rfl) (by decide) ?_
          refine lv_aload_n hx hb dL_law_672 rfl (lv_at hl 1 rfl) ?_
          refine lv_aload_n hx hb dL_law_673 rfl (lv_at hl 0 rfl) ?_
          refine lv_iload_n hx hb dL_law_674 rfl (lv_at hl 3 rfl) ?_
          refine lv_iconst (v := (1 : Int32)) hx hb dL_law_675 (by decide) ?_
          refine lv_iadd hx hb dL_law_676 ?_
          refine va_sld hx hb hX hbl hbA hw.2.2.2.1 (hin 1 (by omega)) dL_law_677 ?_
          refine lv_aload_n hx hb dL_law_678 rfl (lv_at hl 0 rfl) ?_
          refine lv_iload_n hx hb dL_law_679 rfl (lv_at hl 3 rfl) ?_
          refine lv_iconst (v := (2 : Int32)) hx hb dL_law_680 (by decide) ?_
          refine lv_iadd hx hb dL_law_681 ?_
          refine va_sld hx hb hX hbl hbA hw.2.2.2.1 (hin 2 (by omega)) dL_law_682 ?_
          refine lv_aload_n hx hb dL_law_683 rfl (lv_at hl 0 rfl) ?_
          refine lv_iload_n hx hb dL_law_684 rfl (lv_at hl 3 rfl) ?_
          refine lv_iconst (v := (3 : Int32)) hx hb dL_law_685 (by decide) ?_
          refine lv_iadd hx hb dL_law_686 ?_
          refine va_sld hx hb hX hbl hbA hw.2.2.2.1 (hin 3 (by omega)) dL_law_687 ?_
          refine lv_aload_n hx hb dL_law_688 rfl (lv_at hl 0 rfl) ?_
          refine lv_iload_n hx hb dL_law_689 rfl (lv_at hl 3 rfl) ?_
          refine lv_iconst (v := (4 : Int32)) hx hb dL_law_690 (by decide) ?_
          refine lv_iadd hx hb dL_law_691 ?_
          refine va_sld hx hb hX hbl hbA hw.2.2.2.1 (hin 4 (by omega)) dL_law_692 ?_
          have hq := hst.2.2.2.2.2.2.2.2.2.2.2.2.2.2.2.2.2.2.1 M J (xs (x3 + (1 : Int32)).toNatClampNeg) (xs (x3 + (2 : Int32)).toNatClampNeg) (xs (x3 + (3 : Int32)).toNatClampNeg) (xs (x3 + (4 : Int32)).toNatClampNeg) hI
          refine z_cvi ⟨hx, hb, hml, hown, hts⟩ hw k7 (kX7_fits k7 hq) (by decide) rfl (cwV 4 hts gL_law_X7_fits rfl rfl rfl (by decide +kernel) ⟨Nat.le_of_ble_eq_true rfl, Nat.le_of_ble_eq_true rfl⟩) rfl hl.1 rfl (Nat.le_of_ble_eq_true rfl) dL_law_693 ⟨by show _ ≤ 600000; omega, by show _ ≤ 7302250; omega⟩ (fun r1 M1 J0 H locs hq hw => ?_)
          obtain ⟨hq, rfl⟩ := hq
          refine lv_aload_n hx hb dL_law_696 rfl (lv_at hl 2 rfl) ?_
          refine lv_aload_n hx hb dL_law_697 rfl (lv_at hl 0 rfl) ?_
          refine lv_iload_n hx hb dL_law_698 rfl (lv_at hl 3 rfl) ?_
          refine lv_iconst (v := (1 : Int32)) hx hb dL_law_699 (by decide) ?_
          refine lv_iadd hx hb dL_law_700 ?_
          refine va_sld hx hb hX hbl hbA hw.2.2.2.1 (hin 1 (by omega)) dL_law_701 ?_
          refine lv_aload_n hx hb dL_law_702 rfl (lv_at hl 0 rfl) ?_
          refine lv_iload_n hx hb dL_law_703 rfl (lv_at hl 3 rfl) ?_
          refine lv_iconst (v := (2 : Int32)) hx hb dL_law_704 (by decide) ?_
          refine lv_iadd hx hb dL_law_705 ?_
          refine va_sld hx hb hX hbl hbA hw.2.2.2.1 (hin 2 (by omega)) dL_law_706 ?_
          refine lv_aload_n hx hb dL_law_707 rfl (lv_at hl 0 rfl) ?_
          refine lv_iload_n hx hb dL_law_708 rfl (lv_at hl 3 rfl) ?_
          refine lv_iconst (v := (3 : Int32)) hx hb dL_law_709 (by decide) ?_
          refine lv_iadd hx hb dL_law_710 ?_
          refine va_sld hx hb hX hbl hbA hw.2.2.2.1 (hin 3 (by omega)) dL_law_711 ?_
          refine lv_aload_n hx hb dL_law_712 rfl (lv_at hl 0 rfl) ?_
          refine lv_iload_n hx hb dL_law_713 rfl (lv_at hl 3 rfl) ?_
          refine lv_iconst (v := (4 : Int32)) hx hb dL_law_714 (by decide) ?_
          refine lv_iadd hx hb dL_law_715 ?_
          refine va_sld hx hb hX hbl hbA hw.2.2.2.1 (hin 4 (by omega)) dL_law_716 ?_
          refine z_cvi ⟨hx, hb, hml, hown, hts⟩ hw k8 (kX8_fits k8 hq) (by decide) rfl (cwV 4 hts gL_law_X8_fits rfl rfl rfl (by decide +kernel) ⟨Nat.le_of_ble_eq_true rfl, Nat.le_of_ble_eq_true rfl⟩) rfl hl.1 rfl (Nat.le_of_ble_eq_true rfl) dL_law_717 ⟨by show _ ≤ 600000; omega, by show _ ≤ 7302250; omega⟩ (fun r2 M2 J0 H locs hq hw => ?_)
          obtain ⟨hq, rfl⟩ := hq
          obtain ⟨hr9, hI⟩ := hq
          refine lv_icmp_eq (tgt := 1049) hx hb dL_law_720 (by decide) (fun _ => ?_) (fun hc => absurd hr9 hc)
          exact jn _ _ ad kd RS _ _ _ _ hI k7 k8 (by omega) (by omega) hw hl
        · refine lv_tableIn (off := 692) (tgt := 725) hx hb dL_law_33 (by omega) (by omega) (by rw [hs]; rfl) (by decide) ?_
          refine lv_aload_n hx hb dL_law_725 rfl (lv_at hl 1 rfl) ?_
          refine lv_aload_n hx hb dL_law_726 rfl (lv_at hl 0 rfl) ?_
          refine lv_iload_n hx hb dL_law_727 rfl (lv_at hl 3 rfl) ?_
          refine lv_iconst (v := (1 : Int32)) hx hb dL_law_728 (by decide) ?_
          refine lv_iadd hx hb dL_law_729 ?_
          refine va_sld hx hb hX hbl hbA hw.2.2.2.1 (hin 1 (by omega)) dL_law_730 ?_
          refine lv_aload_n hx hb dL_law_731 rfl (lv_at hl 0 rfl) ?_
          refine lv_iload_n hx hb dL_law_732 rfl (lv_at hl 3 rfl) ?_
          refine lv_iconst (v := (2 : Int32)) hx hb dL_law_733 (by decide) ?_
          refine lv_iadd hx hb dL_law_734 ?_
          refine va_sld hx hb hX hbl hbA hw.2.2.2.1 (hin 2 (by omega)) dL_law_735 ?_
          refine lv_aload_n hx hb dL_law_736 rfl (lv_at hl 0 rfl) ?_
          refine lv_iload_n hx hb dL_law_737 rfl (lv_at hl 3 rfl) ?_
          refine lv_iconst (v := (3 : Int32)) hx hb dL_law_738 (by decide) ?_
          refine lv_iadd hx hb dL_law_739 ?_
          refine va_sld hx hb hX hbl hbA hw.2.2.2.1 (hin 3 (by omega)) dL_law_740 ?_
          have hq := hst.2.2.2.2.2.2.2.2.2.2.2.2.2.2.2.2.2.2.2.1 M J (xs (x3 + (1 : Int32)).toNatClampNeg) (xs (x3 + (2 : Int32)).toNatClampNeg) (xs (x3 + (3 : Int32)).toNatClampNeg) hI
          refine z_cvi ⟨hx, hb, hml, hown, hts⟩ hw k7 (kX7_tell k7 hq) (by decide) rfl (cwV 3 hts gL_law_X7_tell rfl rfl rfl (by decide +kernel) ⟨Nat.le_of_ble_eq_true rfl, Nat.le_of_ble_eq_true rfl⟩) rfl hl.1 rfl (Nat.le_of_ble_eq_true rfl) dL_law_741 ⟨by show _ ≤ 600000; omega, by show _ ≤ 7302250; omega⟩ (fun r1 M1 J0 H locs hq hw => ?_)
          obtain ⟨hq, rfl⟩ := hq
          refine lv_aload_n hx hb dL_law_744 rfl (lv_at hl 2 rfl) ?_
          refine lv_aload_n hx hb dL_law_745 rfl (lv_at hl 0 rfl) ?_
          refine lv_iload_n hx hb dL_law_746 rfl (lv_at hl 3 rfl) ?_
          refine lv_iconst (v := (1 : Int32)) hx hb dL_law_747 (by decide) ?_
          refine lv_iadd hx hb dL_law_748 ?_
          refine va_sld hx hb hX hbl hbA hw.2.2.2.1 (hin 1 (by omega)) dL_law_749 ?_
          refine lv_aload_n hx hb dL_law_750 rfl (lv_at hl 0 rfl) ?_
          refine lv_iload_n hx hb dL_law_751 rfl (lv_at hl 3 rfl) ?_
          refine lv_iconst (v := (2 : Int32)) hx hb dL_law_752 (by decide) ?_
          refine lv_iadd hx hb dL_law_753 ?_
          refine va_sld hx hb hX hbl hbA hw.2.2.2.1 (hin 2 (by omega)) dL_law_754 ?_
          refine lv_aload_n hx hb dL_law_755 rfl (lv_at hl 0 rfl) ?_
          refine lv_iload_n hx hb dL_law_756 rfl (lv_at hl 3 rfl) ?_
          refine lv_iconst (v := (3 : Int32)) hx hb dL_law_757 (by decide) ?_
          refine lv_iadd hx hb dL_law_758 ?_
          refine va_sld hx hb hX hbl hbA hw.2.2.2.1 (hin 3 (by omega)) dL_law_759 ?_
          refine z_cvi ⟨hx, hb, hml, hown, hts⟩ hw k8 (kX8_tell k8 hq) (by decide) rfl (cwV 3 hts gL_law_X8_tell rfl rfl rfl (by decide +kernel) ⟨Nat.le_of_ble_eq_true rfl, Nat.le_of_ble_eq_true rfl⟩) rfl hl.1 rfl (Nat.le_of_ble_eq_true rfl) dL_law_760 ⟨by show _ ≤ 600000; omega, by show _ ≤ 7302250; omega⟩ (fun r2 M2 J0 H locs hq hw => ?_)
          obtain ⟨hq, rfl⟩ := hq
          obtain ⟨hr9, hI⟩ := hq
          refine lv_icmp_eq (tgt := 1049) hx hb dL_law_763 (by decide) (fun _ => ?_) (fun hc => absurd hr9 hc)
          exact jn _ _ ad kd RS _ _ _ _ hI k7 k8 (by omega) (by omega) hw hl
        · refine lv_tableIn (off := 735) (tgt := 768) hx hb dL_law_33 (by omega) (by omega) (by rw [hs]; rfl) (by decide) ?_
          refine lv_aload_n hx hb dL_law_768 rfl (lv_at hl 1 rfl) ?_
          refine lv_aload_n hx hb dL_law_769 rfl (lv_at hl 0 rfl) ?_
          refine lv_iload_n hx hb dL_law_770 rfl (lv_at hl 3 rfl) ?_
          refine lv_iconst (v := (1 : Int32)) hx hb dL_law_771 (by decide) ?_
          refine lv_iadd hx hb dL_law_772 ?_
          refine va_sld hx hb hX hbl hbA hw.2.2.2.1 (hin 1 (by omega)) dL_law_773 ?_
          refine lv_aload_n hx hb dL_law_774 rfl (lv_at hl 0 rfl) ?_
          refine lv_iload_n hx hb dL_law_775 rfl (lv_at hl 3 rfl) ?_
          refine lv_iconst (v := (2 : Int32)) hx hb dL_law_776 (by decide) ?_
          refine lv_iadd hx hb dL_law_777 ?_
          refine va_sld hx hb hX hbl hbA hw.2.2.2.1 (hin 2 (by omega)) dL_law_778 ?_
          refine lv_aload_n hx hb dL_law_779 rfl (lv_at hl 0 rfl) ?_
          refine lv_iload_n hx hb dL_law_780 rfl (lv_at hl 3 rfl) ?_
          refine lv_iconst (v := (3 : Int32)) hx hb dL_law_781 (by decide) ?_
          refine lv_iadd hx hb dL_law_782 ?_
          refine va_sld hx hb hX hbl hbA hw.2.2.2.1 (hin 3 (by omega)) dL_law_783 ?_
          have hq := hst.2.2.2.2.2.2.2.2.2.2.2.2.2.2.2.2.2.2.2.2.1 M J (xs (x3 + (1 : Int32)).toNatClampNeg) (xs (x3 + (2 : Int32)).toNatClampNeg) (xs (x3 + (3 : Int32)).toNatClampNeg) hI
          refine z_cvl ⟨hx, hb, hml, hown, hts⟩ hw k7 (kX7_chance k7 hq) (by decide) rfl (cwV 3 hts gL_law_X7_chance rfl rfl rfl (by decide +kernel) ⟨Nat.le_of_ble_eq_true rfl, Nat.le_of_ble_eq_true rfl⟩) rfl hl.1 rfl (Nat.le_of_ble_eq_true rfl) dL_law_784 ⟨by show _ ≤ 600000; omega, by show _ ≤ 7302250; omega⟩ (fun r1 M1 J1 H locs hq hw => ?_)
          refine lv_aload_n hx hb dL_law_787 rfl (lv_at hl 2 rfl) ?_
          refine lv_aload_n hx hb dL_law_788 rfl (lv_at hl 0 rfl) ?_
          refine lv_iload_n hx hb dL_law_789 rfl (lv_at hl 3 rfl) ?_
          refine lv_iconst (v := (1 : Int32)) hx hb dL_law_790 (by decide) ?_
          refine lv_iadd hx hb dL_law_791 ?_
          refine va_sld hx hb hX hbl hbA hw.2.2.2.1 (hin 1 (by omega)) dL_law_792 ?_
          refine lv_aload_n hx hb dL_law_793 rfl (lv_at hl 0 rfl) ?_
          refine lv_iload_n hx hb dL_law_794 rfl (lv_at hl 3 rfl) ?_
          refine lv_iconst (v := (2 : Int32)) hx hb dL_law_795 (by decide) ?_
          refine lv_iadd hx hb dL_law_796 ?_
          refine va_sld hx hb hX hbl hbA hw.2.2.2.1 (hin 2 (by omega)) dL_law_797 ?_
          refine lv_aload_n hx hb dL_law_798 rfl (lv_at hl 0 rfl) ?_
          refine lv_iload_n hx hb dL_law_799 rfl (lv_at hl 3 rfl) ?_
          refine lv_iconst (v := (3 : Int32)) hx hb dL_law_800 (by decide) ?_
          refine lv_iadd hx hb dL_law_801 ?_
          refine va_sld hx hb hX hbl hbA hw.2.2.2.1 (hin 3 (by omega)) dL_law_802 ?_
          refine z_cvl ⟨hx, hb, hml, hown, hts⟩ hw k8 (kX8_chance k8 hq) (by decide) rfl (cwV 3 hts gL_law_X8_chance rfl rfl rfl (by decide +kernel) ⟨Nat.le_of_ble_eq_true rfl, Nat.le_of_ble_eq_true rfl⟩) rfl hl.1 rfl (Nat.le_of_ble_eq_true rfl) dL_law_803 ⟨by show _ ≤ 600000; omega, by show _ ≤ 7302250; omega⟩ (fun r2 M2 J0 H locs hq hw => ?_)
          obtain ⟨hq, rfl⟩ := hq
          refine W.lcmp hx hb dL_law_806 ?_
          obtain ⟨hr9, hI⟩ := hq
          refine lv_if_eq (tgt := 1049) hx hb dL_law_807 (by decide) (fun _ => ?_) (fun hc => absurd (by rw [hr9]; exact zl_cmp _) hc)
          exact jn _ _ ad kd RS _ _ _ _ hI k7 k8 (by omega) (by omega) hw hl
        · refine lv_tableIn (off := 779) (tgt := 812) hx hb dL_law_33 (by omega) (by omega) (by rw [hs]; rfl) (by decide) ?_
          refine lv_aload_n hx hb dL_law_812 rfl (lv_at hl 1 rfl) ?_
          refine lv_aload_n hx hb dL_law_813 rfl (lv_at hl 0 rfl) ?_
          refine lv_iload_n hx hb dL_law_814 rfl (lv_at hl 3 rfl) ?_
          refine lv_iconst (v := (1 : Int32)) hx hb dL_law_815 (by decide) ?_
          refine lv_iadd hx hb dL_law_816 ?_
          refine va_sld hx hb hX hbl hbA hw.2.2.2.1 (hin 1 (by omega)) dL_law_817 ?_
          refine lv_aload_n hx hb dL_law_818 rfl (lv_at hl 0 rfl) ?_
          refine lv_iload_n hx hb dL_law_819 rfl (lv_at hl 3 rfl) ?_
          refine lv_iconst (v := (2 : Int32)) hx hb dL_law_820 (by decide) ?_
          refine lv_iadd hx hb dL_law_821 ?_
          refine va_sld hx hb hX hbl hbA hw.2.2.2.1 (hin 2 (by omega)) dL_law_822 ?_
          refine lv_aload_n hx hb dL_law_823 rfl (lv_at hl 0 rfl) ?_
          refine lv_iload_n hx hb dL_law_824 rfl (lv_at hl 3 rfl) ?_
          refine lv_iconst (v := (3 : Int32)) hx hb dL_law_825 (by decide) ?_
          refine lv_iadd hx hb dL_law_826 ?_
          refine va_sld hx hb hX hbl hbA hw.2.2.2.1 (hin 3 (by omega)) dL_law_827 ?_
          have hq := hst.2.2.2.2.2.2.2.2.2.2.2.2.2.2.2.2.2.2.2.2.2.1 M J (xs (x3 + (1 : Int32)).toNatClampNeg) (xs (x3 + (2 : Int32)).toNatClampNeg) (xs (x3 + (3 : Int32)).toNatClampNeg) hI
          refine z_cvi ⟨hx, hb, hml, hown, hts⟩ hw k7 (kX7_drawn k7 hq) (by decide) rfl (cwV 3 hts gL_law_X7_drawn rfl rfl rfl (by decide +kernel) ⟨Nat.le_of_ble_eq_true rfl, Nat.le_of_ble_eq_true rfl⟩) rfl hl.1 rfl (Nat.le_of_ble_eq_true rfl) dL_law_828 ⟨by show _ ≤ 600000; omega, by show _ ≤ 7302250; omega⟩ (fun r1 M1 J0 H locs hq hw => ?_)
          obtain ⟨hq, rfl⟩ := hq
          refine lv_aload_n hx hb dL_law_831 rfl (lv_at hl 2 rfl) ?_
          refine lv_aload_n hx hb dL_law_832 rfl (lv_at hl 0 rfl) ?_
          refine lv_iload_n hx hb dL_law_833 rfl (lv_at hl 3 rfl) ?_
          refine lv_iconst (v := (1 : Int32)) hx hb dL_law_834 (by decide) ?_
          refine lv_iadd hx hb dL_law_835 ?_
          refine va_sld hx hb hX hbl hbA hw.2.2.2.1 (hin 1 (by omega)) dL_law_836 ?_
          refine lv_aload_n hx hb dL_law_837 rfl (lv_at hl 0 rfl) ?_
          refine lv_iload_n hx hb dL_law_838 rfl (lv_at hl 3 rfl) ?_
          refine lv_iconst (v := (2 : Int32)) hx hb dL_law_839 (by decide) ?_
          refine lv_iadd hx hb dL_law_840 ?_
          refine va_sld hx hb hX hbl hbA hw.2.2.2.1 (hin 2 (by omega)) dL_law_841 ?_
          refine lv_aload_n hx hb dL_law_842 rfl (lv_at hl 0 rfl) ?_
          refine lv_iload_n hx hb dL_law_843 rfl (lv_at hl 3 rfl) ?_
          refine lv_iconst (v := (3 : Int32)) hx hb dL_law_844 (by decide) ?_
          refine lv_iadd hx hb dL_law_845 ?_
          refine va_sld hx hb hX hbl hbA hw.2.2.2.1 (hin 3 (by omega)) dL_law_846 ?_
          refine z_cvi ⟨hx, hb, hml, hown, hts⟩ hw k8 (kX8_drawn k8 hq) (by decide) rfl (cwV 3 hts gL_law_X8_drawn rfl rfl rfl (by decide +kernel) ⟨Nat.le_of_ble_eq_true rfl, Nat.le_of_ble_eq_true rfl⟩) rfl hl.1 rfl (Nat.le_of_ble_eq_true rfl) dL_law_847 ⟨by show _ ≤ 600000; omega, by show _ ≤ 7302250; omega⟩ (fun r2 M2 J0 H locs hq hw => ?_)
          obtain ⟨hq, rfl⟩ := hq
          obtain ⟨hr9, hI⟩ := hq
          refine lv_icmp_eq (tgt := 1049) hx hb dL_law_850 (by decide) (fun _ => ?_) (fun hc => absurd hr9 hc)
          exact jn _ _ ad kd RS _ _ _ _ hI k7 k8 (by omega) (by omega) hw hl
        · refine lv_tableIn (off := 822) (tgt := 855) hx hb dL_law_33 (by omega) (by omega) (by rw [hs]; rfl) (by decide) ?_
          refine lv_aload_n hx hb dL_law_855 rfl (lv_at hl 1 rfl) ?_
          refine lv_aload_n hx hb dL_law_856 rfl (lv_at hl 0 rfl) ?_
          refine lv_iload_n hx hb dL_law_857 rfl (lv_at hl 3 rfl) ?_
          refine lv_iconst (v := (1 : Int32)) hx hb dL_law_858 (by decide) ?_
          refine lv_iadd hx hb dL_law_859 ?_
          refine va_sld hx hb hX hbl hbA hw.2.2.2.1 (hin 1 (by omega)) dL_law_860 ?_
          have hq := hst.2.2.2.2.2.2.2.2.2.2.2.2.2.2.2.2.2.2.2.2.2.2.1 M J (xs (x3 + (1 : Int32)).toNatClampNeg) hI
          refine z_cvi ⟨hx, hb, hml, hown, hts⟩ hw k7 (kX7_image k7 hq) (by decide) rfl (cwV 1 hts gL_law_X7_image rfl rfl rfl (by decide +kernel) ⟨Nat.le_of_ble_eq_true rfl, Nat.le_of_ble_eq_true rfl⟩) rfl hl.1 rfl (Nat.le_of_ble_eq_true rfl) dL_law_861 ⟨by show _ ≤ 600000; omega, by show _ ≤ 7302250; omega⟩ (fun r1 M1 J0 H locs hq hw => ?_)
          obtain ⟨hq, rfl⟩ := hq
          refine lv_aload_n hx hb dL_law_864 rfl (lv_at hl 2 rfl) ?_
          refine lv_aload_n hx hb dL_law_865 rfl (lv_at hl 0 rfl) ?_
          refine lv_iload_n hx hb dL_law_866 rfl (lv_at hl 3 rfl) ?_
          refine lv_iconst (v := (1 : Int32)) hx hb dL_law_867 (by decide) ?_
          refine lv_iadd hx hb dL_law_868 ?_
          refine va_sld hx hb hX hbl hbA hw.2.2.2.1 (hin 1 (by omega)) dL_law_869 ?_
          refine z_cvi ⟨hx, hb, hml, hown, hts⟩ hw k8 (kX8_image k8 hq) (by decide) rfl (cwV 1 hts gL_law_X8_image rfl rfl rfl (by decide +kernel) ⟨Nat.le_of_ble_eq_true rfl, Nat.le_of_ble_eq_true rfl⟩) rfl hl.1 rfl (Nat.le_of_ble_eq_true rfl) dL_law_870 ⟨by show _ ≤ 600000; omega, by show _ ≤ 7302250; omega⟩ (fun r2 M2 J0 H locs hq hw => ?_)
          obtain ⟨hq, rfl⟩ := hq
          obtain ⟨hr9, hI⟩ := hq
          refine lv_icmp_eq (tgt := 1049) hx hb dL_law_873 (by decide) (fun _ => ?_) (fun hc => absurd hr9 hc)
          exact jn _ _ ad kd RS _ _ _ _ hI k7 k8 (by omega) (by omega) hw hl
        · refine lv_tableIn (off := 845) (tgt := 878) hx hb dL_law_33 (by omega) (by omega) (by rw [hs]; rfl) (by decide) ?_
          refine lv_aload_n hx hb dL_law_878 rfl (lv_at hl 1 rfl) ?_
          refine lv_aload_n hx hb dL_law_879 rfl (lv_at hl 0 rfl) ?_
          refine lv_iload_n hx hb dL_law_880 rfl (lv_at hl 3 rfl) ?_
          refine lv_iconst (v := (1 : Int32)) hx hb dL_law_881 (by decide) ?_
          refine lv_iadd hx hb dL_law_882 ?_
          refine va_sld hx hb hX hbl hbA hw.2.2.2.1 (hin 1 (by omega)) dL_law_883 ?_
          have hq := hst.2.2.2.2.2.2.2.2.2.2.2.2.2.2.2.2.2.2.2.2.2.2.2.1 M J (xs (x3 + (1 : Int32)).toNatClampNeg) hI
          refine z_cvi ⟨hx, hb, hml, hown, hts⟩ hw k7 (kX7_restore k7 hq) (by decide) rfl (cwV 1 hts gL_law_X7_restore rfl rfl rfl (by decide +kernel) ⟨Nat.le_of_ble_eq_true rfl, Nat.le_of_ble_eq_true rfl⟩) rfl hl.1 rfl (Nat.le_of_ble_eq_true rfl) dL_law_884 ⟨by show _ ≤ 600000; omega, by show _ ≤ 7302250; omega⟩ (fun r1 M1 J0 H locs hq hw => ?_)
          obtain ⟨hq, rfl⟩ := hq
          refine lv_aload_n hx hb dL_law_887 rfl (lv_at hl 2 rfl) ?_
          refine lv_aload_n hx hb dL_law_888 rfl (lv_at hl 0 rfl) ?_
          refine lv_iload_n hx hb dL_law_889 rfl (lv_at hl 3 rfl) ?_
          refine lv_iconst (v := (1 : Int32)) hx hb dL_law_890 (by decide) ?_
          refine lv_iadd hx hb dL_law_891 ?_
          refine va_sld hx hb hX hbl hbA hw.2.2.2.1 (hin 1 (by omega)) dL_law_892 ?_
          refine z_cvi ⟨hx, hb, hml, hown, hts⟩ hw k8 (kX8_restore k8 hq) (by decide) rfl (cwV 1 hts gL_law_X8_restore rfl rfl rfl (by decide +kernel) ⟨Nat.le_of_ble_eq_true rfl, Nat.le_of_ble_eq_true rfl⟩) rfl hl.1 rfl (Nat.le_of_ble_eq_true rfl) dL_law_893 ⟨by show _ ≤ 600000; omega, by show _ ≤ 7302250; omega⟩ (fun r2 M2 J0 H locs hq hw => ?_)
          obtain ⟨hq, rfl⟩ := hq
          obtain ⟨hr9, hI⟩ := hq
          refine lv_icmp_eq (tgt := 1049) hx hb dL_law_896 (by decide) (fun _ => ?_) (fun hc => absurd hr9 hc)
          exact jn _ _ ad kd RS _ _ _ _ hI k7 k8 (by omega) (by omega) hw hl
        · refine lv_tableIn (off := 868) (tgt := 901) hx hb dL_law_33 (by omega) (by omega) (by rw [hs]; rfl) (by decide) ?_
          refine lv_aload_n hx hb dL_law_901 rfl (lv_at hl 1 rfl) ?_
          refine lv_aload_n hx hb dL_law_902 rfl (lv_at hl 0 rfl) ?_
          refine lv_iload_n hx hb dL_law_903 rfl (lv_at hl 3 rfl) ?_
          refine lv_iconst (v := (1 : Int32)) hx hb dL_law_904 (by decide) ?_
          refine lv_iadd hx hb dL_law_905 ?_
          refine va_sld hx hb hX hbl hbA hw.2.2.2.1 (hin 1 (by omega)) dL_law_906 ?_
          have hq := hst.2.2.2.2.2.2.2.2.2.2.2.2.2.2.2.2.2.2.2.2.2.2.2.2.1 M J (xs (x3 + (1 : Int32)).toNatClampNeg) hI
          refine z_cvi ⟨hx, hb, hml, hown, hts⟩ hw k7 (kX7_kind k7 hq) (by decide) rfl (cwV 1 hts gL_law_X7_kind rfl rfl rfl (by decide +kernel) ⟨Nat.le_of_ble_eq_true rfl, Nat.le_of_ble_eq_true rfl⟩) rfl hl.1 rfl (Nat.le_of_ble_eq_true rfl) dL_law_907 ⟨by show _ ≤ 600000; omega, by show _ ≤ 7302250; omega⟩ (fun r1 M0 J0 H locs hq hw => ?_)
          obtain ⟨hq, rfl, rfl⟩ := hq
          refine lv_aload_n hx hb dL_law_910 rfl (lv_at hl 2 rfl) ?_
          refine lv_aload_n hx hb dL_law_911 rfl (lv_at hl 0 rfl) ?_
          refine lv_iload_n hx hb dL_law_912 rfl (lv_at hl 3 rfl) ?_
          refine lv_iconst (v := (1 : Int32)) hx hb dL_law_913 (by decide) ?_
          refine lv_iadd hx hb dL_law_914 ?_
          refine va_sld hx hb hX hbl hbA hw.2.2.2.1 (hin 1 (by omega)) dL_law_915 ?_
          refine z_cvi ⟨hx, hb, hml, hown, hts⟩ hw k8 (kX8_kind k8 hq) (by decide) rfl (cwV 1 hts gL_law_X8_kind rfl rfl rfl (by decide +kernel) ⟨Nat.le_of_ble_eq_true rfl, Nat.le_of_ble_eq_true rfl⟩) rfl hl.1 rfl (Nat.le_of_ble_eq_true rfl) dL_law_916 ⟨by show _ ≤ 600000; omega, by show _ ≤ 7302250; omega⟩ (fun r2 M0 J0 H locs hq hw => ?_)
          obtain ⟨hq, rfl, rfl⟩ := hq
          obtain ⟨hr9, hI⟩ := hq
          refine lv_icmp_eq (tgt := 1049) hx hb dL_law_919 (by decide) (fun _ => ?_) (fun hc => absurd hr9 hc)
          exact jn _ _ ad kd RS _ _ _ _ hI k7 k8 (by omega) (by omega) hw hl
        · refine lv_tableIn (off := 891) (tgt := 924) hx hb dL_law_33 (by omega) (by omega) (by rw [hs]; rfl) (by decide) ?_
          refine lv_aload_n hx hb dL_law_924 rfl (lv_at hl 1 rfl) ?_
          refine lv_aload_n hx hb dL_law_925 rfl (lv_at hl 0 rfl) ?_
          refine lv_iload_n hx hb dL_law_926 rfl (lv_at hl 3 rfl) ?_
          refine lv_iconst (v := (1 : Int32)) hx hb dL_law_927 (by decide) ?_
          refine lv_iadd hx hb dL_law_928 ?_
          refine va_sld hx hb hX hbl hbA hw.2.2.2.1 (hin 1 (by omega)) dL_law_929 ?_
          refine lv_aload_n hx hb dL_law_930 rfl (lv_at hl 0 rfl) ?_
          refine lv_iload_n hx hb dL_law_931 rfl (lv_at hl 3 rfl) ?_
          refine lv_iconst (v := (2 : Int32)) hx hb dL_law_932 (by decide) ?_
          refine lv_iadd hx hb dL_law_933 ?_
          refine va_sld hx hb hX hbl hbA hw.2.2.2.1 (hin 2 (by omega)) dL_law_934 ?_
          have hq := hst.2.2.2.2.2.2.2.2.2.2.2.2.2.2.2.2.2.2.2.2.2.2.2.2.2.1 M J (xs (x3 + (1 : Int32)).toNatClampNeg) (xs (x3 + (2 : Int32)).toNatClampNeg) hI
          refine z_cvi ⟨hx, hb, hml, hown, hts⟩ hw k7 (kX7_as k7 hq) (by decide) rfl (cwV 2 hts gL_law_X7_as rfl rfl rfl (by decide +kernel) ⟨Nat.le_of_ble_eq_true rfl, Nat.le_of_ble_eq_true rfl⟩) rfl hl.1 rfl (Nat.le_of_ble_eq_true rfl) dL_law_935 ⟨by show _ ≤ 600000; omega, by show _ ≤ 7302250; omega⟩ (fun r1 M1 J0 H locs hq hw => ?_)
          obtain ⟨hq, rfl⟩ := hq
          refine lv_aload_n hx hb dL_law_938 rfl (lv_at hl 2 rfl) ?_
          refine lv_aload_n hx hb dL_law_939 rfl (lv_at hl 0 rfl) ?_
          refine lv_iload_n hx hb dL_law_940 rfl (lv_at hl 3 rfl) ?_
          refine lv_iconst (v := (1 : Int32)) hx hb dL_law_941 (by decide) ?_
          refine lv_iadd hx hb dL_law_942 ?_
          refine va_sld hx hb hX hbl hbA hw.2.2.2.1 (hin 1 (by omega)) dL_law_943 ?_
          refine lv_aload_n hx hb dL_law_944 rfl (lv_at hl 0 rfl) ?_
          refine lv_iload_n hx hb dL_law_945 rfl (lv_at hl 3 rfl) ?_
          refine lv_iconst (v := (2 : Int32)) hx hb dL_law_946 (by decide) ?_
          refine lv_iadd hx hb dL_law_947 ?_
          refine va_sld hx hb hX hbl hbA hw.2.2.2.1 (hin 2 (by omega)) dL_law_948 ?_
          refine z_cvi ⟨hx, hb, hml, hown, hts⟩ hw k8 (kX8_as k8 hq) (by decide) rfl (cwV 2 hts gL_law_X8_as rfl rfl rfl (by decide +kernel) ⟨Nat.le_of_ble_eq_true rfl, Nat.le_of_ble_eq_true rfl⟩) rfl hl.1 rfl (Nat.le_of_ble_eq_true rfl) dL_law_949 ⟨by show _ ≤ 600000; omega, by show _ ≤ 7302250; omega⟩ (fun r2 M2 J0 H locs hq hw => ?_)
          obtain ⟨hq, rfl⟩ := hq
          obtain ⟨hr9, hI⟩ := hq
          refine lv_icmp_eq (tgt := 1049) hx hb dL_law_952 (by decide) (fun _ => ?_) (fun hc => absurd hr9 hc)
          exact jn _ _ ad kd RS _ _ _ _ hI k7 k8 (by omega) (by omega) hw hl
        · refine lv_tableIn (off := 924) (tgt := 957) hx hb dL_law_33 (by omega) (by omega) (by rw [hs]; rfl) (by decide) ?_
          refine lv_aload_n hx hb dL_law_957 rfl (lv_at hl 1 rfl) ?_
          refine lv_aload_n hx hb dL_law_958 rfl (lv_at hl 0 rfl) ?_
          refine lv_iload_n hx hb dL_law_959 rfl (lv_at hl 3 rfl) ?_
          refine lv_iconst (v := (1 : Int32)) hx hb dL_law_960 (by decide) ?_
          refine lv_iadd hx hb dL_law_961 ?_
          refine va_sld hx hb hX hbl hbA hw.2.2.2.1 (hin 1 (by omega)) dL_law_962 ?_
          refine lv_aload_n hx hb dL_law_963 rfl (lv_at hl 0 rfl) ?_
          refine lv_iload_n hx hb dL_law_964 rfl (lv_at hl 3 rfl) ?_
          refine lv_iconst (v := (2 : Int32)) hx hb dL_law_965 (by decide) ?_
          refine lv_iadd hx hb dL_law_966 ?_
          refine va_sld hx hb hX hbl hbA hw.2.2.2.1 (hin 2 (by omega)) dL_law_967 ?_
          have hq := hst.2.2.2.2.2.2.2.2.2.2.2.2.2.2.2.2.2.2.2.2.2.2.2.2.2.2.1 M J (xs (x3 + (1 : Int32)).toNatClampNeg) (xs (x3 + (2 : Int32)).toNatClampNeg) hI
          refine z_cvi ⟨hx, hb, hml, hown, hts⟩ hw k7 (kX7_ask k7 hq) (by decide) rfl (cwV 2 hts gL_law_X7_ask rfl rfl rfl (by decide +kernel) ⟨Nat.le_of_ble_eq_true rfl, Nat.le_of_ble_eq_true rfl⟩) rfl hl.1 rfl (Nat.le_of_ble_eq_true rfl) dL_law_968 ⟨by show _ ≤ 600000; omega, by show _ ≤ 7302250; omega⟩ (fun r1 M1 J0 H locs hq hw => ?_)
          obtain ⟨hq, rfl⟩ := hq
          refine lv_aload_n hx hb dL_law_971 rfl (lv_at hl 2 rfl) ?_
          refine lv_aload_n hx hb dL_law_972 rfl (lv_at hl 0 rfl) ?_
          refine lv_iload_n hx hb dL_law_973 rfl (lv_at hl 3 rfl) ?_
          refine lv_iconst (v := (1 : Int32)) hx hb dL_law_974 (by decide) ?_
          refine lv_iadd hx hb dL_law_975 ?_
          refine va_sld hx hb hX hbl hbA hw.2.2.2.1 (hin 1 (by omega)) dL_law_976 ?_
          refine lv_aload_n hx hb dL_law_977 rfl (lv_at hl 0 rfl) ?_
          refine lv_iload_n hx hb dL_law_978 rfl (lv_at hl 3 rfl) ?_
          refine lv_iconst (v := (2 : Int32)) hx hb dL_law_979 (by decide) ?_
          refine lv_iadd hx hb dL_law_980 ?_
          refine va_sld hx hb hX hbl hbA hw.2.2.2.1 (hin 2 (by omega)) dL_law_981 ?_
          refine z_cvi ⟨hx, hb, hml, hown, hts⟩ hw k8 (kX8_ask k8 hq) (by decide) rfl (cwV 2 hts gL_law_X8_ask rfl rfl rfl (by decide +kernel) ⟨Nat.le_of_ble_eq_true rfl, Nat.le_of_ble_eq_true rfl⟩) rfl hl.1 rfl (Nat.le_of_ble_eq_true rfl) dL_law_982 ⟨by show _ ≤ 600000; omega, by show _ ≤ 7302250; omega⟩ (fun r2 M2 J0 H locs hq hw => ?_)
          obtain ⟨hq, rfl⟩ := hq
          obtain ⟨hr9, hI⟩ := hq
          refine lv_icmp_eq (tgt := 1049) hx hb dL_law_985 (by decide) (fun _ => ?_) (fun hc => absurd hr9 hc)
          exact jn _ _ ad kd RS _ _ _ _ hI k7 k8 (by omega) (by omega) hw hl
        · refine lv_tableIn (off := 957) (tgt := 990) hx hb dL_law_33 (by omega) (by omega) (by rw [hs]; rfl) (by decide) ?_
          refine lv_aload_n hx hb dL_law_990 rfl (lv_at hl 1 rfl) ?_
          refine lv_aload_n hx hb dL_law_991 rfl (lv_at hl 0 rfl) ?_
          refine lv_iload_n hx hb dL_law_992 rfl (lv_at hl 3 rfl) ?_
          refine lv_iconst (v := (1 : Int32)) hx hb dL_law_993 (by decide) ?_
          refine lv_iadd hx hb dL_law_994 ?_
          refine va_sld hx hb hX hbl hbA hw.2.2.2.1 (hin 1 (by omega)) dL_law_995 ?_
          have hq := hst.2.2.2.2.2.2.2.2.2.2.2.2.2.2.2.2.2.2.2.2.2.2.2.2.2.2.2.1 M J (xs (x3 + (1 : Int32)).toNatClampNeg) hI
          refine z_cvi ⟨hx, hb, hml, hown, hts⟩ hw k7 (kX7_trace k7 hq) (by decide) rfl (cwV 1 hts gL_law_X7_trace rfl rfl rfl (by decide +kernel) ⟨Nat.le_of_ble_eq_true rfl, Nat.le_of_ble_eq_true rfl⟩) rfl hl.1 rfl (Nat.le_of_ble_eq_true rfl) dL_law_996 ⟨by show _ ≤ 600000; omega, by show _ ≤ 7302250; omega⟩ (fun r1 M0 J0 H locs hq hw => ?_)
          obtain ⟨hq, rfl, rfl⟩ := hq
          refine lv_aload_n hx hb dL_law_999 rfl (lv_at hl 2 rfl) ?_
          refine lv_aload_n hx hb dL_law_1000 rfl (lv_at hl 0 rfl) ?_
          refine lv_iload_n hx hb dL_law_1001 rfl (lv_at hl 3 rfl) ?_
          refine lv_iconst (v := (1 : Int32)) hx hb dL_law_1002 (by decide) ?_
          refine lv_iadd hx hb dL_law_1003 ?_
          refine va_sld hx hb hX hbl hbA hw.2.2.2.1 (hin 1 (by omega)) dL_law_1004 ?_
          refine z_cvi ⟨hx, hb, hml, hown, hts⟩ hw k8 (kX8_trace k8 hq) (by decide) rfl (cwV 1 hts gL_law_X8_trace rfl rfl rfl (by decide +kernel) ⟨Nat.le_of_ble_eq_true rfl, Nat.le_of_ble_eq_true rfl⟩) rfl hl.1 rfl (Nat.le_of_ble_eq_true rfl) dL_law_1005 ⟨by show _ ≤ 600000; omega, by show _ ≤ 7302250; omega⟩ (fun r2 M0 J0 H locs hq hw => ?_)
          obtain ⟨hq, rfl, rfl⟩ := hq
          obtain ⟨hr9, hI⟩ := hq
          refine lv_icmp_eq (tgt := 1049) hx hb dL_law_1008 (by decide) (fun _ => ?_) (fun hc => absurd hr9 hc)
          exact jn _ _ ad kd RS _ _ _ _ hI k7 k8 (by omega) (by omega) hw hl
        · refine lv_tableIn (off := 980) (tgt := 1013) hx hb dL_law_33 (by omega) (by omega) (by rw [hs]; rfl) (by decide) ?_
          refine lv_aload_n hx hb dL_law_1013 rfl (lv_at hl 1 rfl) ?_
          refine lv_aload_n hx hb dL_law_1014 rfl (lv_at hl 0 rfl) ?_
          refine lv_iload_n hx hb dL_law_1015 rfl (lv_at hl 3 rfl) ?_
          refine lv_iconst (v := (1 : Int32)) hx hb dL_law_1016 (by decide) ?_
          refine lv_iadd hx hb dL_law_1017 ?_
          refine va_sld hx hb hX hbl hbA hw.2.2.2.1 (hin 1 (by omega)) dL_law_1018 ?_
          have hq := hst.2.2.2.2.2.2.2.2.2.2.2.2.2.2.2.2.2.2.2.2.2.2.2.2.2.2.2.2.1 M J (xs (x3 + (1 : Int32)).toNatClampNeg) hI
          refine z_cvi ⟨hx, hb, hml, hown, hts⟩ hw k7 (kX7_count k7 hq) (by decide) rfl (cwV 1 hts gL_law_X7_count rfl rfl rfl (by decide +kernel) ⟨Nat.le_of_ble_eq_true rfl, Nat.le_of_ble_eq_true rfl⟩) rfl hl.1 rfl (Nat.le_of_ble_eq_true rfl) dL_law_1019 ⟨by show _ ≤ 600000; omega, by show _ ≤ 7302250; omega⟩ (fun r1 M0 J0 H locs hq hw => ?_)
          obtain ⟨hq, rfl, rfl⟩ := hq
          refine lv_aload_n hx hb dL_law_1022 rfl (lv_at hl 2 rfl) ?_
          refine lv_aload_n hx hb dL_law_1023 rfl (lv_at hl 0 rfl) ?_
          refine lv_iload_n hx hb dL_law_1024 rfl (lv_at hl 3 rfl) ?_
          refine lv_iconst (v := (1 : Int32)) hx hb dL_law_1025 (by decide) ?_
          refine lv_iadd hx hb dL_law_1026 ?_
          refine va_sld hx hb hX hbl hbA hw.2.2.2.1 (hin 1 (by omega)) dL_law_1027 ?_
          refine z_cvi ⟨hx, hb, hml, hown, hts⟩ hw k8 (kX8_count k8 hq) (by decide) rfl (cwV 1 hts gL_law_X8_count rfl rfl rfl (by decide +kernel) ⟨Nat.le_of_ble_eq_true rfl, Nat.le_of_ble_eq_true rfl⟩) rfl hl.1 rfl (Nat.le_of_ble_eq_true rfl) dL_law_1028 ⟨by show _ ≤ 600000; omega, by show _ ≤ 7302250; omega⟩ (fun r2 M0 J0 H locs hq hw => ?_)
          obtain ⟨hq, rfl, rfl⟩ := hq
          obtain ⟨hr9, hI⟩ := hq
          refine lv_icmp_eq (tgt := 1049) hx hb dL_law_1031 (by decide) (fun _ => ?_) (fun hc => absurd hr9 hc)
          exact jn _ _ ad kd RS _ _ _ _ hI k7 k8 (by omega) (by omega) hw hl
        · refine lv_tableIn (off := 1003) (tgt := 1036) hx hb dL_law_33 (by omega) (by omega) (by rw [hs]; rfl) (by decide) ?_
          refine lv_aload_n hx hb dL_law_1036 rfl (lv_at hl 1 rfl) ?_
          have hq := hst.2.2.2.2.2.2.2.2.2.2.2.2.2.2.2.2.2.2.2.2.2.2.2.2.2.2.2.2.2 M J  hI
          refine z_cvi ⟨hx, hb, hml, hown, hts⟩ hw k7 (kX7_status k7 hq) (by decide) rfl (cwV 0 hts gL_law_X7_status rfl rfl rfl (by decide +kernel) ⟨Nat.le_of_ble_eq_true rfl, Nat.le_of_ble_eq_true rfl⟩) rfl hl.1 rfl (Nat.le_of_ble_eq_true rfl) dL_law_1037 ⟨by show _ ≤ 600000; omega, by show _ ≤ 7302250; omega⟩ (fun r1 M0 J0 H locs hq hw => ?_)
          obtain ⟨hq, rfl, rfl⟩ := hq
          refine lv_aload_n hx hb dL_law_1040 rfl (lv_at hl 2 rfl) ?_
          refine z_cvi ⟨hx, hb, hml, hown, hts⟩ hw k8 (kX8_status k8 hq) (by decide) rfl (cwV 0 hts gL_law_X8_status rfl rfl rfl (by decide +kernel) ⟨Nat.le_of_ble_eq_true rfl, Nat.le_of_ble_eq_true rfl⟩) rfl hl.1 rfl (Nat.le_of_ble_eq_true rfl) dL_law_1041 ⟨by show _ ≤ 600000; omega, by show _ ≤ 7302250; omega⟩ (fun r2 M0 J0 H locs hq hw => ?_)
          obtain ⟨hq, rfl, rfl⟩ := hq
          obtain ⟨hr9, hI⟩ := hq
          refine lv_icmp_eq (tgt := 1049) hx hb dL_law_1044 (by decide) (fun _ => ?_) (fun hc => absurd hr9 hc)
          exact jn _ _ ad kd RS _ _ _ _ hI k7 k8 (by omega) (by omega) hw hl
