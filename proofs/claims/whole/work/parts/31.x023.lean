/-! contracts -/
set_option maxHeartbeats 4000000 in
set_option maxRecDepth 100000 in
theorem kX2_reset (l : Launch) (D : va_G) (cI : ClassId) (ad : Nat → Nat) {X : State → Prop} {aS : Nat → Nat} (hX0 : cX D ad aS X) (b0 : Nat) (pb0 : isM b0) (M : Mem) (res : Mem) (h : fX2_reset b0 M = some res) : mC l yX2_reset wsX2_reset { frames := 0, cells := 0, slots := 0, locals := 0 } D [(cI, .int)] ad 40 X [.ref (ad b0)] (Ec ad cI M) none (Ec ad cI res) := by
  refine m_ofW (cc := cX2_reset) (maxL := 1) (ret := none) (by decide) rfl (Nat.le_of_ble_eq_true rfl) ?_
  intro p e s m args below meth c hx hb hml hr hlocks hts hown hKv hXs ls hl hM
  have hXk := hX0.1
  have Z : mZ p s m args meth c cX2_reset 1 none wsX2_reset RX2 D [(cI, .int)] X := ⟨hx, hb, hml, hr, hlocks, hts, hown, hKv, hXs⟩
  replace hown : s.vm.findClass RX2 = some m.cls := hown
  have hl : lv_has ls 1 [(0, .ref (ad b0))] := hl
  have k0 := hts (Cond.fieldLink RX2 9 "NoonWalker$Memory" "now" "I") (List.mem_of_getElem? (i := 1) rfl)
  have k1 := hts (Cond.fieldLink RX2 15 "NoonWalker$Memory" "seen" "I") (List.mem_of_getElem? (i := 2) rfl)
  have k2 := hts (Cond.fieldLink RX2 28 "NoonWalker$Memory" "full" "Z") (List.mem_of_getElem? (i := 3) rfl)
  unfold fX2_reset at h
  refine lv_aload_n hx hb dX2_reset_0 rfl (lv_at hl 0 rfl) ?_
  refine lv_iconst (v := (0 : Int32)) hx hb dX2_reset_1 (by decide) ?_
  obtain ⟨M1, hM1, h⟩ := Option.bind_eq_some_iff.mp h
  refine m_put hx hb hts hown hKv hM (fun _ h => List.mem_cons_of_mem _ (List.mem_append_right _ (h))) tyX2 tyX2_ok nmX2 (lt_X2 pb0) (at_X2 pb0) rfl 0 (by decide) k0 rfl rfl rfl (Nat.le_of_ble_eq_true rfl) (pt_X2_0 pb0 (Option.some.inj hM1)) dX2_reset_2 (fun H locs hM => ?_)
  refine lv_aload_n hx hb dX2_reset_5 rfl (lv_at hl 0 rfl) ?_
  refine lv_iconst (v := (0 : Int32)) hx hb dX2_reset_6 (by decide) ?_
  obtain ⟨M2, hM2, h⟩ := Option.bind_eq_some_iff.mp h
  refine m_put hx hb hts hown hKv hM (fun _ h => List.mem_cons_of_mem _ (List.mem_append_right _ (h))) tyX2 tyX2_ok nmX2 (lt_X2 pb0) (at_X2 pb0) rfl 1 (by decide) k1 rfl rfl rfl (Nat.le_of_ble_eq_true rfl) (pt_X2_1 pb0 (Option.some.inj hM2)) dX2_reset_7 (fun H locs hM => ?_)
  refine lv_aload_n hx hb dX2_reset_10 rfl (lv_at hl 0 rfl) ?_
  refine lv_iconst (v := (0 : Int32)) hx hb dX2_reset_11 (by decide) ?_
  obtain ⟨M3, hM3, h⟩ := Option.bind_eq_some_iff.mp h
  refine m_put hx hb hts hown hKv hM (fun _ h => List.mem_cons_of_mem _ (List.mem_append_right _ (h))) tyX2 tyX2_ok nmX2 (lt_X2 pb0) (at_X2 pb0) rfl 5 (by decide) k2 rfl (by first | rfl | decide) (by first | rfl | decide) (Nat.le_of_ble_eq_true rfl) (pt_X2_5 pb0 (Option.some.inj hM3)) dX2_reset_12 (fun H locs hM => ?_)
  exact m_vret hx hb hr hlocks hM (congrArg (a₁ := M3) (fun z => Ec ad cI z) (Option.some.inj h)) dX2_reset_15
set_option maxHeartbeats 4000000 in
set_option maxRecDepth 100000 in
theorem kX2_add (l : Launch) (D : va_G) (cI : ClassId) (ad : Nat → Nat) {X : State → Prop} {aS : Nat → Nat} (hX0 : cX D ad aS X) (b0 : Nat) (pb0 : isM b0) (a1 : Int32) (a2 : Int32) (a3 : Int32) (M : Mem) (res : Mem) (h : fX2_add b0 a1 a2 a3 M = some res) : mC l yX2_add wsX2_add { frames := 0, cells := 0, slots := 0, locals := 0 } D [(cI, .int)] ad 40 X [.ref (ad b0), .int a1, .int a2, .int a3] (Ec ad cI M) none (Ec ad cI res) := by
  refine m_ofW (cc := cX2_add) (maxL := 4) (ret := none) (by decide) rfl (Nat.le_of_ble_eq_true rfl) ?_
  intro p e s m args below meth c hx hb hml hr hlocks hts hown hKv hXs ls hl hM
  have hXk := hX0.1
  have Z : mZ p s m args meth c cX2_add 4 none wsX2_add RX2 D [(cI, .int)] X := ⟨hx, hb, hml, hr, hlocks, hts, hown, hKv, hXs⟩
  replace hown : s.vm.findClass RX2 = some m.cls := hown
  have hl : lv_has ls 4 [(0, .ref (ad b0)), (1, .int a1), (2, .int a2), (3, .int a3)] := hl
  have k0 := hts (Cond.fieldLink RX2 15 "NoonWalker$Memory" "seen" "I") (List.mem_of_getElem? (i := 1) rfl)
  have k1 := hts (Cond.fieldLink RX2 18 "NoonWalker$Memory" "towns" "[I") (List.mem_of_getElem? (i := 2) rfl)
  have k2 := hts (Cond.fieldLink RX2 22 "NoonWalker$Memory" "clocks" "[I") (List.mem_of_getElem? (i := 3) rfl)
  have k3 := hts (Cond.fieldLink RX2 25 "NoonWalker$Memory" "hours" "[I") (List.mem_of_getElem? (i := 4) rfl)
  unfold fX2_add at h
  refine lv_aload_n hx hb dX2_add_0 rfl (lv_at hl 0 rfl) ?_
  refine m_get hx hb hts hown hKv hM (fun _ h => List.mem_cons_of_mem _ (List.mem_append_right _ (h))) (lt_X2 pb0) (at_X2 pb0) rfl 1 (by decide) k0 (v := .int (M.1 b0 1)) rfl dX2_add_1 ?_
  refine lv_bipush (v := (8 : Int32)) hx hb dX2_add_4 (by decide) ?_
  refine lv_icmp_lt (tgt := 10) hx hb dX2_add_6 (by decide) (fun c1 => ?_) (fun c1 => ?_)
  · replace h := (if_pos c1).symm.trans h
    refine lv_aload_n hx hb dX2_add_10 rfl (lv_at hl 0 rfl) ?_
    refine m_get hx hb hts hown hKv hM (fun _ h => List.mem_cons_of_mem _ (List.mem_append_right _ (h))) (lt_X2 pb0) (at_X2 pb0) rfl 2 (by decide) k1 (v := .ref (ad (b0 + 1))) rfl dX2_add_11 ?_
    refine lv_aload_n hx hb dX2_add_14 rfl (lv_at hl 0 rfl) ?_
    refine m_get hx hb hts hown hKv hM (fun _ h => List.mem_cons_of_mem _ (List.mem_append_right _ (h))) (lt_X2 pb0) (at_X2 pb0) rfl 1 (by decide) k0 (v := .int (M.1 b0 1)) rfl dX2_add_15 ?_
    refine lv_iload_n hx hb dX2_add_18 rfl (lv_at hl 1 rfl) ?_
    obtain ⟨M2, hM2, h⟩ := Option.bind_eq_some_iff.mp h
    refine m_iast hx hb hKv hM (lt_X2_1 pb0) (at_X2_1 pb0) 0 rfl (sta_some hM2).1 (pa_X2_1 pb0 (sta_some hM2).2) dX2_add_19 (fun H locs hM => ?_)
    refine lv_aload_n hx hb dX2_add_20 rfl (lv_at hl 0 rfl) ?_
    refine m_get hx hb hts hown hKv hM (fun _ h => List.mem_cons_of_mem _ (List.mem_append_right _ (h))) (lt_X2 pb0) (at_X2 pb0) rfl 3 (by decide) k2 (v := .ref (ad (b0 + 2))) rfl dX2_add_21 ?_
    refine lv_aload_n hx hb dX2_add_24 rfl (lv_at hl 0 rfl) ?_
    refine m_get hx hb hts hown hKv hM (fun _ h => List.mem_cons_of_mem _ (List.mem_append_right _ (h))) (lt_X2 pb0) (at_X2 pb0) rfl 1 (by decide) k0 (v := .int (M2.1 b0 1)) rfl dX2_add_25 ?_
    refine lv_iload_n hx hb dX2_add_28 rfl (lv_at hl 2 rfl) ?_
    obtain ⟨M3, hM3, h⟩ := Option.bind_eq_some_iff.mp h
    refine m_iast hx hb hKv hM (lt_X2_2 pb0) (at_X2_2 pb0) 0 rfl (sta_some hM3).1 (pa_X2_2 pb0 (sta_some hM3).2) dX2_add_29 (fun H locs hM => ?_)
    refine lv_aload_n hx hb dX2_add_30 rfl (lv_at hl 0 rfl) ?_
    refine m_get hx hb hts hown hKv hM (fun _ h => List.mem_cons_of_mem _ (List.mem_append_right _ (h))) (lt_X2 pb0) (at_X2 pb0) rfl 4 (by decide) k3 (v := .ref (ad (b0 + 3))) rfl dX2_add_31 ?_
    refine lv_aload_n hx hb dX2_add_34 rfl (lv_at hl 0 rfl) ?_
    refine m_get hx hb hts hown hKv hM (fun _ h => List.mem_cons_of_mem _ (List.mem_append_right _ (h))) (lt_X2 pb0) (at_X2 pb0) rfl 1 (by decide) k0 (v := .int (M3.1 b0 1)) rfl dX2_add_35 ?_
    refine lv_iload_n hx hb dX2_add_38 rfl (lv_at hl 3 rfl) ?_
    obtain ⟨M4, hM4, h⟩ := Option.bind_eq_some_iff.mp h
    refine m_iast hx hb hKv hM (lt_X2_3 pb0) (at_X2_3 pb0) 0 rfl (sta_some hM4).1 (pa_X2_3 pb0 (sta_some hM4).2) dX2_add_39 (fun H locs hM => ?_)
    refine lv_aload_n hx hb dX2_add_40 rfl (lv_at hl 0 rfl) ?_
    refine lv_dup hx hb dX2_add_41 rfl ?_
    refine m_get hx hb hts hown hKv hM (fun _ h => List.mem_cons_of_mem _ (List.mem_append_right _ (h))) (lt_X2 pb0) (at_X2 pb0) rfl 1 (by decide) k0 (v := .int (M4.1 b0 1)) rfl dX2_add_42 ?_
    refine lv_iconst (v := (1 : Int32)) hx hb dX2_add_45 (by decide) ?_
    refine lv_iadd hx hb dX2_add_46 ?_
    obtain ⟨M5, hM5, h⟩ := Option.bind_eq_some_iff.mp h
    refine m_put hx hb hts hown hKv hM (fun _ h => List.mem_cons_of_mem _ (List.mem_append_right _ (h))) tyX2 tyX2_ok nmX2 (lt_X2 pb0) (at_X2 pb0) rfl 1 (by decide) k0 rfl rfl rfl (Nat.le_of_ble_eq_true rfl) (pt_X2_1 pb0 (Option.some.inj hM5)) dX2_add_47 (fun H locs hM => ?_)
    exact m_vret hx hb hr hlocks hM (congrArg (a₁ := M5) (fun z => Ec ad cI z) (Option.some.inj h)) dX2_add_50
  · replace h := (if_neg c1).symm.trans h
    exact m_vret hx hb hr hlocks hM (congrArg (a₁ := M) (fun z => Ec ad cI z) (Option.some.inj h)) dX2_add_9
set_option maxHeartbeats 4000000 in
set_option maxRecDepth 100000 in
theorem wX2_copy_15 {p : Program} {l : Launch} {e : Env} {s : State} {m : MethodId} {args : Array Value} {below : List Frame} {meth : Method} {c : Code} {D : va_G} {cI : ClassId} {ad : Nat → Nat} {X : State → Prop} (Z : mZ p s m args meth c cX2_copy 3 none wsX2_copy RX2 D [(cI, .int)] X) {aS : Nat → Nat} (hX0 : cX D ad aS X) (b0 : Nat) (pb0 : isM b0) (b1 : Nat) (pb1 : isM b1)    {K : Mem → Option Mem} (res : Mem) (hKc : ∀  (M1 : Mem), K  M1 = some res → ∀ (H : Heap) (locs : List Loc) (ls : Array Slot), lv_has ls 3 [] → mH D ad 40 (Ec ad cI M1) s.heap H locs → W p l e { frames := 1, cells := 0, slots := 0, locals := 23 } s m args below meth c H locs 0 0 (MQ below (mQ D ad 40 none (Ec ad cI res)) args s 0 0 (mA ad 40)) (F0 m 51 ls [])) :
    ∀ (n : Nat) (v2 : Int32) (M : Mem), fX2_copy_15 b0 b1 K n v2 M = some res → ∀ (H : Heap) (locs : List Loc) (ls : Array Slot), lv_has ls 3 [(0, .ref (ad b0)), (1, .ref (ad b1)), (2, .int v2)] → mH D ad 40 (Ec ad cI M) s.heap H locs → W p l e { frames := 1, cells := 0, slots := 0, locals := 23 } s m args below meth c H locs 0 0 (MQ below (mQ D ad 40 none (Ec ad cI res)) args s 0 0 (mA ad 40)) (F0 m 15 ls []) := by
  obtain ⟨hx, hb, hml, hr, hlocks, hts, hown, hKv, hXs⟩ := id Z
  have hXk := hX0.1
  have k0 := hts (Cond.fieldLink RX2 15 "NoonWalker$Memory" "seen" "I") (List.mem_of_getElem? (i := 2) rfl)
  have k1 := hts (Cond.fieldLink RX2 18 "NoonWalker$Memory" "towns" "[I") (List.mem_of_getElem? (i := 3) rfl)
  have k2 := hts (Cond.fieldLink RX2 22 "NoonWalker$Memory" "clocks" "[I") (List.mem_of_getElem? (i := 4) rfl)
  have k3 := hts (Cond.fieldLink RX2 25 "NoonWalker$Memory" "hours" "[I") (List.mem_of_getElem? (i := 5) rfl)
  intro n
  induction n with
  | zero => intro _ _ h; exact absurd h (by unfold fX2_copy_15; exact fun h => by cases h)
  | succ n ih =>
    intro v2 M h H locs ls hl hM
    rw [fX2_copy_15] at h
    refine lv_iload_n hx hb dX2_copy_15 rfl (lv_at hl 2 rfl) ?_
    refine lv_aload_n hx hb dX2_copy_16 rfl (lv_at hl 1 rfl) ?_
    refine m_get hx hb hts hown hKv hM (fun _ h => List.mem_cons_of_mem _ (List.mem_append_right _ (h))) (lt_X2 pb1) (at_X2 pb1) rfl 1 (by decide) k0 (v := .int (M.1 b1 1)) rfl dX2_copy_17 ?_
    refine lv_icmp_ge (tgt := 51) hx hb dX2_copy_20 (by decide) (fun c1 => ?_) (fun c1 => ?_)
    · replace h := (if_pos c1).symm.trans h
      exact hKc _ h _ _ _ (lv_sub hl [] rfl) hM
    · replace h := (if_neg c1).symm.trans h
      refine lv_aload_n hx hb dX2_copy_23 rfl (lv_at hl 0 rfl) ?_
      refine lv_aload_n hx hb dX2_copy_24 rfl (lv_at hl 1 rfl) ?_
      refine m_get hx hb hts hown hKv hM (fun _ h => List.mem_cons_of_mem _ (List.mem_append_right _ (h))) (lt_X2 pb1) (at_X2 pb1) rfl 2 (by decide) k1 (v := .ref (ad (b1 + 1))) rfl dX2_copy_25 ?_
      refine lv_iload_n hx hb dX2_copy_28 rfl (lv_at hl 2 rfl) ?_
      obtain ⟨x2, hx2, h⟩ := Option.bind_eq_some_iff.mp h
      refine m_iald hx hb hKv hM (lt_X2_1 pb1) (at_X2_1 pb1) 0 rfl hx2 dX2_copy_29 ?_
      refine lv_aload_n hx hb dX2_copy_30 rfl (lv_at hl 1 rfl) ?_
      refine m_get hx hb hts hown hKv hM (fun _ h => List.mem_cons_of_mem _ (List.mem_append_right _ (h))) (lt_X2 pb1) (at_X2 pb1) rfl 3 (by decide) k2 (v := .ref (ad (b1 + 2))) rfl dX2_copy_31 ?_
      refine lv_iload_n hx hb dX2_copy_34 rfl (lv_at hl 2 rfl) ?_
      obtain ⟨x3, hx3, h⟩ := Option.bind_eq_some_iff.mp h
      refine m_iald hx hb hKv hM (lt_X2_2 pb1) (at_X2_2 pb1) 0 rfl hx3 dX2_copy_35 ?_
      refine lv_aload_n hx hb dX2_copy_36 rfl (lv_at hl 1 rfl) ?_
      refine m_get hx hb hts hown hKv hM (fun _ h => List.mem_cons_of_mem _ (List.mem_append_right _ (h))) (lt_X2 pb1) (at_X2 pb1) rfl 4 (by decide) k3 (v := .ref (ad (b1 + 3))) rfl dX2_copy_37 ?_
      refine lv_iload_n hx hb dX2_copy_40 rfl (lv_at hl 2 rfl) ?_
      obtain ⟨x4, hx4, h⟩ := Option.bind_eq_some_iff.mp h
      refine m_iald hx hb hKv hM (lt_X2_3 pb1) (at_X2_3 pb1) 0 rfl hx4 dX2_copy_41 ?_
      obtain ⟨x5, hx5, h⟩ := Option.bind_eq_some_iff.mp h
      refine m_callV (As := [.int x2, .int x3, .int x4]) (st1 := []) hx hb (hml.trans hl.1.symm) hown hts hKv hXs hXk hM (kX2_add l D cI ad hX0 b0 pb0 x2 x3 x4 M _ hx5) (cwV 3 hts gX2_copy_X2_add rfl rfl rfl (by decide +kernel) ⟨Nat.le_of_ble_eq_true rfl, Nat.le_of_ble_eq_true rfl⟩) (lt_X2 pb0) (at_X2 pb0) rfl rfl rfl rfl (Nat.le_of_ble_eq_true rfl) dX2_copy_42 ⟨Nat.zero_le _, Nat.zero_le _⟩ (fun H locs hM => ?_)
      refine lv_iinc (v := (v2 + 1)) (lv' := [(2, .int (v2 + 1)), (0, .ref (ad b0)), (1, .ref (ad b1))]) hx hb dX2_copy_45 hl (k := 2) rfl rfl (by decide) rfl (fun ls hl => ?_)
      refine lv_goto (tgt := 15) hx hb dX2_copy_48 (by decide) ?_
      exact ih _ _ h _ _ _ (lv_sub hl [1, 2, 0] rfl) hM
set_option maxHeartbeats 4000000 in
set_option maxRecDepth 100000 in
theorem kX2_copy (l : Launch) (D : va_G) (cI : ClassId) (ad : Nat → Nat) {X : State → Prop} {aS : Nat → Nat} (hX0 : cX D ad aS X) (b0 : Nat) (pb0 : isM b0) (b1 : Nat) (pb1 : isM b1) (M : Mem) (res : Mem) (h : fX2_copy b0 b1 M = some res) : mC l yX2_copy wsX2_copy { frames := 1, cells := 0, slots := 0, locals := 23 } D [(cI, .int)] ad 40 X [.ref (ad b0), .ref (ad b1)] (Ec ad cI M) none (Ec ad cI res) := by
  refine m_ofW (cc := cX2_copy) (maxL := 3) (ret := none) (by decide) rfl (Nat.le_of_ble_eq_true rfl) ?_
  intro p e s m args below meth c hx hb hml hr hlocks hts hown hKv hXs ls hl hM
  have hXk := hX0.1
  have Z : mZ p s m args meth c cX2_copy 3 none wsX2_copy RX2 D [(cI, .int)] X := ⟨hx, hb, hml, hr, hlocks, hts, hown, hKv, hXs⟩
  replace hown : s.vm.findClass RX2 = some m.cls := hown
  have hl : lv_has ls 3 [(0, .ref (ad b0)), (1, .ref (ad b1))] := hl
  have k0 := hts (Cond.fieldLink RX2 9 "NoonWalker$Memory" "now" "I") (List.mem_of_getElem? (i := 1) rfl)
  have k1 := hts (Cond.fieldLink RX2 15 "NoonWalker$Memory" "seen" "I") (List.mem_of_getElem? (i := 2) rfl)
  unfold fX2_copy at h
  refine lv_aload_n hx hb dX2_copy_0 rfl (lv_at hl 0 rfl) ?_
  refine lv_aload_n hx hb dX2_copy_1 rfl (lv_at hl 1 rfl) ?_
  refine m_get hx hb hts hown hKv hM (fun _ h => List.mem_cons_of_mem _ (List.mem_append_right _ (h))) (lt_X2 pb1) (at_X2 pb1) rfl 0 (by decide) k0 (v := .int (M.1 b1 0)) rfl dX2_copy_2 ?_
  obtain ⟨M1, hM1, h⟩ := Option.bind_eq_some_iff.mp h
  refine m_put hx hb hts hown hKv hM (fun _ h => List.mem_cons_of_mem _ (List.mem_append_right _ (h))) tyX2 tyX2_ok nmX2 (lt_X2 pb0) (at_X2 pb0) rfl 0 (by decide) k0 rfl rfl rfl (Nat.le_of_ble_eq_true rfl) (pt_X2_0 pb0 (Option.some.inj hM1)) dX2_copy_5 (fun H locs hM => ?_)
  refine lv_aload_n hx hb dX2_copy_8 rfl (lv_at hl 0 rfl) ?_
  refine lv_iconst (v := (0 : Int32)) hx hb dX2_copy_9 (by decide) ?_
  obtain ⟨M2, hM2, h⟩ := Option.bind_eq_some_iff.mp h
  refine m_put hx hb hts hown hKv hM (fun _ h => List.mem_cons_of_mem _ (List.mem_append_right _ (h))) tyX2 tyX2_ok nmX2 (lt_X2 pb0) (at_X2 pb0) rfl 1 (by decide) k1 rfl rfl rfl (Nat.le_of_ble_eq_true rfl) (pt_X2_1 pb0 (Option.some.inj hM2)) dX2_copy_10 (fun H locs hM => ?_)
  refine lv_iconst (v := (0 : Int32)) hx hb dX2_copy_13 (by decide) ?_
  refine lv_istore_n (lv' := [(2, .int (0 : Int32)), (0, .ref (ad b0)), (1, .ref (ad b1))]) hx hb dX2_copy_14 rfl hl (by decide) rfl (fun ls hl => ?_)
  refine wX2_copy_15 Z hX0 b0 pb0 b1 pb1 _ (fun M3 h H locs ls hl hM => ?_) _ _ _ h _ _ _ (lv_sub hl [1, 2, 0] rfl) hM
  exact m_vret hx hb hr hlocks hM (congrArg (a₁ := M3) (fun z => Ec ad cI z) (Option.some.inj h)) dX2_copy_51
set_option maxHeartbeats 4000000 in
set_option maxRecDepth 100000 in
theorem wX0_offer_27 {p : Program} {l : Launch} {e : Env} {s : State} {m : MethodId} {args : Array Value} {below : List Frame} {meth : Method} {c : Code} {D : va_G} {cI : ClassId} {ad : Nat → Nat} {X : State → Prop} (Z : mZ p s m args meth c cX0_offer 4 none wsX0_offer RX0 D [(cI, .int)] X) {aS : Nat → Nat} (hX0 : cX D ad aS X)   (u1 : Int32)  {K : Mem → Option Mem} (res : Mem) (hKc : ∀  (M1 : Mem), K  M1 = some res → ∀ (H : Heap) (locs : List Loc) (ls : Array Slot), lv_has ls 4 [] → mH D ad 40 (Ec ad cI M1) s.heap H locs → W p l e { frames := 0, cells := 0, slots := 0, locals := 0 } s m args below meth c H locs 0 0 (MQ below (mQ D ad 40 none (Ec ad cI res)) args s 0 0 (mA ad 40)) (F0 m 50 ls [])) :
    ∀ (n : Nat) (v3 : Int32) (M : Mem), fX0_offer_27 u1 K n v3 M = some res → ∀ (H : Heap) (locs : List Loc) (ls : Array Slot), lv_has ls 4 [(0, .ref (ad 25)), (1, .int u1), (3, .int v3)] → mH D ad 40 (Ec ad cI M) s.heap H locs → W p l e { frames := 0, cells := 0, slots := 0, locals := 0 } s m args below meth c H locs 0 0 (MQ below (mQ D ad 40 none (Ec ad cI res)) args s 0 0 (mA ad 40)) (F0 m 27 ls []) := by
  obtain ⟨hx, hb, hml, hr, hlocks, hts, hown, hKv, hXs⟩ := id Z
  have hXk := hX0.1
  have k0 := hts (Cond.fieldLink RX0 15 "NoonWalker$Circuit" "bestRow" "[I") (List.mem_of_getElem? (i := 3) rfl)
  have k1 := hts (Cond.fieldLink RX0 9 "NoonWalker$Circuit" "row" "[I") (List.mem_of_getElem? (i := 4) rfl)
  intro n
  induction n with
  | zero => intro _ _ h; exact absurd h (by unfold fX0_offer_27; exact fun h => by cases h)
  | succ n ih =>
    intro v3 M h H locs ls hl hM
    rw [fX0_offer_27] at h
    refine lv_iload_n hx hb dX0_offer_27 rfl (lv_at hl 2 rfl) ?_
    refine lv_iload_n hx hb dX0_offer_28 rfl (lv_at hl 1 rfl) ?_
    refine lv_icmp_ge (tgt := 50) hx hb dX0_offer_29 (by decide) (fun c1 => ?_) (fun c1 => ?_)
    · replace h := (if_pos c1).symm.trans h
      exact hKc _ h _ _ _ (lv_sub hl [] rfl) hM
    · replace h := (if_neg c1).symm.trans h
      refine lv_aload_n hx hb dX0_offer_32 rfl (lv_at hl 0 rfl) ?_
      refine m_get hx hb hts hown hKv hM (fun _ h => List.mem_cons_of_mem _ (List.mem_append_right _ (h))) (by decide) at_X0 rfl 1 (by decide) k0 (v := .ref (ad 27)) rfl dX0_offer_33 ?_
      refine lv_iload_n hx hb dX0_offer_36 rfl (lv_at hl 2 rfl) ?_
      refine lv_aload_n hx hb dX0_offer_37 rfl (lv_at hl 0 rfl) ?_
      refine m_get hx hb hts hown hKv hM (fun _ h => List.mem_cons_of_mem _ (List.mem_append_right _ (h))) (by decide) at_X0 rfl 0 (by decide) k1 (v := .ref (ad 26)) rfl dX0_offer_38 ?_
      refine lv_iload_n hx hb dX0_offer_41 rfl (lv_at hl 2 rfl) ?_
      obtain ⟨x2, hx2, h⟩ := Option.bind_eq_some_iff.mp h
      refine m_iald hx hb hKv hM (by decide) at_X0_1 0 rfl hx2 dX0_offer_42 ?_
      obtain ⟨M3, hM3, h⟩ := Option.bind_eq_some_iff.mp h
      refine m_iast hx hb hKv hM (by decide) at_X0_2 0 rfl (sta_some hM3).1 (pa_X0_2 (sta_some hM3).2) dX0_offer_43 (fun H locs hM => ?_)
      refine lv_iinc (v := (v3 + 1)) (lv' := [(3, .int (v3 + 1)), (0, .ref (ad 25)), (1, .int u1)]) hx hb dX0_offer_44 hl (k := 2) rfl rfl (by decide) rfl (fun ls hl => ?_)
      refine lv_goto (tgt := 27) hx hb dX0_offer_47 (by decide) ?_
      exact ih _ _ h _ _ _ (lv_sub hl [1, 2, 0] rfl) hM
set_option maxHeartbeats 4000000 in
set_option maxRecDepth 100000 in
theorem kX0_offer (l : Launch) (D : va_G) (cI : ClassId) (ad : Nat → Nat) {X : State → Prop} {aS : Nat → Nat} (hX0 : cX D ad aS X) (a1 : Int32) (a2 : Int32) (M : Mem) (res : Mem) (h : fX0_offer a1 a2 M = some res) : mC l yX0_offer wsX0_offer { frames := 0, cells := 0, slots := 0, locals := 0 } D [(cI, .int)] ad 40 X [.ref (ad 25), .int a1, .int a2] (Ec ad cI M) none (Ec ad cI res) := by
  refine m_ofW (cc := cX0_offer) (maxL := 4) (ret := none) (by decide) rfl (Nat.le_of_ble_eq_true rfl) ?_
  intro p e s m args below meth c hx hb hml hr hlocks hts hown hKv hXs ls hl hM
  have hXk := hX0.1
  have Z : mZ p s m args meth c cX0_offer 4 none wsX0_offer RX0 D [(cI, .int)] X := ⟨hx, hb, hml, hr, hlocks, hts, hown, hKv, hXs⟩
  replace hown : s.vm.findClass RX0 = some m.cls := hown
  have hl : lv_has ls 4 [(0, .ref (ad 25)), (1, .int a1), (2, .int a2)] := hl
  have k0 := hts (Cond.fieldLink RX0 23 "NoonWalker$Circuit" "worth" "I") (List.mem_of_getElem? (i := 1) rfl)
  have k1 := hts (Cond.fieldLink RX0 18 "NoonWalker$Circuit" "bestLength" "I") (List.mem_of_getElem? (i := 2) rfl)
  unfold fX0_offer at h
  refine lv_iload_n hx hb dX0_offer_0 rfl (lv_at hl 2 rfl) ?_
  refine lv_aload_n hx hb dX0_offer_1 rfl (lv_at hl 0 rfl) ?_
  refine m_get hx hb hts hown hKv hM (fun _ h => List.mem_cons_of_mem _ (List.mem_append_right _ (h))) (by decide) at_X0 rfl 3 (by decide) k0 (v := .int (M.1 25 3)) rfl dX0_offer_2 ?_
  refine lv_icmp_le (tgt := 14) hx hb dX0_offer_5 (by decide) (fun c1 => ?_) (fun c1 => ?_)
  · replace h := (if_pos c1).symm.trans h
    exact m_vret hx hb hr hlocks hM (congrArg (a₁ := M) (fun z => Ec ad cI z) (Option.some.inj h)) dX0_offer_14
  · replace h := (if_neg c1).symm.trans h
    refine lv_iload_n hx hb dX0_offer_8 rfl (lv_at hl 1 rfl) ?_
    refine lv_bipush (v := (6 : Int32)) hx hb dX0_offer_9 (by decide) ?_
    refine lv_icmp_le (tgt := 15) hx hb dX0_offer_11 (by decide) (fun c2 => ?_) (fun c2 => ?_)
    · replace h := (if_pos c2).symm.trans h
      refine lv_aload_n hx hb dX0_offer_15 rfl (lv_at hl 0 rfl) ?_
      refine lv_iload_n hx hb dX0_offer_16 rfl (lv_at hl 2 rfl) ?_
      obtain ⟨M3, hM3, h⟩ := Option.bind_eq_some_iff.mp h
      refine m_put hx hb hts hown hKv hM (fun _ h => List.mem_cons_of_mem _ (List.mem_append_right _ (h))) tyX0 tyX0_ok nmX0 (by decide) at_X0 rfl 3 (by decide) k0 rfl rfl rfl (Nat.le_of_ble_eq_true rfl) (pt_X0_3 (Option.some.inj hM3)) dX0_offer_17 (fun H locs hM => ?_)
      refine lv_aload_n hx hb dX0_offer_20 rfl (lv_at hl 0 rfl) ?_
      refine lv_iload_n hx hb dX0_offer_21 rfl (lv_at hl 1 rfl) ?_
      obtain ⟨M4, hM4, h⟩ := Option.bind_eq_some_iff.mp h
      refine m_put hx hb hts hown hKv hM (fun _ h => List.mem_cons_of_mem _ (List.mem_append_right _ (h))) tyX0 tyX0_ok nmX0 (by decide) at_X0 rfl 2 (by decide) k1 rfl rfl rfl (Nat.le_of_ble_eq_true rfl) (pt_X0_2 (Option.some.inj hM4)) dX0_offer_22 (fun H locs hM => ?_)
      refine lv_iconst (v := (0 : Int32)) hx hb dX0_offer_25 (by decide) ?_
      refine lv_istore_n (lv' := [(3, .int (0 : Int32)), (0, .ref (ad 25)), (1, .int a1), (2, .int a2)]) hx hb dX0_offer_26 rfl hl (by decide) rfl (fun ls hl => ?_)
      refine wX0_offer_27 Z hX0 a1 _ (fun M5 h H locs ls hl hM => ?_) _ _ _ h _ _ _ (lv_sub hl [1, 2, 0] rfl) hM
      exact m_vret hx hb hr hlocks hM (congrArg (a₁ := M5) (fun z => Ec ad cI z) (Option.some.inj h)) dX0_offer_50
    · replace h := (if_neg c2).symm.trans h
      exact m_vret hx hb hr hlocks hM (congrArg (a₁ := M) (fun z => Ec ad cI z) (Option.some.inj h)) dX0_offer_14
set_option maxHeartbeats 4000000 in
set_option maxRecDepth 100000 in
theorem wX0_extend_52 {p : Program} {l : Launch} {e : Env} {s : State} {m : MethodId} {args : Array Value} {below : List Frame} {meth : Method} {c : Code} {D : va_G} {cI : ClassId} {ad : Nat → Nat} {X : State → Prop} (Z : mZ p s m args meth c cX0_extend 8 none wsX0_extend RX0 D [(cI, .int)] X) {aS : Nat → Nat} (hX0 : cX D ad aS X) (b1 : Nat) (pb1 : isL b1) {d : Nat} {rec : Nat → Int32 → Int32 → Int32 → Mem → Option Mem} (hrec : ∀ (b1 : Nat) (_ : isL b1) (a2 : Int32) (a3 : Int32) (a4 : Int32) (M : Mem) (res : Mem), rec b1 a2 a3 a4 M = some res → mC l yX0_extend wsX0_extend { frames := 2 + d, cells := 0, slots := 0, locals := 43 + d * 27 } D [(cI, .int)] ad 40 X [.ref (ad 25), .ref (ad b1), .int a2, .int a3, .int a4] (Ec ad cI M) none (Ec ad cI res)) (u2 : Int32) (u3 : Int32) (u4 : Int32) (u5 : Int32)  {K : Mem → Option Mem} (res : Mem) (hKc : ∀  (M1 : Mem), K  M1 = some res → ∀ (H : Heap) (locs : List Loc) (ls : Array Slot), lv_has ls 8 [] → mH D ad 40 (Ec ad cI M1) s.heap H locs → W p l e { frames := 2 + (d + 1), cells := 0, slots := 0, locals := 43 + (d + 1) * 27 } s m args below meth c H locs 0 0 (MQ below (mQ D ad 40 none (Ec ad cI res)) args s 0 0 (mA ad 40)) (F0 m 130 ls [])) :
    ∀ (n : Nat) (v6 : Int32) (M : Mem), fX0_extend_52 b1 rec u2 u3 u4 u5 K n v6 M = some res → ∀ (H : Heap) (locs : List Loc) (ls : Array Slot), lv_has ls 8 [(0, .ref (ad 25)), (1, .ref (ad b1)), (2, .int u2), (3, .int u3), (4, .int u4), (5, .int u5), (6, .int v6)] → mH D ad 40 (Ec ad cI M) s.heap H locs → W p l e { frames := 2 + (d + 1), cells := 0, slots := 0, locals := 43 + (d + 1) * 27 } s m args below meth c H locs 0 0 (MQ below (mQ D ad 40 none (Ec ad cI res)) args s 0 0 (mA ad 40)) (F0 m 52 ls []) := by
  obtain ⟨hx, hb, hml, hr, hlocks, hts, hown, hKv, hXs⟩ := id Z
  have hXk := hX0.1
  have k0 := hts (Cond.fieldLink RX0 44 "NoonWalker$Land" "towns" "I") (List.mem_of_getElem? (i := 2) rfl)
  have k1 := hts (Cond.fieldLink RX0 9 "NoonWalker$Circuit" "row" "[I") (List.mem_of_getElem? (i := 1) rfl)
  intro n
  induction n with
  | zero => intro _ _ h; exact absurd h (by unfold fX0_extend_52; exact fun h => by cases h)
  | succ n ih =>
    intro v6 M h H locs ls hl hM
    rw [fX0_extend_52] at h
    refine lv_iload hx hb dX0_extend_52 (lv_at hl 6 rfl) ?_
    refine lv_aload_n hx hb dX0_extend_54 rfl (lv_at hl 1 rfl) ?_
    refine m_get hx hb hts hown hKv hM (fun _ h => List.mem_cons_of_mem _ (List.mem_append_right _ (h))) (lt_X1 pb1) (at_X1 pb1) rfl 0 (by decide) k0 (v := .int (M.1 b1 0)) rfl dX0_extend_55 ?_
    refine lv_icmp_ge (tgt := 130) hx hb dX0_extend_58 (by decide) (fun c1 => ?_) (fun c1 => ?_)
    · replace h := (if_pos c1).symm.trans h
      exact hKc _ h _ _ _ (lv_sub hl [] rfl) hM
    · replace h := (if_neg c1).symm.trans h
      refine lv_aload_n hx hb dX0_extend_61 rfl (lv_at hl 1 rfl) ?_
      refine lv_iload hx hb dX0_extend_62 (lv_at hl 5 rfl) ?_
      refine lv_iload hx hb dX0_extend_64 (lv_at hl 6 rfl) ?_
      obtain ⟨x2, hx2, h⟩ := Option.bind_eq_some_iff.mp h
      refine m_callV (As := [.int u5, .int v6]) (st1 := [.int x2]) hx hb (hml.trans hl.1.symm) hown hts hKv hXs hXk hM (kX1_distance l D cI ad hX0 b1 pb1 u5 v6 M _ hx2) (cwV 2 hts gX0_extend_X1_distance rfl rfl rfl (by decide +kernel) ⟨by dsimp only; omega, by dsimp only; omega⟩) (lt_X1 pb1) (at_X1 pb1) rfl rfl rfl rfl (Nat.le_of_ble_eq_true rfl) dX0_extend_66 ⟨Nat.zero_le _, Nat.zero_le _⟩ (fun H locs hM => ?_)
      refine lv_istore (lv' := [(7, .int x2), (0, .ref (ad 25)), (1, .ref (ad b1)), (2, .int u2), (3, .int u3), (4, .int u4), (5, .int u5), (6, .int v6)]) hx hb dX0_extend_69 hl (by decide) rfl (fun ls hl => ?_)
      refine lv_iload_n hx hb dX0_extend_71 rfl (lv_at hl 4 rfl) ?_
      refine lv_iconst (v := (1 : Int32)) hx hb dX0_extend_72 (by decide) ?_
      refine lv_iload hx hb dX0_extend_73 (lv_at hl 7 rfl) ?_
      refine lv_ishl hx hb dX0_extend_75 ?_
      refine lv_iand hx hb dX0_extend_76 ?_
      refine lv_if_ne (tgt := 124) hx hb dX0_extend_77 (by decide) (fun c3 => ?_) (fun c3 => ?_)
      · replace h := (if_neg c3).symm.trans h
        refine lv_iinc (v := (v6 + 1)) (lv' := [(6, .int (v6 + 1)), (7, .int x2), (0, .ref (ad 25)), (1, .ref (ad b1)), (2, .int u2), (3, .int u3), (4, .int u4), (5, .int u5)]) hx hb dX0_extend_124 hl (k := 7) rfl rfl (by decide) rfl (fun ls hl => ?_)
        refine lv_goto (tgt := 52) hx hb dX0_extend_127 (by decide) ?_
        exact ih _ _ h _ _ _ (lv_sub hl [2, 3, 4, 5, 6, 7, 0] rfl) hM
      · replace h := (if_pos c3).symm.trans h
        refine lv_iload hx hb dX0_extend_80 (lv_at hl 0 rfl) ?_
        refine lv_bipush (v := (-9 : Int32)) hx hb dX0_extend_82 (by decide) ?_
        refine lv_icmp_ne (tgt := 90) hx hb dX0_extend_84 (by decide) (fun c4 => ?_) (fun c4 => ?_)
        · replace h := (if_neg c4).symm.trans h
          refine lv_aload_n hx hb dX0_extend_90 rfl (lv_at hl 1 rfl) ?_
          refine m_get hx hb hts hown hKv hM (fun _ h => List.mem_cons_of_mem _ (List.mem_append_left _ (List.mem_append_right _ (h)))) (by decide) at_X0 rfl 0 (by decide) k1 (v := .ref (ad 26)) rfl dX0_extend_91 ?_
          refine lv_iload_n hx hb dX0_extend_94 rfl (lv_at hl 3 rfl) ?_
          refine lv_iload hx hb dX0_extend_95 (lv_at hl 7 rfl) ?_
          obtain ⟨M5, hM5, h⟩ := Option.bind_eq_some_iff.mp h
          refine m_iast hx hb hKv hM (by decide) at_X0_1 0 rfl (sta_some hM5).1 (pa_X0_1 (sta_some hM5).2) dX0_extend_97 (fun H locs hM => ?_)
          refine lv_aload_n hx hb dX0_extend_98 rfl (lv_at hl 1 rfl) ?_
          refine lv_aload_n hx hb dX0_extend_99 rfl (lv_at hl 2 rfl) ?_
          refine lv_iload_n hx hb dX0_extend_100 rfl (lv_at hl 3 rfl) ?_
          refine lv_iconst (v := (1 : Int32)) hx hb dX0_extend_101 (by decide) ?_
          refine lv_iadd hx hb dX0_extend_102 ?_
          refine lv_iload_n hx hb dX0_extend_103 rfl (lv_at hl 4 rfl) ?_
          refine lv_iconst (v := (1 : Int32)) hx hb dX0_extend_104 (by decide) ?_
          refine lv_iload hx hb dX0_extend_105 (lv_at hl 7 rfl) ?_
          refine lv_ishl hx hb dX0_extend_107 ?_
          refine lv_ior hx hb dX0_extend_108 ?_
          refine lv_iload hx hb dX0_extend_109 (lv_at hl 5 rfl) ?_
          refine lv_aload_n hx hb dX0_extend_111 rfl (lv_at hl 2 rfl) ?_
          refine lv_iload hx hb dX0_extend_112 (lv_at hl 7 rfl) ?_
          obtain ⟨x6, hx6, h⟩ := Option.bind_eq_some_iff.mp h
          refine m_callV (As := [.int v6]) (st1 := [.int x6, .int u4, .int (u3 ||| ((1 : Int32) <<< (v6 &&& 31))), .int (u2 + (1 : Int32)), .ref (ad b1), .ref (ad 25)]) hx hb (hml.trans hl.1.symm) hown hts hKv hXs hXk hM (kX1_bidOf l D cI ad hX0 b1 pb1 v6 M5 _ hx6) (cwV 1 hts gX0_extend_X1_bidOf rfl rfl rfl (by decide +kernel) ⟨by dsimp only; omega, by dsimp only; omega⟩) (lt_X1 pb1) (at_X1 pb1) rfl rfl rfl rfl (Nat.le_of_ble_eq_true rfl) dX0_extend_114 ⟨Nat.zero_le _, Nat.zero_le _⟩ (fun H locs hM => ?_)
          refine lv_iadd hx hb dX0_extend_117 ?_
          refine lv_iload hx hb dX0_extend_118 (lv_at hl 0 rfl) ?_
          refine lv_isub hx hb dX0_extend_120 ?_
          obtain ⟨x7, hx7, h⟩ := Option.bind_eq_some_iff.mp h
          refine m_callS (As := [.ref (ad 25), .ref (ad b1), .int (u2 + (1 : Int32)), .int (u3 ||| ((1 : Int32) <<< (v6 &&& 31))), .int ((u4 + x6) - x2)]) (st1 := []) hx hb (hml.trans hl.1.symm) hown hts hKv hXs hXk hM (hrec b1 pb1 (u2 + (1 : Int32)) (u3 ||| ((1 : Int32) <<< (v6 &&& 31))) ((u4 + x6) - x2) M5 _ hx7) (va_cwS 5 hts gX0_extend_X0_extend rfl rfl rfl (by decide +kernel) ⟨by dsimp only; omega, by dsimp only; omega⟩) rfl rfl rfl (Nat.le_of_ble_eq_true rfl) dX0_extend_121 ⟨Nat.zero_le _, Nat.zero_le _⟩ (fun H locs hM => ?_)
          refine lv_iinc (v := (v6 + 1)) (lv' := [(6, .int (v6 + 1)), (7, .int x2), (0, .ref (ad 25)), (1, .ref (ad b1)), (2, .int u2), (3, .int u3), (4, .int u4), (5, .int u5)]) hx hb dX0_extend_124 hl (k := 7) rfl rfl (by decide) rfl (fun ls hl => ?_)
          refine lv_goto (tgt := 52) hx hb dX0_extend_127 (by decide) ?_
          exact ih _ _ h _ _ _ (lv_sub hl [2, 3, 4, 5, 6, 7, 0] rfl) hM
        · replace h := (if_pos c4).symm.trans h
          refine lv_goto (tgt := 124) hx hb dX0_extend_87 (by decide) ?_
          refine lv_iinc (v := (v6 + 1)) (lv' := [(6, .int (v6 + 1)), (7, .int x2), (0, .ref (ad 25)), (1, .ref (ad b1)), (2, .int u2), (3, .int u3), (4, .int u4), (5, .int u5)]) hx hb dX0_extend_124 hl (k := 7) rfl rfl (by decide) rfl (fun ls hl => ?_)
          refine lv_goto (tgt := 52) hx hb dX0_extend_127 (by decide) ?_
          exact ih _ _ h _ _ _ (lv_sub hl [2, 3, 4, 5, 6, 7, 0] rfl) hM
set_option maxHeartbeats 4000000 in
set_option maxRecDepth 100000 in
theorem kX0_extend (l : Launch) (D : va_G) (cI : ClassId) (ad : Nat → Nat) {X : State → Prop} {aS : Nat → Nat} (hX0 : cX D ad aS X) : ∀ (d : Nat), ∀ (b1 : Nat) (pb1 : isL b1) (a2 : Int32) (a3 : Int32) (a4 : Int32) (M : Mem) (res : Mem), fX0_extend d b1 a2 a3 a4 M = some res → mC l yX0_extend wsX0_extend { frames := 2 + d, cells := 0, slots := 0, locals := 43 + d * 27 } D [(cI, .int)] ad 40 X [.ref (ad 25), .ref (ad b1), .int a2, .int a3, .int a4] (Ec ad cI M) none (Ec ad cI res) := by
  intro d
  induction d with
  | zero => intro b1 pb1 a2 a3 a4 M res h; rw [fX0_extend] at h; cases h
  | succ d hrec =>
    intro b1 pb1 a2 a3 a4 M res h
    refine m_ofW (cc := cX0_extend) (maxL := 8) (ret := none) (by decide) rfl (Nat.le_of_ble_eq_true rfl) ?_
    intro p e s m args below meth c hx hb hml hr hlocks hts hown hKv hXs ls hl hM
    have hXk := hX0.1
    have Z : mZ p s m args meth c cX0_extend 8 none wsX0_extend RX0 D [(cI, .int)] X := ⟨hx, hb, hml, hr, hlocks, hts, hown, hKv, hXs⟩
    replace hown : s.vm.findClass RX0 = some m.cls := hown
    have hl : lv_has ls 8 [(0, .ref (ad 25)), (1, .ref (ad b1)), (2, .int a2), (3, .int a3), (4, .int a4)] := hl
    have k0 := hts (Cond.fieldLink RX0 9 "NoonWalker$Circuit" "row" "[I") (List.mem_of_getElem? (i := 1) rfl)
    rw [fX0_extend] at h
    refine lv_iload_n hx hb dX0_extend_0 rfl (lv_at hl 2 rfl) ?_
    refine lv_iconst (v := (1 : Int32)) hx hb dX0_extend_1 (by decide) ?_
    refine lv_icmp_lt (tgt := 11) hx hb dX0_extend_2 (by decide) (fun c1 => ?_) (fun c1 => ?_)
    · replace h := (if_pos c1).symm.trans h
      exact m_vret hx hb hr hlocks hM (congrArg (a₁ := M) (fun z => Ec ad cI z) (Option.some.inj h)) dX0_extend_11
    · replace h := (if_neg c1).symm.trans h
      refine lv_iload_n hx hb dX0_extend_5 rfl (lv_at hl 2 rfl) ?_
      refine lv_bipush (v := (6 : Int32)) hx hb dX0_extend_6 (by decide) ?_
      refine lv_icmp_le (tgt := 12) hx hb dX0_extend_8 (by decide) (fun c2 => ?_) (fun c2 => ?_)
      · replace h := (if_pos c2).symm.trans h
        refine lv_aload_n hx hb dX0_extend_12 rfl (lv_at hl 0 rfl) ?_
        refine m_get hx hb hts hown hKv hM (fun _ h => List.mem_cons_of_mem _ (List.mem_append_left _ (List.mem_append_right _ (h)))) (by decide) at_X0 rfl 0 (by decide) k0 (v := .ref (ad 26)) rfl dX0_extend_13 ?_
        refine lv_iload_n hx hb dX0_extend_16 rfl (lv_at hl 2 rfl) ?_
        refine lv_iconst (v := (1 : Int32)) hx hb dX0_extend_17 (by decide) ?_
        refine lv_isub hx hb dX0_extend_18 ?_
        obtain ⟨x3, hx3, h⟩ := Option.bind_eq_some_iff.mp h
        refine m_iald hx hb hKv hM (by decide) at_X0_1 0 rfl hx3 dX0_extend_19 ?_
        refine lv_istore (lv' := [(5, .int x3), (0, .ref (ad 25)), (1, .ref (ad b1)), (2, .int a2), (3, .int a3), (4, .int a4)]) hx hb dX0_extend_20 hl (by decide) rfl (fun ls hl => ?_)
        refine lv_aload_n hx hb dX0_extend_22 rfl (lv_at hl 1 rfl) ?_
        refine lv_iload_n hx hb dX0_extend_23 rfl (lv_at hl 3 rfl) ?_
        refine lv_iload hx hb dX0_extend_24 (lv_at hl 5 rfl) ?_
        refine lv_aload_n hx hb dX0_extend_26 rfl (lv_at hl 2 rfl) ?_
        refine lv_iload hx hb dX0_extend_27 (lv_at hl 0 rfl) ?_
        refine lv_aload_n hx hb dX0_extend_29 rfl (lv_at hl 1 rfl) ?_
        refine m_get hx hb hts hown hKv hM (fun _ h => List.mem_cons_of_mem _ (List.mem_append_left _ (List.mem_append_right _ (h)))) (by decide) at_X0 rfl 0 (by decide) k0 (v := .ref (ad 26)) rfl dX0_extend_30 ?_
        refine lv_iconst (v := (0 : Int32)) hx hb dX0_extend_33 (by decide) ?_
        obtain ⟨x4, hx4, h⟩ := Option.bind_eq_some_iff.mp h
        refine m_iald hx hb hKv hM (by decide) at_X0_1 0 rfl hx4 dX0_extend_34 ?_
        obtain ⟨x5, hx5, h⟩ := Option.bind_eq_some_iff.mp h
        refine m_callV (As := [.int x3, .int x4]) (st1 := [.int x5, .int a4, .int a2, .ref (ad 25)]) hx hb (hml.trans hl.1.symm) hown hts hKv hXs hXk hM (kX1_distance l D cI ad hX0 b1 pb1 x3 x4 M _ hx5) (cwV 2 hts gX0_extend_X1_distance rfl rfl rfl (by decide +kernel) ⟨by dsimp only; omega, by dsimp only; omega⟩) (lt_X1 pb1) (at_X1 pb1) rfl rfl rfl rfl (Nat.le_of_ble_eq_true rfl) dX0_extend_35 ⟨Nat.zero_le _, Nat.zero_le _⟩ (fun H locs hM => ?_)
        refine lv_isub hx hb dX0_extend_38 ?_
        obtain ⟨x6, hx6, h⟩ := Option.bind_eq_some_iff.mp h
        refine m_callV (As := [.int a2, .int (a4 - x5)]) (st1 := []) hx hb (hml.trans hl.1.symm) hown hts hKv hXs hXk hM (kX0_offer l D cI ad hX0 a2 (a4 - x5) M _ hx6) (cwV 2 hts gX0_extend_X0_offer rfl rfl rfl (by decide +kernel) ⟨by dsimp only; omega, by dsimp only; omega⟩) (by decide) at_X0 rfl rfl rfl rfl (Nat.le_of_ble_eq_true rfl) dX0_extend_39 ⟨Nat.zero_le _, Nat.zero_le _⟩ (fun H locs hM => ?_)
        refine lv_iload_n hx hb dX0_extend_42 rfl (lv_at hl 3 rfl) ?_
        refine lv_bipush (v := (6 : Int32)) hx hb dX0_extend_43 (by decide) ?_
        refine lv_icmp_lt (tgt := 49) hx hb dX0_extend_45 (by decide) (fun c7 => ?_) (fun c7 => ?_)
        · replace h := (if_pos c7).symm.trans h
          refine lv_iconst (v := (0 : Int32)) hx hb dX0_extend_49 (by decide) ?_
          refine lv_istore (lv' := [(6, .int (0 : Int32)), (5, .int x3), (0, .ref (ad 25)), (1, .ref (ad b1)), (2, .int a2), (3, .int a3), (4, .int a4)]) hx hb dX0_extend_50 hl (by decide) rfl (fun ls hl => ?_)
          refine wX0_extend_52 Z hX0 b1 pb1 hrec a2 a3 a4 x3 _ (fun M8 h H locs ls hl hM => ?_) _ _ _ h _ _ _ (lv_sub hl [2, 3, 4, 5, 6, 1, 0] rfl) hM
          exact m_vret hx hb hr hlocks hM (congrArg (a₁ := M8) (fun z => Ec ad cI z) (Option.some.inj h)) dX0_extend_130
        · replace h := (if_neg c7).symm.trans h
          exact m_vret hx hb hr hlocks hM (congrArg (a₁ := x6) (fun z => Ec ad cI z) (Option.some.inj h)) dX0_extend_48
      · replace h := (if_neg c2).symm.trans h
        exact m_vret hx hb hr hlocks hM (congrArg (a₁ := M) (fun z => Ec ad cI z) (Option.some.inj h)) dX0_extend_11
set_option maxHeartbeats 4000000 in
set_option maxRecDepth 100000 in
theorem kX0_find (l : Launch) (D : va_G) (cI : ClassId) (ad : Nat → Nat) {X : State → Prop} {aS : Nat → Nat} (hX0 : cX D ad aS X) (b1 : Nat) (pb1 : isL b1) (a2 : Int32) (M : Mem) (res : Mem) (h : fX0_find b1 a2 M = some res) : mC l yX0_find wsX0_find { frames := 11, cells := 0, slots := 0, locals := 286 } D [(cI, .int)] ad 40 X [.ref (ad 25), .ref (ad b1), .int a2] (Ec ad cI M) none (Ec ad cI res) := by
  refine m_ofW (cc := cX0_find) (maxL := 3) (ret := none) (by decide) rfl (Nat.le_of_ble_eq_true rfl) ?_
  intro p e s m args below meth c hx hb hml hr hlocks hts hown hKv hXs ls hl hM
  have hXk := hX0.1
  have Z : mZ p s m args meth c cX0_find 3 none wsX0_find RX0 D [(cI, .int)] X := ⟨hx, hb, hml, hr, hlocks, hts, hown, hKv, hXs⟩
  replace hown : s.vm.findClass RX0 = some m.cls := hown
  have hl : lv_has ls 3 [(0, .ref (ad 25)), (1, .ref (ad b1)), (2, .int a2)] := hl
  have k0 := hts (Cond.constant RX0 22 (-1000000)) (List.mem_of_getElem? (i := 1) rfl)
  have k1 := hts (Cond.fieldLink RX0 23 "NoonWalker$Circuit" "worth" "I") (List.mem_of_getElem? (i := 2) rfl)
  have k2 := hts (Cond.fieldLink RX0 18 "NoonWalker$Circuit" "bestLength" "I") (List.mem_of_getElem? (i := 3) rfl)
  have k3 := hts (Cond.fieldLink RX0 9 "NoonWalker$Circuit" "row" "[I") (List.mem_of_getElem? (i := 4) rfl)
  unfold fX0_find at h
  refine lv_aload_n hx hb dX0_find_0 rfl (lv_at hl 0 rfl) ?_
  refine lv_ldc (v := (-1000000 : Int32)) hx hb hown k0 dX0_find_1 ?_
  obtain ⟨M1, hM1, h⟩ := Option.bind_eq_some_iff.mp h
  refine m_put hx hb hts hown hKv hM (fun _ h => List.mem_cons_of_mem _ (List.mem_append_left _ (List.mem_append_right _ (h)))) tyX0 tyX0_ok nmX0 (by decide) at_X0 rfl 3 (by decide) k1 rfl rfl rfl (Nat.le_of_ble_eq_true rfl) (pt_X0_3 (Option.some.inj hM1)) dX0_find_3 (fun H locs hM => ?_)
  refine lv_aload_n hx hb dX0_find_6 rfl (lv_at hl 0 rfl) ?_
  refine lv_iconst (v := (0 : Int32)) hx hb dX0_find_7 (by decide) ?_
  obtain ⟨M2, hM2, h⟩ := Option.bind_eq_some_iff.mp h
  refine m_put hx hb hts hown hKv hM (fun _ h => List.mem_cons_of_mem _ (List.mem_append_left _ (List.mem_append_right _ (h)))) tyX0 tyX0_ok nmX0 (by decide) at_X0 rfl 2 (by decide) k2 rfl rfl rfl (Nat.le_of_ble_eq_true rfl) (pt_X0_2 (Option.some.inj hM2)) dX0_find_8 (fun H locs hM => ?_)
  refine lv_aload_n hx hb dX0_find_11 rfl (lv_at hl 0 rfl) ?_
  refine m_get hx hb hts hown hKv hM (fun _ h => List.mem_cons_of_mem _ (List.mem_append_left _ (List.mem_append_right _ (h)))) (by decide) at_X0 rfl 0 (by decide) k3 (v := .ref (ad 26)) rfl dX0_find_12 ?_
  refine lv_iconst (v := (0 : Int32)) hx hb dX0_find_15 (by decide) ?_
  refine lv_iload_n hx hb dX0_find_16 rfl (lv_at hl 2 rfl) ?_
  obtain ⟨M3, hM3, h⟩ := Option.bind_eq_some_iff.mp h
  refine m_iast hx hb hKv hM (by decide) at_X0_1 0 rfl (sta_some hM3).1 (pa_X0_1 (sta_some hM3).2) dX0_find_17 (fun H locs hM => ?_)
  refine lv_aload_n hx hb dX0_find_18 rfl (lv_at hl 0 rfl) ?_
  refine lv_aload_n hx hb dX0_find_19 rfl (lv_at hl 1 rfl) ?_
  refine lv_iconst (v := (1 : Int32)) hx hb dX0_find_20 (by decide) ?_
  refine lv_iconst (v := (1 : Int32)) hx hb dX0_find_21 (by decide) ?_
  refine lv_iload_n hx hb dX0_find_22 rfl (lv_at hl 2 rfl) ?_
  refine lv_ishl hx hb dX0_find_23 ?_
  refine lv_aload_n hx hb dX0_find_24 rfl (lv_at hl 1 rfl) ?_
  refine lv_iload_n hx hb dX0_find_25 rfl (lv_at hl 2 rfl) ?_
  obtain ⟨x4, hx4, h⟩ := Option.bind_eq_some_iff.mp h
  refine m_callV (As := [.int a2]) (st1 := [.int x4, .int ((1 : Int32) <<< (a2 &&& 31)), .int (1 : Int32), .ref (ad b1), .ref (ad 25)]) hx hb (hml.trans hl.1.symm) hown hts hKv hXs hXk hM (kX1_bidOf l D cI ad hX0 b1 pb1 a2 M3 _ hx4) (cwV 1 hts gX0_find_X1_bidOf rfl rfl rfl (by decide +kernel) ⟨Nat.le_of_ble_eq_true rfl, Nat.le_of_ble_eq_true rfl⟩) (lt_X1 pb1) (at_X1 pb1) rfl rfl rfl rfl (Nat.le_of_ble_eq_true rfl) dX0_find_26 ⟨Nat.zero_le _, Nat.zero_le _⟩ (fun H locs hM => ?_)
  obtain ⟨x5, hx5, h⟩ := Option.bind_eq_some_iff.mp h
  refine m_callS (As := [.ref (ad 25), .ref (ad b1), .int (1 : Int32), .int ((1 : Int32) <<< (a2 &&& 31)), .int x4]) (st1 := []) hx hb (hml.trans hl.1.symm) hown hts hKv hXs hXk hM (kX0_extend l D cI ad hX0 8 b1 pb1 (1 : Int32) ((1 : Int32) <<< (a2 &&& 31)) x4 M3 _ hx5) (va_cwS 5 hts gX0_find_X0_extend rfl rfl rfl (by decide +kernel) ⟨Nat.le_of_ble_eq_true rfl, Nat.le_of_ble_eq_true rfl⟩) rfl rfl rfl (Nat.le_of_ble_eq_true rfl) dX0_find_29 ⟨Nat.zero_le _, Nat.zero_le _⟩ (fun H locs hM => ?_)
  exact m_vret hx hb hr hlocks hM (congrArg (a₁ := x5) (fun z => Ec ad cI z) (Option.some.inj h)) dX0_find_32
set_option maxHeartbeats 4000000 in
set_option maxRecDepth 100000 in
theorem kX0_townOf (l : Launch) (D : va_G) (cI : ClassId) (ad : Nat → Nat) {X : State → Prop} {aS : Nat → Nat} (hX0 : cX D ad aS X) (a1 : Int32) (M : Mem) (res : Int32) (h : fX0_townOf a1 M = some res) : mC l yX0_townOf wsX0_townOf { frames := 0, cells := 0, slots := 0, locals := 0 } D [(cI, .int)] ad 40 X [.ref (ad 25), .int a1] (Ec ad cI M) (some (.int res)) (Ec ad cI M) := by
  refine m_ofW (cc := cX0_townOf) (maxL := 2) (ret := (some .int)) (by decide) rfl (Nat.le_of_ble_eq_true rfl) ?_
  intro p e s m args below meth c hx hb hml hr hlocks hts hown hKv hXs ls hl hM
  have hXk := hX0.1
  have Z : mZ p s m args meth c cX0_townOf 2 (some .int) wsX0_townOf RX0 D [(cI, .int)] X := ⟨hx, hb, hml, hr, hlocks, hts, hown, hKv, hXs⟩
  replace hown : s.vm.findClass RX0 = some m.cls := hown
  have hl : lv_has ls 2 [(0, .ref (ad 25)), (1, .int a1)] := hl
  have k0 := hts (Cond.fieldLink RX0 18 "NoonWalker$Circuit" "bestLength" "I") (List.mem_of_getElem? (i := 1) rfl)
  have k1 := hts (Cond.fieldLink RX0 15 "NoonWalker$Circuit" "bestRow" "[I") (List.mem_of_getElem? (i := 2) rfl)
  unfold fX0_townOf at h
  refine lv_iload_n hx hb dX0_townOf_0 rfl (lv_at hl 1 rfl) ?_
  refine lv_if_lt (tgt := 21) hx hb dX0_townOf_1 (by decide) (fun c1 => ?_) (fun c1 => ?_)
  · replace h := (if_pos c1).symm.trans h
    refine lv_bipush (v := (-9 : Int32)) hx hb dX0_townOf_21 (by decide) ?_
    exact m_iret hx hb hr hlocks hM (Option.some.inj h) rfl dX0_townOf_23
  · replace h := (if_neg c1).symm.trans h
    refine lv_iload_n hx hb dX0_townOf_4 rfl (lv_at hl 1 rfl) ?_
    refine lv_aload_n hx hb dX0_townOf_5 rfl (lv_at hl 0 rfl) ?_
    refine m_get hx hb hts hown hKv hM (fun _ h => List.mem_cons_of_mem _ (List.mem_append_right _ (h))) (by decide) at_X0 rfl 2 (by decide) k0 (v := .int (M.1 25 2)) rfl dX0_townOf_6 ?_
    refine lv_icmp_ge (tgt := 21) hx hb dX0_townOf_9 (by decide) (fun c2 => ?_) (fun c2 => ?_)
    · replace h := (if_pos c2).symm.trans h
      refine lv_bipush (v := (-9 : Int32)) hx hb dX0_townOf_21 (by decide) ?_
      exact m_iret hx hb hr hlocks hM (Option.some.inj h) rfl dX0_townOf_23
    · replace h := (if_neg c2).symm.trans h
      refine lv_aload_n hx hb dX0_townOf_12 rfl (lv_at hl 0 rfl) ?_
      refine m_get hx hb hts hown hKv hM (fun _ h => List.mem_cons_of_mem _ (List.mem_append_right _ (h))) (by decide) at_X0 rfl 1 (by decide) k1 (v := .ref (ad 27)) rfl dX0_townOf_13 ?_
      refine lv_iload_n hx hb dX0_townOf_16 rfl (lv_at hl 1 rfl) ?_
      obtain ⟨x3, hx3, h⟩ := Option.bind_eq_some_iff.mp h
      refine m_iald hx hb hKv hM (by decide) at_X0_2 0 rfl hx3 dX0_townOf_17 ?_
      refine lv_goto (tgt := 23) hx hb dX0_townOf_18 (by decide) ?_
      exact m_iret hx hb hr hlocks hM (Option.some.inj h) rfl dX0_townOf_23
set_option maxHeartbeats 4000000 in
set_option maxRecDepth 100000 in
theorem kX3_append (l : Launch) (D : va_G) (cI : ClassId) (ad : Nat → Nat) {X : State → Prop} {aS : Nat → Nat} (hX0 : cX D ad aS X) (a1 : Int32) (M : Mem) (res : Mem) (h : fX3_append a1 M = some res) : mC l yX3_append wsX3_append { frames := 0, cells := 0, slots := 0, locals := 0 } D [(cI, .int)] ad 40 X [.ref (ad 1), .int a1] (Ec ad cI M) none (Ec ad cI res) := by
  refine m_ofW (cc := cX3_append) (maxL := 2) (ret := none) (by decide) rfl (Nat.le_of_ble_eq_true rfl) ?_
  intro p e s m args below meth c hx hb hml hr hlocks hts hown hKv hXs ls hl hM
  have hXk := hX0.1
  have Z : mZ p s m args meth c cX3_append 2 none wsX3_append RX3 D [(cI, .int)] X := ⟨hx, hb, hml, hr, hlocks, hts, hown, hKv, hXs⟩
  replace hown : s.vm.findClass RX3 = some m.cls := hown
  have hl : lv_has ls 2 [(0, .ref (ad 1)), (1, .int a1)] := hl
  have k0 := hts (Cond.fieldLink RX3 15 "NoonWalker$Reader" "length" "I") (List.mem_of_getElem? (i := 1) rfl)
  have k1 := hts (Cond.fieldLink RX3 9 "NoonWalker$Reader" "text" "[I") (List.mem_of_getElem? (i := 2) rfl)
  unfold fX3_append at h
  refine lv_aload_n hx hb dX3_append_0 rfl (lv_at hl 0 rfl) ?_
  refine m_get hx hb hts hown hKv hM (fun _ h => List.mem_cons_of_mem _ (List.mem_append_right _ (h))) (by decide) at_X3 rfl 1 (by decide) k0 (v := .int (M.1 1 1)) rfl dX3_append_1 ?_
  refine lv_sipush (v := (300 : Int32)) hx hb dX3_append_4 (by decide) ?_
  refine lv_icmp_lt (tgt := 11) hx hb dX3_append_7 (by decide) (fun c1 => ?_) (fun c1 => ?_)
  · replace h := (if_pos c1).symm.trans h
    refine lv_aload_n hx hb dX3_append_11 rfl (lv_at hl 0 rfl) ?_
    refine m_get hx hb hts hown hKv hM (fun _ h => List.mem_cons_of_mem _ (List.mem_append_right _ (h))) (by decide) at_X3 rfl 0 (by decide) k1 (v := .ref (ad 2)) rfl dX3_append_12 ?_
    refine lv_aload_n hx hb dX3_append_15 rfl (lv_at hl 0 rfl) ?_
    refine m_get hx hb hts hown hKv hM (fun _ h => List.mem_cons_of_mem _ (List.mem_append_right _ (h))) (by decide) at_X3 rfl 1 (by decide) k0 (v := .int (M.1 1 1)) rfl dX3_append_16 ?_
    refine lv_iload_n hx hb dX3_append_19 rfl (lv_at hl 1 rfl) ?_
    obtain ⟨M2, hM2, h⟩ := Option.bind_eq_some_iff.mp h
    refine m_iast hx hb hKv hM (by decide) at_X3_1 0 rfl (sta_some hM2).1 (pa_X3_1 (sta_some hM2).2) dX3_append_20 (fun H locs hM => ?_)
    refine lv_aload_n hx hb dX3_append_21 rfl (lv_at hl 0 rfl) ?_
    refine lv_dup hx hb dX3_append_22 rfl ?_
    refine m_get hx hb hts hown hKv hM (fun _ h => List.mem_cons_of_mem _ (List.mem_append_right _ (h))) (by decide) at_X3 rfl 1 (by decide) k0 (v := .int (M2.1 1 1)) rfl dX3_append_23 ?_
    refine lv_iconst (v := (1 : Int32)) hx hb dX3_append_26 (by decide) ?_
    refine lv_iadd hx hb dX3_append_27 ?_
    obtain ⟨M3, hM3, h⟩ := Option.bind_eq_some_iff.mp h
    refine m_put hx hb hts hown hKv hM (fun _ h => List.mem_cons_of_mem _ (List.mem_append_right _ (h))) tyX3 tyX3_ok nmX3 (by decide) at_X3 rfl 1 (by decide) k0 rfl rfl rfl (Nat.le_of_ble_eq_true rfl) (pt_X3_1 (Option.some.inj hM3)) dX3_append_28 (fun H locs hM => ?_)
    exact m_vret hx hb hr hlocks hM (congrArg (a₁ := M3) (fun z => Ec ad cI z) (Option.some.inj h)) dX3_append_31
  · replace h := (if_neg c1).symm.trans h
    exact m_vret hx hb hr hlocks hM (congrArg (a₁ := M) (fun z => Ec ad cI z) (Option.some.inj h)) dX3_append_10
set_option maxHeartbeats 4000000 in
set_option maxRecDepth 100000 in
theorem kX3_byteAt (l : Launch) (D : va_G) (cI : ClassId) (ad : Nat → Nat) {X : State → Prop} {aS : Nat → Nat} (hX0 : cX D ad aS X) (a1 : Int32) (M : Mem) (res : Int32) (h : fX3_byteAt a1 M = some res) : mC l yX3_byteAt wsX3_byteAt { frames := 0, cells := 0, slots := 0, locals := 0 } D [(cI, .int)] ad 40 X [.ref (ad 1), .int a1] (Ec ad cI M) (some (.int res)) (Ec ad cI M) := by
  refine m_ofW (cc := cX3_byteAt) (maxL := 2) (ret := (some .int)) (by decide) rfl (Nat.le_of_ble_eq_true rfl) ?_
  intro p e s m args below meth c hx hb hml hr hlocks hts hown hKv hXs ls hl hM
  have hXk := hX0.1
  have Z : mZ p s m args meth c cX3_byteAt 2 (some .int) wsX3_byteAt RX3 D [(cI, .int)] X := ⟨hx, hb, hml, hr, hlocks, hts, hown, hKv, hXs⟩
  replace hown : s.vm.findClass RX3 = some m.cls := hown
  have hl : lv_has ls 2 [(0, .ref (ad 1)), (1, .int a1)] := hl
  have k0 := hts (Cond.fieldLink RX3 15 "NoonWalker$Reader" "length" "I") (List.mem_of_getElem? (i := 1) rfl)
  have k1 := hts (Cond.fieldLink RX3 9 "NoonWalker$Reader" "text" "[I") (List.mem_of_getElem? (i := 2) rfl)
  unfold fX3_byteAt at h
  refine lv_iload_n hx hb dX3_byteAt_0 rfl (lv_at hl 1 rfl) ?_
  refine lv_if_lt (tgt := 28) hx hb dX3_byteAt_1 (by decide) (fun c1 => ?_) (fun c1 => ?_)
  · replace h := (if_pos c1).symm.trans h
    refine lv_bipush (v := (-9 : Int32)) hx hb dX3_byteAt_28 (by decide) ?_
    exact m_iret hx hb hr hlocks hM (Option.some.inj h) rfl dX3_byteAt_30
  · replace h := (if_neg c1).symm.trans h
    refine lv_iload_n hx hb dX3_byteAt_4 rfl (lv_at hl 1 rfl) ?_
    refine lv_aload_n hx hb dX3_byteAt_5 rfl (lv_at hl 0 rfl) ?_
    refine m_get hx hb hts hown hKv hM (fun _ h => List.mem_cons_of_mem _ (List.mem_append_right _ (h))) (by decide) at_X3 rfl 1 (by decide) k0 (v := .int (M.1 1 1)) rfl dX3_byteAt_6 ?_
    refine lv_icmp_ge (tgt := 28) hx hb dX3_byteAt_9 (by decide) (fun c2 => ?_) (fun c2 => ?_)
    · replace h := (if_pos c2).symm.trans h
      refine lv_bipush (v := (-9 : Int32)) hx hb dX3_byteAt_28 (by decide) ?_
      exact m_iret hx hb hr hlocks hM (Option.some.inj h) rfl dX3_byteAt_30
    · replace h := (if_neg c2).symm.trans h
      refine lv_iload_n hx hb dX3_byteAt_12 rfl (lv_at hl 1 rfl) ?_
      refine lv_sipush (v := (300 : Int32)) hx hb dX3_byteAt_13 (by decide) ?_
      refine lv_icmp_ge (tgt := 28) hx hb dX3_byteAt_16 (by decide) (fun c3 => ?_) (fun c3 => ?_)
      · replace h := (if_pos c3).symm.trans h
        refine lv_bipush (v := (-9 : Int32)) hx hb dX3_byteAt_28 (by decide) ?_
        exact m_iret hx hb hr hlocks hM (Option.some.inj h) rfl dX3_byteAt_30
      · replace h := (if_neg c3).symm.trans h
        refine lv_aload_n hx hb dX3_byteAt_19 rfl (lv_at hl 0 rfl) ?_
        refine m_get hx hb hts hown hKv hM (fun _ h => List.mem_cons_of_mem _ (List.mem_append_right _ (h))) (by decide) at_X3 rfl 0 (by decide) k1 (v := .ref (ad 2)) rfl dX3_byteAt_20 ?_
        refine lv_iload_n hx hb dX3_byteAt_23 rfl (lv_at hl 1 rfl) ?_
        obtain ⟨x4, hx4, h⟩ := Option.bind_eq_some_iff.mp h
        refine m_iald hx hb hKv hM (by decide) at_X3_1 0 rfl hx4 dX3_byteAt_24 ?_
        refine lv_goto (tgt := 30) hx hb dX3_byteAt_25 (by decide) ?_
        exact m_iret hx hb hr hlocks hM (Option.some.inj h) rfl dX3_byteAt_30
set_option maxHeartbeats 4000000 in
set_option maxRecDepth 100000 in
theorem kX3_isLetter (l : Launch) (D : va_G) (cI : ClassId) (ad : Nat → Nat) {X : State → Prop} {aS : Nat → Nat} (hX0 : cX D ad aS X) (a0 : Int32) (M : Mem) (res : Int32) (h : fX3_isLetter a0 = some res) : mC l yX3_isLetter wsX3_isLetter { frames := 0, cells := 0, slots := 0, locals := 0 } D [(cI, .int)] ad 40 X [.int a0] (Ec ad cI M) (some (.int res)) (Ec ad cI M) := by
  refine m_ofW (cc := cX3_isLetter) (maxL := 1) (ret := (some .boolean)) (by decide) rfl (Nat.le_of_ble_eq_true rfl) ?_
  intro p e s m args below meth c hx hb hml hr hlocks hts hown hKv hXs ls hl hM
  have hXk := hX0.1
  have Z : mZ p s m args meth c cX3_isLetter 1 (some .boolean) wsX3_isLetter RX3 D [(cI, .int)] X := ⟨hx, hb, hml, hr, hlocks, hts, hown, hKv, hXs⟩
  replace hown : s.vm.findClass RX3 = some m.cls := hown
  have hl : lv_has ls 1 [(0, .int a0)] := hl
  unfold fX3_isLetter at h
  refine lv_iload_n hx hb dX3_isLetter_0 rfl (lv_at hl 0 rfl) ?_
  refine lv_bipush (v := (97 : Int32)) hx hb dX3_isLetter_1 (by decide) ?_
  refine lv_icmp_lt (tgt := 16) hx hb dX3_isLetter_3 (by decide) (fun c1 => ?_) (fun c1 => ?_)
  · replace h := (if_pos c1).symm.trans h
    refine lv_iconst (v := (0 : Int32)) hx hb dX3_isLetter_16 (by decide) ?_
    exact m_zret hx hb hr hlocks hM (Option.some.inj h) rfl rfl dX3_isLetter_17
  · replace h := (if_neg c1).symm.trans h
    refine lv_iload_n hx hb dX3_isLetter_6 rfl (lv_at hl 0 rfl) ?_
    refine lv_bipush (v := (122 : Int32)) hx hb dX3_isLetter_7 (by decide) ?_
    refine lv_icmp_gt (tgt := 16) hx hb dX3_isLetter_9 (by decide) (fun c2 => ?_) (fun c2 => ?_)
    · replace h := (if_pos c2).symm.trans h
      refine lv_iconst (v := (0 : Int32)) hx hb dX3_isLetter_16 (by decide) ?_
      exact m_zret hx hb hr hlocks hM (Option.some.inj h) rfl rfl dX3_isLetter_17
    · replace h := (if_neg c2).symm.trans h
      refine lv_iconst (v := (1 : Int32)) hx hb dX3_isLetter_12 (by decide) ?_
      refine lv_goto (tgt := 17) hx hb dX3_isLetter_13 (by decide) ?_
      exact m_zret hx hb hr hlocks hM (Option.some.inj h) rfl rfl dX3_isLetter_17
set_option maxHeartbeats 4000000 in
set_option maxRecDepth 100000 in
theorem wX3_isWord_20 {p : Program} {l : Launch} {e : Env} {s : State} {m : MethodId} {args : Array Value} {below : List Frame} {meth : Method} {c : Code} {D : va_G} {cI : ClassId} {ad : Nat → Nat} {X : State → Prop} (Z : mZ p s m args meth c cX3_isWord 3 (some .boolean) wsX3_isWord RX3 D [(cI, .int)] X) {aS : Nat → Nat} (hX0 : cX D ad aS X) (i1 : Nat) (pi1 : i1 < 3)   (M : Mem) {K : Option Int32} (res : Int32) (hKc : K = some res → ∀ (H : Heap) (locs : List Loc) (ls : Array Slot), lv_has ls 3 [] → mH D ad 40 (Ec ad cI M) s.heap H locs → W p l e { frames := 6, cells := 0, slots := 0, locals := 160 } s m args below meth c H locs 0 0 (MQ below (mQ D ad 40 (some (.int res)) (Ec ad cI M)) args s 0 0 (mA ad 40)) (F0 m 54 ls [])) :
    ∀ (n : Nat) (v2 : Int32), fX3_isWord_20 i1 M K n v2 = some res → ∀ (H : Heap) (locs : List Loc) (ls : Array Slot), lv_has ls 3 [(0, .ref (ad 1)), (1, .ref (aS i1)), (2, .int v2)] → mH D ad 40 (Ec ad cI M) s.heap H locs → W p l e { frames := 6, cells := 0, slots := 0, locals := 160 } s m args below meth c H locs 0 0 (MQ below (mQ D ad 40 (some (.int res)) (Ec ad cI M)) args s 0 0 (mA ad 40)) (F0 m 20 ls []) := by
  obtain ⟨hx, hb, hml, hr, hlocks, hts, hown, hKv, hXs⟩ := id Z
  have hXk := hX0.1
  have k0 := hts (Cond.fieldLink RX3 25 "NoonWalker$Reader" "begin" "I") (List.mem_of_getElem? (i := 2) rfl)
  intro n
  induction n with
  | zero => intro _ h; exact absurd h (by unfold fX3_isWord_20; exact fun h => by cases h)
  | succ n ih =>
    intro v2 h H locs ls hl hM
    rw [fX3_isWord_20] at h
    refine lv_iload_n hx hb dX3_isWord_20 rfl (lv_at hl 2 rfl) ?_
    refine lv_aload_n hx hb dX3_isWord_21 rfl (lv_at hl 1 rfl) ?_
    obtain ⟨x1, hx1, h⟩ := Option.bind_eq_some_iff.mp h
    refine m_str_length l hx hb (hml.trans hl.1.symm) hown hts hKv hXs hX0 hM pi1 (Option.some.inj hx1) (cwV 0 hts gX3_isWord_J0_length_8abf5 rfl rfl rfl (by decide +kernel) ⟨Nat.le_of_ble_eq_true rfl, Nat.le_of_ble_eq_true rfl⟩) (st1 := [.int x1, .int v2]) rfl rfl (Nat.le_of_ble_eq_true rfl) dX3_isWord_22 ⟨Nat.zero_le _, Nat.zero_le _⟩ (fun H locs hM => ?_)
    refine lv_icmp_ge (tgt := 54) hx hb dX3_isWord_25 (by decide) (fun c2 => ?_) (fun c2 => ?_)
    · replace h := (if_pos c2).symm.trans h
      exact hKc  h _ _ _ (lv_sub hl [] rfl) hM
    · replace h := (if_neg c2).symm.trans h
      refine lv_aload_n hx hb dX3_isWord_28 rfl (lv_at hl 0 rfl) ?_
      refine lv_aload_n hx hb dX3_isWord_29 rfl (lv_at hl 0 rfl) ?_
      refine m_get hx hb hts hown hKv hM (fun _ h => List.mem_cons_of_mem _ (List.mem_append_right _ (h))) (by decide) at_X3 rfl 4 (by decide) k0 (v := .int (M.1 1 4)) rfl dX3_isWord_30 ?_
      refine lv_iload_n hx hb dX3_isWord_33 rfl (lv_at hl 2 rfl) ?_
      refine lv_iadd hx hb dX3_isWord_34 ?_
      obtain ⟨x3, hx3, h⟩ := Option.bind_eq_some_iff.mp h
      refine m_callV (As := [.int ((M.1 1 4) + v2)]) (st1 := [.int x3]) hx hb (hml.trans hl.1.symm) hown hts hKv hXs hXk hM (kX3_byteAt l D cI ad hX0 ((M.1 1 4) + v2) M _ hx3) (cwV 1 hts gX3_isWord_X3_byteAt rfl rfl rfl (by decide +kernel) ⟨Nat.le_of_ble_eq_true rfl, Nat.le_of_ble_eq_true rfl⟩) (by decide) at_X3 rfl rfl rfl rfl (Nat.le_of_ble_eq_true rfl) dX3_isWord_35 ⟨Nat.zero_le _, Nat.zero_le _⟩ (fun H locs hM => ?_)
      refine lv_aload_n hx hb dX3_isWord_38 rfl (lv_at hl 1 rfl) ?_
      refine lv_iload_n hx hb dX3_isWord_39 rfl (lv_at hl 2 rfl) ?_
      obtain ⟨x4, hx4, h⟩ := Option.bind_eq_some_iff.mp h
      refine m_str_charAt l hx hb (hml.trans hl.1.symm) hown hts hKv hXs hX0 hM pi1 hx4 (cwV 1 hts gX3_isWord_J0_charAt_5068e rfl rfl rfl (by decide +kernel) ⟨Nat.le_of_ble_eq_true rfl, Nat.le_of_ble_eq_true rfl⟩) (st1 := [.int x4, .int x3]) rfl rfl (Nat.le_of_ble_eq_true rfl) dX3_isWord_40 ⟨Nat.zero_le _, Nat.zero_le _⟩ (fun H locs hM => ?_)
      refine lv_icmp_eq (tgt := 48) hx hb dX3_isWord_43 (by decide) (fun c5 => ?_) (fun c5 => ?_)
      · replace h := (if_pos c5).symm.trans h
        refine lv_iinc (v := (v2 + 1)) (lv' := [(2, .int (v2 + 1)), (0, .ref (ad 1)), (1, .ref (aS i1))]) hx hb dX3_isWord_48 hl (k := 2) rfl rfl (by decide) rfl (fun ls hl => ?_)
        refine lv_goto (tgt := 20) hx hb dX3_isWord_51 (by decide) ?_
        exact ih _ h _ _ _ (lv_sub hl [1, 2, 0] rfl) hM
      · replace h := (if_neg c5).symm.trans h
        refine lv_iconst (v := (0 : Int32)) hx hb dX3_isWord_46 (by decide) ?_
        exact m_zret hx hb hr hlocks hM (Option.some.inj h) rfl rfl dX3_isWord_47
set_option maxHeartbeats 4000000 in
set_option maxRecDepth 100000 in
theorem kX3_isWord (l : Launch) (D : va_G) (cI : ClassId) (ad : Nat → Nat) {X : State → Prop} {aS : Nat → Nat} (hX0 : cX D ad aS X) (i1 : Nat) (pi1 : i1 < 3) (M : Mem) (res : Int32) (h : fX3_isWord i1 M = some res) : mC l yX3_isWord wsX3_isWord { frames := 6, cells := 0, slots := 0, locals := 160 } D [(cI, .int)] ad 40 X [.ref (ad 1), .ref (aS i1)] (Ec ad cI M) (some (.int res)) (Ec ad cI M) := by
  refine m_ofW (cc := cX3_isWord) (maxL := 3) (ret := (some .boolean)) (by decide) rfl (Nat.le_of_ble_eq_true rfl) ?_
  intro p e s m args below meth c hx hb hml hr hlocks hts hown hKv hXs ls hl hM
  have hXk := hX0.1
  have Z : mZ p s m args meth c cX3_isWord 3 (some .boolean) wsX3_isWord RX3 D [(cI, .int)] X := ⟨hx, hb, hml, hr, hlocks, hts, hown, hKv, hXs⟩
  replace hown : s.vm.findClass RX3 = some m.cls := hown
  have hl : lv_has ls 3 [(0, .ref (ad 1)), (1, .ref (aS i1))] := hl
  have k0 := hts (Cond.fieldLink RX3 28 "NoonWalker$Reader" "end" "I") (List.mem_of_getElem? (i := 1) rfl)
  have k1 := hts (Cond.fieldLink RX3 25 "NoonWalker$Reader" "begin" "I") (List.mem_of_getElem? (i := 2) rfl)
  unfold fX3_isWord at h
  refine lv_aload_n hx hb dX3_isWord_0 rfl (lv_at hl 0 rfl) ?_
  refine m_get hx hb hts hown hKv hM (fun _ h => List.mem_cons_of_mem _ (List.mem_append_right _ (h))) (by decide) at_X3 rfl 5 (by decide) k0 (v := .int (M.1 1 5)) rfl dX3_isWord_1 ?_
  refine lv_aload_n hx hb dX3_isWord_4 rfl (lv_at hl 0 rfl) ?_
  refine m_get hx hb hts hown hKv hM (fun _ h => List.mem_cons_of_mem _ (List.mem_append_right _ (h))) (by decide) at_X3 rfl 4 (by decide) k1 (v := .int (M.1 1 4)) rfl dX3_isWord_5 ?_
  refine lv_isub hx hb dX3_isWord_8 ?_
  refine lv_aload_n hx hb dX3_isWord_9 rfl (lv_at hl 1 rfl) ?_
  obtain ⟨x1, hx1, h⟩ := Option.bind_eq_some_iff.mp h
  refine m_str_length l hx hb (hml.trans hl.1.symm) hown hts hKv hXs hX0 hM pi1 (Option.some.inj hx1) (cwV 0 hts gX3_isWord_J0_length_8abf5 rfl rfl rfl (by decide +kernel) ⟨Nat.le_of_ble_eq_true rfl, Nat.le_of_ble_eq_true rfl⟩) (st1 := [.int x1, .int ((M.1 1 5) - (M.1 1 4))]) rfl rfl (Nat.le_of_ble_eq_true rfl) dX3_isWord_10 ⟨Nat.zero_le _, Nat.zero_le _⟩ (fun H locs hM => ?_)
  refine lv_icmp_eq (tgt := 18) hx hb dX3_isWord_13 (by decide) (fun c2 => ?_) (fun c2 => ?_)
  · replace h := (if_pos c2).symm.trans h
    refine lv_iconst (v := (0 : Int32)) hx hb dX3_isWord_18 (by decide) ?_
    refine lv_istore_n (lv' := [(2, .int (0 : Int32)), (0, .ref (ad 1)), (1, .ref (aS i1))]) hx hb dX3_isWord_19 rfl hl (by decide) rfl (fun ls hl => ?_)
    refine wX3_isWord_20 Z hX0 i1 pi1 M _ (fun  h H locs ls hl hM => ?_) _ _ h _ _ _ (lv_sub hl [1, 2, 0] rfl) hM
    refine lv_iconst (v := (1 : Int32)) hx hb dX3_isWord_54 (by decide) ?_
    exact m_zret hx hb hr hlocks hM (Option.some.inj h) rfl rfl dX3_isWord_55
  · replace h := (if_neg c2).symm.trans h
    refine lv_iconst (v := (0 : Int32)) hx hb dX3_isWord_16 (by decide) ?_
    exact m_zret hx hb hr hlocks hM (Option.some.inj h) rfl rfl dX3_isWord_17
set_option maxHeartbeats 4000000 in
set_option maxRecDepth 100000 in
theorem kX3_kindOfWord (l : Launch) (D : va_G) (cI : ClassId) (ad : Nat → Nat) {X : State → Prop} {aS : Nat → Nat} (hX0 : cX D ad aS X)  (M : Mem) (res : Int32) (h : fX3_kindOfWord M = some res) : mC l yX3_kindOfWord wsX3_kindOfWord { frames := 7, cells := 0, slots := 0, locals := 182 } D [(cI, .int)] ad 40 X [.ref (ad 1)] (Ec ad cI M) (some (.int res)) (Ec ad cI M) := by
  refine m_ofW (cc := cX3_kindOfWord) (maxL := 1) (ret := (some .int)) (by decide) rfl (Nat.le_of_ble_eq_true rfl) ?_
  intro p e s m args below meth c hx hb hml hr hlocks hts hown hKv hXs ls hl hM
  have hXk := hX0.1
  have Z : mZ p s m args meth c cX3_kindOfWord 1 (some .int) wsX3_kindOfWord RX3 D [(cI, .int)] X := ⟨hx, hb, hml, hr, hlocks, hts, hown, hKv, hXs⟩
  replace hown : s.vm.findClass RX3 = some m.cls := hown
  have hl : lv_has ls 1 [(0, .ref (ad 1))] := hl
  unfold fX3_kindOfWord at h
  refine lv_aload_n hx hb dX3_kindOfWord_0 rfl (lv_at hl 0 rfl) ?_
  refine va_ldcS hx hb hown (sX_R0 (hX0.2.2 s hXs)) dX3_kindOfWord_1 ?_
  obtain ⟨x1, hx1, h⟩ := Option.bind_eq_some_iff.mp h
  refine m_callV (As := [.ref (aS 0)]) (st1 := [.int x1]) hx hb (hml.trans hl.1.symm) hown hts hKv hXs hXk hM (kX3_isWord l D cI ad hX0 0 (by decide) M _ hx1) (cwV 1 hts gX3_kindOfWord_X3_isWord rfl rfl rfl (by decide +kernel) ⟨Nat.le_of_ble_eq_true rfl, Nat.le_of_ble_eq_true rfl⟩) (by decide) at_X3 rfl rfl rfl rfl (Nat.le_of_ble_eq_true rfl) dX3_kindOfWord_3 ⟨Nat.zero_le _, Nat.zero_le _⟩ (fun H locs hM => ?_)
  refine lv_if_eq (tgt := 11) hx hb dX3_kindOfWord_6 (by decide) (fun c2 => ?_) (fun c2 => ?_)
  · replace h := (if_pos c2).symm.trans h
    refine lv_aload_n hx hb dX3_kindOfWord_11 rfl (lv_at hl 0 rfl) ?_
    refine va_ldcS hx hb hown (sX_R1 (hX0.2.2 s hXs)) dX3_kindOfWord_12 ?_
    obtain ⟨x3, hx3, h⟩ := Option.bind_eq_some_iff.mp h
    refine m_callV (As := [.ref (aS 1)]) (st1 := [.int x3]) hx hb (hml.trans hl.1.symm) hown hts hKv hXs hXk hM (kX3_isWord l D cI ad hX0 1 (by decide) M _ hx3) (cwV 1 hts gX3_kindOfWord_X3_isWord rfl rfl rfl (by decide +kernel) ⟨Nat.le_of_ble_eq_true rfl, Nat.le_of_ble_eq_true rfl⟩) (by decide) at_X3 rfl rfl rfl rfl (Nat.le_of_ble_eq_true rfl) dX3_kindOfWord_14 ⟨Nat.zero_le _, Nat.zero_le _⟩ (fun H locs hM => ?_)
    refine lv_if_eq (tgt := 22) hx hb dX3_kindOfWord_17 (by decide) (fun c4 => ?_) (fun c4 => ?_)
    · replace h := (if_pos c4).symm.trans h
      refine lv_aload_n hx hb dX3_kindOfWord_22 rfl (lv_at hl 0 rfl) ?_
      refine va_ldcS hx hb hown (sX_R2 (hX0.2.2 s hXs)) dX3_kindOfWord_23 ?_
      obtain ⟨x5, hx5, h⟩ := Option.bind_eq_some_iff.mp h
      refine m_callV (As := [.ref (aS 2)]) (st1 := [.int x5]) hx hb (hml.trans hl.1.symm) hown hts hKv hXs hXk hM (kX3_isWord l D cI ad hX0 2 (by decide) M _ hx5) (cwV 1 hts gX3_kindOfWord_X3_isWord rfl rfl rfl (by decide +kernel) ⟨Nat.le_of_ble_eq_true rfl, Nat.le_of_ble_eq_true rfl⟩) (by decide) at_X3 rfl rfl rfl rfl (Nat.le_of_ble_eq_true rfl) dX3_kindOfWord_25 ⟨Nat.zero_le _, Nat.zero_le _⟩ (fun H locs hM => ?_)
      refine lv_if_eq (tgt := 33) hx hb dX3_kindOfWord_28 (by decide) (fun c6 => ?_) (fun c6 => ?_)
      · replace h := (if_pos c6).symm.trans h
        refine lv_bipush (v := (6 : Int32)) hx hb dX3_kindOfWord_33 (by decide) ?_
        exact m_iret hx hb hr hlocks hM (Option.some.inj h) rfl dX3_kindOfWord_35
      · replace h := (if_neg c6).symm.trans h
        refine lv_iconst (v := (3 : Int32)) hx hb dX3_kindOfWord_31 (by decide) ?_
        exact m_iret hx hb hr hlocks hM (Option.some.inj h) rfl dX3_kindOfWord_32
    · replace h := (if_neg c4).symm.trans h
      refine lv_iconst (v := (2 : Int32)) hx hb dX3_kindOfWord_20 (by decide) ?_
      exact m_iret hx hb hr hlocks hM (Option.some.inj h) rfl dX3_kindOfWord_21
  · replace h := (if_neg c2).symm.trans h
    refine lv_iconst (v := (1 : Int32)) hx hb dX3_kindOfWord_9 (by decide) ?_
    exact m_iret hx hb hr hlocks hM (Option.some.inj h) rfl dX3_kindOfWord_10
set_option maxHeartbeats 4000000 in
set_option maxRecDepth 100000 in
theorem kX3_isDigit (l : Launch) (D : va_G) (cI : ClassId) (ad : Nat → Nat) {X : State → Prop} {aS : Nat → Nat} (hX0 : cX D ad aS X) (a0 : Int32) (M : Mem) (res : Int32) (h : fX3_isDigit a0 = some res) : mC l yX3_isDigit wsX3_isDigit { frames := 0, cells := 0, slots := 0, locals := 0 } D [(cI, .int)] ad 40 X [.int a0] (Ec ad cI M) (some (.int res)) (Ec ad cI M) := by
  refine m_ofW (cc := cX3_isDigit) (maxL := 1) (ret := (some .boolean)) (by decide) rfl (Nat.le_of_ble_eq_true rfl) ?_
  intro p e s m args below meth c hx hb hml hr hlocks hts hown hKv hXs ls hl hM
  have hXk := hX0.1
  have Z : mZ p s m args meth c cX3_isDigit 1 (some .boolean) wsX3_isDigit RX3 D [(cI, .int)] X := ⟨hx, hb, hml, hr, hlocks, hts, hown, hKv, hXs⟩
  replace hown : s.vm.findClass RX3 = some m.cls := hown
  have hl : lv_has ls 1 [(0, .int a0)] := hl
  unfold fX3_isDigit at h
  refine lv_iload_n hx hb dX3_isDigit_0 rfl (lv_at hl 0 rfl) ?_
  refine lv_bipush (v := (48 : Int32)) hx hb dX3_isDigit_1 (by decide) ?_
  refine lv_icmp_lt (tgt := 16) hx hb dX3_isDigit_3 (by decide) (fun c1 => ?_) (fun c1 => ?_)
  · replace h := (if_pos c1).symm.trans h
    refine lv_iconst (v := (0 : Int32)) hx hb dX3_isDigit_16 (by decide) ?_
    exact m_zret hx hb hr hlocks hM (Option.some.inj h) rfl rfl dX3_isDigit_17
  · replace h := (if_neg c1).symm.trans h
    refine lv_iload_n hx hb dX3_isDigit_6 rfl (lv_at hl 0 rfl) ?_
    refine lv_bipush (v := (57 : Int32)) hx hb dX3_isDigit_7 (by decide) ?_
    refine lv_icmp_gt (tgt := 16) hx hb dX3_isDigit_9 (by decide) (fun c2 => ?_) (fun c2 => ?_)
    · replace h := (if_pos c2).symm.trans h
      refine lv_iconst (v := (0 : Int32)) hx hb dX3_isDigit_16 (by decide) ?_
      exact m_zret hx hb hr hlocks hM (Option.some.inj h) rfl rfl dX3_isDigit_17
    · replace h := (if_neg c2).symm.trans h
      refine lv_iconst (v := (1 : Int32)) hx hb dX3_isDigit_12 (by decide) ?_
      refine lv_goto (tgt := 17) hx hb dX3_isDigit_13 (by decide) ?_
      exact m_zret hx hb hr hlocks hM (Option.some.inj h) rfl rfl dX3_isDigit_17
set_option maxHeartbeats 4000000 in
set_option maxRecDepth 100000 in
theorem kX3_numberOfDigits (l : Launch) (D : va_G) (cI : ClassId) (ad : Nat → Nat) {X : State → Prop} {aS : Nat → Nat} (hX0 : cX D ad aS X)  (M : Mem) (res : Int32) (h : fX3_numberOfDigits M = some res) : mC l yX3_numberOfDigits wsX3_numberOfDigits { frames := 1, cells := 0, slots := 0, locals := 21 } D [(cI, .int)] ad 40 X [.ref (ad 1)] (Ec ad cI M) (some (.int res)) (Ec ad cI M) := by
  refine m_ofW (cc := cX3_numberOfDigits) (maxL := 2) (ret := (some .int)) (by decide) rfl (Nat.le_of_ble_eq_true rfl) ?_
  intro p e s m args below meth c hx hb hml hr hlocks hts hown hKv hXs ls hl hM
  have hXk := hX0.1
  have Z : mZ p s m args meth c cX3_numberOfDigits 2 (some .int) wsX3_numberOfDigits RX3 D [(cI, .int)] X := ⟨hx, hb, hml, hr, hlocks, hts, hown, hKv, hXs⟩
  replace hown : s.vm.findClass RX3 = some m.cls := hown
  have hl : lv_has ls 2 [(0, .ref (ad 1))] := hl
  have k0 := hts (Cond.fieldLink RX3 28 "NoonWalker$Reader" "end" "I") (List.mem_of_getElem? (i := 1) rfl)
  have k1 := hts (Cond.fieldLink RX3 25 "NoonWalker$Reader" "begin" "I") (List.mem_of_getElem? (i := 2) rfl)
  unfold fX3_numberOfDigits at h
  refine lv_aload_n hx hb dX3_numberOfDigits_0 rfl (lv_at hl 0 rfl) ?_
  refine m_get hx hb hts hown hKv hM (fun _ h => List.mem_cons_of_mem _ (List.mem_append_right _ (h))) (by decide) at_X3 rfl 5 (by decide) k0 (v := .int (M.1 1 5)) rfl dX3_numberOfDigits_1 ?_
  refine lv_aload_n hx hb dX3_numberOfDigits_4 rfl (lv_at hl 0 rfl) ?_
  refine m_get hx hb hts hown hKv hM (fun _ h => List.mem_cons_of_mem _ (List.mem_append_right _ (h))) (by decide) at_X3 rfl 4 (by decide) k1 (v := .int (M.1 1 4)) rfl dX3_numberOfDigits_5 ?_
  refine lv_isub hx hb dX3_numberOfDigits_8 ?_
  refine lv_istore_n (lv' := [(1, .int ((M.1 1 5) - (M.1 1 4))), (0, .ref (ad 1))]) hx hb dX3_numberOfDigits_9 rfl hl (by decide) rfl (fun ls hl => ?_)
  refine lv_iload_n hx hb dX3_numberOfDigits_10 rfl (lv_at hl 0 rfl) ?_
  refine lv_iconst (v := (1 : Int32)) hx hb dX3_numberOfDigits_11 (by decide) ?_
  refine lv_icmp_ne (tgt := 27) hx hb dX3_numberOfDigits_12 (by decide) (fun c1 => ?_) (fun c1 => ?_)
  · replace h := (if_neg c1).symm.trans h
    refine lv_iload_n hx hb dX3_numberOfDigits_27 rfl (lv_at hl 0 rfl) ?_
    refine lv_iconst (v := (2 : Int32)) hx hb dX3_numberOfDigits_28 (by decide) ?_
    refine lv_icmp_ne (tgt := 45) hx hb dX3_numberOfDigits_29 (by decide) (fun c2 => ?_) (fun c2 => ?_)
    · replace h := (if_neg c2).symm.trans h
      refine lv_bipush (v := (-9 : Int32)) hx hb dX3_numberOfDigits_45 (by decide) ?_
      exact m_iret hx hb hr hlocks hM (Option.some.inj h) rfl dX3_numberOfDigits_47
    · replace h := (if_pos c2).symm.trans h
      refine lv_aload_n hx hb dX3_numberOfDigits_32 rfl (lv_at hl 1 rfl) ?_
      refine lv_aload_n hx hb dX3_numberOfDigits_33 rfl (lv_at hl 1 rfl) ?_
      refine m_get hx hb hts hown hKv hM (fun _ h => List.mem_cons_of_mem _ (List.mem_append_right _ (h))) (by decide) at_X3 rfl 4 (by decide) k1 (v := .int (M.1 1 4)) rfl dX3_numberOfDigits_34 ?_
      obtain ⟨x3, hx3, h⟩ := Option.bind_eq_some_iff.mp h
      refine m_callV (As := [.int (M.1 1 4)]) (st1 := [.int x3]) hx hb (hml.trans hl.1.symm) hown hts hKv hXs hXk hM (kX3_byteAt l D cI ad hX0 (M.1 1 4) M _ hx3) (cwV 1 hts gX3_numberOfDigits_X3_byteAt rfl rfl rfl (by decide +kernel) ⟨Nat.le_of_ble_eq_true rfl, Nat.le_of_ble_eq_true rfl⟩) (by decide) at_X3 rfl rfl rfl rfl (Nat.le_of_ble_eq_true rfl) dX3_numberOfDigits_37 ⟨Nat.zero_le _, Nat.zero_le _⟩ (fun H locs hM => ?_)
      refine lv_bipush (v := (48 : Int32)) hx hb dX3_numberOfDigits_40 (by decide) ?_
      refine lv_icmp_ne (tgt := 48) hx hb dX3_numberOfDigits_42 (by decide) (fun c4 => ?_) (fun c4 => ?_)
      · replace h := (if_neg c4).symm.trans h
        refine lv_bipush (v := (10 : Int32)) hx hb dX3_numberOfDigits_48 (by decide) ?_
        refine lv_aload_n hx hb dX3_numberOfDigits_50 rfl (lv_at hl 1 rfl) ?_
        refine lv_aload_n hx hb dX3_numberOfDigits_51 rfl (lv_at hl 1 rfl) ?_
        refine m_get hx hb hts hown hKv hM (fun _ h => List.mem_cons_of_mem _ (List.mem_append_right _ (h))) (by decide) at_X3 rfl 4 (by decide) k1 (v := .int (M.1 1 4)) rfl dX3_numberOfDigits_52 ?_
        obtain ⟨x5, hx5, h⟩ := Option.bind_eq_some_iff.mp h
        refine m_callV (As := [.int (M.1 1 4)]) (st1 := [.int x5, .int (10 : Int32)]) hx hb (hml.trans hl.1.symm) hown hts hKv hXs hXk hM (kX3_byteAt l D cI ad hX0 (M.1 1 4) M _ hx5) (cwV 1 hts gX3_numberOfDigits_X3_byteAt rfl rfl rfl (by decide +kernel) ⟨Nat.le_of_ble_eq_true rfl, Nat.le_of_ble_eq_true rfl⟩) (by decide) at_X3 rfl rfl rfl rfl (Nat.le_of_ble_eq_true rfl) dX3_numberOfDigits_55 ⟨Nat.zero_le _, Nat.zero_le _⟩ (fun H locs hM => ?_)
        refine lv_bipush (v := (48 : Int32)) hx hb dX3_numberOfDigits_58 (by decide) ?_
        refine lv_isub hx hb dX3_numberOfDigits_60 ?_
        refine lv_imul hx hb dX3_numberOfDigits_61 ?_
        refine lv_aload_n hx hb dX3_numberOfDigits_62 rfl (lv_at hl 1 rfl) ?_
        refine lv_aload_n hx hb dX3_numberOfDigits_63 rfl (lv_at hl 1 rfl) ?_
        refine m_get hx hb hts hown hKv hM (fun _ h => List.mem_cons_of_mem _ (List.mem_append_right _ (h))) (by decide) at_X3 rfl 4 (by decide) k1 (v := .int (M.1 1 4)) rfl dX3_numberOfDigits_64 ?_
        refine lv_iconst (v := (1 : Int32)) hx hb dX3_numberOfDigits_67 (by decide) ?_
        refine lv_iadd hx hb dX3_numberOfDigits_68 ?_
        obtain ⟨x6, hx6, h⟩ := Option.bind_eq_some_iff.mp h
        refine m_callV (As := [.int ((M.1 1 4) + (1 : Int32))]) (st1 := [.int x6, .int ((10 : Int32) * (x5 - (48 : Int32)))]) hx hb (hml.trans hl.1.symm) hown hts hKv hXs hXk hM (kX3_byteAt l D cI ad hX0 ((M.1 1 4) + (1 : Int32)) M _ hx6) (cwV 1 hts gX3_numberOfDigits_X3_byteAt rfl rfl rfl (by decide +kernel) ⟨Nat.le_of_ble_eq_true rfl, Nat.le_of_ble_eq_true rfl⟩) (by decide) at_X3 rfl rfl rfl rfl (Nat.le_of_ble_eq_true rfl) dX3_numberOfDigits_69 ⟨Nat.zero_le _, Nat.zero_le _⟩ (fun H locs hM => ?_)
        refine lv_iadd hx hb dX3_numberOfDigits_72 ?_
        refine lv_bipush (v := (48 : Int32)) hx hb dX3_numberOfDigits_73 (by decide) ?_
        refine lv_isub hx hb dX3_numberOfDigits_75 ?_
        exact m_iret hx hb hr hlocks hM (Option.some.inj h) rfl dX3_numberOfDigits_76
      · replace h := (if_pos c4).symm.trans h
        refine lv_bipush (v := (-9 : Int32)) hx hb dX3_numberOfDigits_45 (by decide) ?_
        exact m_iret hx hb hr hlocks hM (Option.some.inj h) rfl dX3_numberOfDigits_47
  · replace h := (if_pos c1).symm.trans h
    refine lv_aload_n hx hb dX3_numberOfDigits_15 rfl (lv_at hl 1 rfl) ?_
    refine lv_aload_n hx hb dX3_numberOfDigits_16 rfl (lv_at hl 1 rfl) ?_
    refine m_get hx hb hts hown hKv hM (fun _ h => List.mem_cons_of_mem _ (List.mem_append_right _ (h))) (by decide) at_X3 rfl 4 (by decide) k1 (v := .int (M.1 1 4)) rfl dX3_numberOfDigits_17 ?_
    obtain ⟨x7, hx7, h⟩ := Option.bind_eq_some_iff.mp h
    refine m_callV (As := [.int (M.1 1 4)]) (st1 := [.int x7]) hx hb (hml.trans hl.1.symm) hown hts hKv hXs hXk hM (kX3_byteAt l D cI ad hX0 (M.1 1 4) M _ hx7) (cwV 1 hts gX3_numberOfDigits_X3_byteAt rfl rfl rfl (by decide +kernel) ⟨Nat.le_of_ble_eq_true rfl, Nat.le_of_ble_eq_true rfl⟩) (by decide) at_X3 rfl rfl rfl rfl (Nat.le_of_ble_eq_true rfl) dX3_numberOfDigits_20 ⟨Nat.zero_le _, Nat.zero_le _⟩ (fun H locs hM => ?_)
    refine lv_bipush (v := (48 : Int32)) hx hb dX3_numberOfDigits_23 (by decide) ?_
    refine lv_isub hx hb dX3_numberOfDigits_25 ?_
    exact m_iret hx hb hr hlocks hM (Option.some.inj h) rfl dX3_numberOfDigits_26
set_option maxHeartbeats 4000000 in
set_option maxRecDepth 100000 in
theorem wX3_next_8 {p : Program} {l : Launch} {e : Env} {s : State} {m : MethodId} {args : Array Value} {below : List Frame} {meth : Method} {c : Code} {D : va_G} {cI : ClassId} {ad : Nat → Nat} {X : State → Prop} (Z : mZ p s m args meth c cX3_next 1 none wsX3_next RX3 D [(cI, .int)] X) {aS : Nat → Nat} (hX0 : cX D ad aS X)     {K : Mem → Option Mem} (res : Mem) (hKc : ∀  (M1 : Mem), K  M1 = some res → ∀ (H : Heap) (locs : List Loc) (ls : Array Slot), lv_has ls 1 [(0, .ref (ad 1))] → mH D ad 40 (Ec ad cI M1) s.heap H locs → W p l e { frames := 8, cells := 0, slots := 0, locals := 202 } s m args below meth c H locs 0 0 (MQ below (mQ D ad 40 none (Ec ad cI res)) args s 0 0 (mA ad 40)) (F0 m 45 ls [])) :
    ∀ (n : Nat) (M : Mem), fX3_next_8 K n M = some res → ∀ (H : Heap) (locs : List Loc) (ls : Array Slot), lv_has ls 1 [(0, .ref (ad 1))] → mH D ad 40 (Ec ad cI M) s.heap H locs → W p l e { frames := 8, cells := 0, slots := 0, locals := 202 } s m args below meth c H locs 0 0 (MQ below (mQ D ad 40 none (Ec ad cI res)) args s 0 0 (mA ad 40)) (F0 m 8 ls []) := by
  obtain ⟨hx, hb, hml, hr, hlocks, hts, hown, hKv, hXs⟩ := id Z
  have hXk := hX0.1
  have k0 := hts (Cond.fieldLink RX3 25 "NoonWalker$Reader" "begin" "I") (List.mem_of_getElem? (i := 2) rfl)
  have k1 := hts (Cond.fieldLink RX3 15 "NoonWalker$Reader" "length" "I") (List.mem_of_getElem? (i := 3) rfl)
  intro n
  induction n with
  | zero => intro _ h; exact absurd h (by unfold fX3_next_8; exact fun h => by cases h)
  | succ n ih =>
    intro M h H locs ls hl hM
    rw [fX3_next_8] at h
    refine lv_aload_n hx hb dX3_next_8 rfl (lv_at hl 0 rfl) ?_
    refine m_get hx hb hts hown hKv hM (fun _ h => List.mem_cons_of_mem _ (List.mem_append_right _ (h))) (by decide) at_X3 rfl 4 (by decide) k0 (v := .int (M.1 1 4)) rfl dX3_next_9 ?_
    refine lv_aload_n hx hb dX3_next_12 rfl (lv_at hl 0 rfl) ?_
    refine m_get hx hb hts hown hKv hM (fun _ h => List.mem_cons_of_mem _ (List.mem_append_right _ (h))) (by decide) at_X3 rfl 1 (by decide) k1 (v := .int (M.1 1 1)) rfl dX3_next_13 ?_
    refine lv_icmp_ge (tgt := 45) hx hb dX3_next_16 (by decide) (fun c1 => ?_) (fun c1 => ?_)
    · replace h := (if_pos c1).symm.trans h
      exact hKc _ h _ _ _ (lv_sub hl [0] rfl) hM
    · replace h := (if_neg c1).symm.trans h
      refine lv_aload_n hx hb dX3_next_19 rfl (lv_at hl 0 rfl) ?_
      refine lv_aload_n hx hb dX3_next_20 rfl (lv_at hl 0 rfl) ?_
      refine m_get hx hb hts hown hKv hM (fun _ h => List.mem_cons_of_mem _ (List.mem_append_right _ (h))) (by decide) at_X3 rfl 4 (by decide) k0 (v := .int (M.1 1 4)) rfl dX3_next_21 ?_
      obtain ⟨x2, hx2, h⟩ := Option.bind_eq_some_iff.mp h
      refine m_callV (As := [.int (M.1 1 4)]) (st1 := [.int x2]) hx hb (hml.trans hl.1.symm) hown hts hKv hXs hXk hM (kX3_byteAt l D cI ad hX0 (M.1 1 4) M _ hx2) (cwV 1 hts gX3_next_X3_byteAt rfl rfl rfl (by decide +kernel) ⟨Nat.le_of_ble_eq_true rfl, Nat.le_of_ble_eq_true rfl⟩) (by decide) at_X3 rfl rfl rfl rfl (Nat.le_of_ble_eq_true rfl) dX3_next_24 ⟨Nat.zero_le _, Nat.zero_le _⟩ (fun H locs hM => ?_)
      refine lv_bipush (v := (32 : Int32)) hx hb dX3_next_27 (by decide) ?_
      refine lv_icmp_ne (tgt := 45) hx hb dX3_next_29 (by decide) (fun c3 => ?_) (fun c3 => ?_)
      · replace h := (if_neg c3).symm.trans h
        exact hKc _ h _ _ _ (lv_sub hl [0] rfl) hM
      · replace h := (if_pos c3).symm.trans h
        refine lv_aload_n hx hb dX3_next_32 rfl (lv_at hl 0 rfl) ?_
        refine lv_dup hx hb dX3_next_33 rfl ?_
        refine m_get hx hb hts hown hKv hM (fun _ h => List.mem_cons_of_mem _ (List.mem_append_right _ (h))) (by decide) at_X3 rfl 4 (by decide) k0 (v := .int (M.1 1 4)) rfl dX3_next_34 ?_
        refine lv_iconst (v := (1 : Int32)) hx hb dX3_next_37 (by decide) ?_
        refine lv_iadd hx hb dX3_next_38 ?_
        obtain ⟨M4, hM4, h⟩ := Option.bind_eq_some_iff.mp h
        refine m_put hx hb hts hown hKv hM (fun _ h => List.mem_cons_of_mem _ (List.mem_append_right _ (h))) tyX3 tyX3_ok nmX3 (by decide) at_X3 rfl 4 (by decide) k0 rfl rfl rfl (Nat.le_of_ble_eq_true rfl) (pt_X3_4 (Option.some.inj hM4)) dX3_next_39 (fun H locs hM => ?_)
        refine lv_goto (tgt := 8) hx hb dX3_next_42 (by decide) ?_
        exact ih _ h _ _ _ (lv_sub hl [0] rfl) hM
set_option maxHeartbeats 4000000 in
set_option maxRecDepth 100000 in
theorem wX3_next_149 {p : Program} {l : Launch} {e : Env} {s : State} {m : MethodId} {args : Array Value} {below : List Frame} {meth : Method} {c : Code} {D : va_G} {cI : ClassId} {ad : Nat → Nat} {X : State → Prop} (Z : mZ p s m args meth c cX3_next 1 none wsX3_next RX3 D [(cI, .int)] X) {aS : Nat → Nat} (hX0 : cX D ad aS X)     {K : Mem → Option Mem} (res : Mem) (hKc : ∀  (M1 : Mem), K  M1 = some res → ∀ (H : Heap) (locs : List Loc) (ls : Array Slot), lv_has ls 1 [(0, .ref (ad 1))] → mH D ad 40 (Ec ad cI M1) s.heap H locs → W p l e { frames := 8, cells := 0, slots := 0, locals := 202 } s m args below meth c H locs 0 0 (MQ below (mQ D ad 40 none (Ec ad cI res)) args s 0 0 (mA ad 40)) (F0 m 187 ls [])) :
    ∀ (n : Nat) (M : Mem), fX3_next_149 K n M = some res → ∀ (H : Heap) (locs : List Loc) (ls : Array Slot), lv_has ls 1 [(0, .ref (ad 1))] → mH D ad 40 (Ec ad cI M) s.heap H locs → W p l e { frames := 8, cells := 0, slots := 0, locals := 202 } s m args below meth c H locs 0 0 (MQ below (mQ D ad 40 none (Ec ad cI res)) args s 0 0 (mA ad 40)) (F0 m 149 ls []) := by
  obtain ⟨hx, hb, hml, hr, hlocks, hts, hown, hKv, hXs⟩ := id Z
  have hXk := hX0.1
  have k0 := hts (Cond.fieldLink RX3 28 "NoonWalker$Reader" "end" "I") (List.mem_of_getElem? (i := 1) rfl)
  have k1 := hts (Cond.fieldLink RX3 15 "NoonWalker$Reader" "length" "I") (List.mem_of_getElem? (i := 3) rfl)
  intro n
  induction n with
  | zero => intro _ h; exact absurd h (by unfold fX3_next_149; exact fun h => by cases h)
  | succ n ih =>
    intro M h H locs ls hl hM
    rw [fX3_next_149] at h
    refine lv_aload_n hx hb dX3_next_149 rfl (lv_at hl 0 rfl) ?_
    refine m_get hx hb hts hown hKv hM (fun _ h => List.mem_cons_of_mem _ (List.mem_append_right _ (h))) (by decide) at_X3 rfl 5 (by decide) k0 (v := .int (M.1 1 5)) rfl dX3_next_150 ?_
    refine lv_aload_n hx hb dX3_next_153 rfl (lv_at hl 0 rfl) ?_
    refine m_get hx hb hts hown hKv hM (fun _ h => List.mem_cons_of_mem _ (List.mem_append_right _ (h))) (by decide) at_X3 rfl 1 (by decide) k1 (v := .int (M.1 1 1)) rfl dX3_next_154 ?_
    refine lv_icmp_ge (tgt := 187) hx hb dX3_next_157 (by decide) (fun c1 => ?_) (fun c1 => ?_)
    · replace h := (if_pos c1).symm.trans h
      exact hKc _ h _ _ _ (lv_sub hl [0] rfl) hM
    · replace h := (if_neg c1).symm.trans h
      refine lv_aload_n hx hb dX3_next_160 rfl (lv_at hl 0 rfl) ?_
      refine lv_aload_n hx hb dX3_next_161 rfl (lv_at hl 0 rfl) ?_
      refine m_get hx hb hts hown hKv hM (fun _ h => List.mem_cons_of_mem _ (List.mem_append_right _ (h))) (by decide) at_X3 rfl 5 (by decide) k0 (v := .int (M.1 1 5)) rfl dX3_next_162 ?_
      obtain ⟨x2, hx2, h⟩ := Option.bind_eq_some_iff.mp h
      refine m_callV (As := [.int (M.1 1 5)]) (st1 := [.int x2]) hx hb (hml.trans hl.1.symm) hown hts hKv hXs hXk hM (kX3_byteAt l D cI ad hX0 (M.1 1 5) M _ hx2) (cwV 1 hts gX3_next_X3_byteAt rfl rfl rfl (by decide +kernel) ⟨Nat.le_of_ble_eq_true rfl, Nat.le_of_ble_eq_true rfl⟩) (by decide) at_X3 rfl rfl rfl rfl (Nat.le_of_ble_eq_true rfl) dX3_next_165 ⟨Nat.zero_le _, Nat.zero_le _⟩ (fun H locs hM => ?_)
      obtain ⟨x3, hx3, h⟩ := Option.bind_eq_some_iff.mp h
      refine m_callS (As := [.int x2]) (st1 := [.int x3]) hx hb (hml.trans hl.1.symm) hown hts hKv hXs hXk hM (kX3_isDigit l D cI ad hX0 x2 M _ hx3) (va_cwS 1 hts gX3_next_X3_isDigit rfl rfl rfl (by decide +kernel) ⟨Nat.le_of_ble_eq_true rfl, Nat.le_of_ble_eq_true rfl⟩) rfl rfl rfl (Nat.le_of_ble_eq_true rfl) dX3_next_168 ⟨Nat.zero_le _, Nat.zero_le _⟩ (fun H locs hM => ?_)
      refine lv_if_eq (tgt := 187) hx hb dX3_next_171 (by decide) (fun c4 => ?_) (fun c4 => ?_)
      · replace h := (if_pos c4).symm.trans h
        exact hKc _ h _ _ _ (lv_sub hl [0] rfl) hM
      · replace h := (if_neg c4).symm.trans h
        refine lv_aload_n hx hb dX3_next_174 rfl (lv_at hl 0 rfl) ?_
        refine lv_dup hx hb dX3_next_175 rfl ?_
        refine m_get hx hb hts hown hKv hM (fun _ h => List.mem_cons_of_mem _ (List.mem_append_right _ (h))) (by decide) at_X3 rfl 5 (by decide) k0 (v := .int (M.1 1 5)) rfl dX3_next_176 ?_
        refine lv_iconst (v := (1 : Int32)) hx hb dX3_next_179 (by decide) ?_
        refine lv_iadd hx hb dX3_next_180 ?_
        obtain ⟨M5, hM5, h⟩ := Option.bind_eq_some_iff.mp h
        refine m_put hx hb hts hown hKv hM (fun _ h => List.mem_cons_of_mem _ (List.mem_append_right _ (h))) tyX3 tyX3_ok nmX3 (by decide) at_X3 rfl 5 (by decide) k0 rfl rfl rfl (Nat.le_of_ble_eq_true rfl) (pt_X3_5 (Option.some.inj hM5)) dX3_next_181 (fun H locs hM => ?_)
        refine lv_goto (tgt := 149) hx hb dX3_next_184 (by decide) ?_
        exact ih _ h _ _ _ (lv_sub hl [0] rfl) hM
set_option maxHeartbeats 4000000 in
set_option maxRecDepth 100000 in
theorem wX3_next_86 {p : Program} {l : Launch} {e : Env} {s : State} {m : MethodId} {args : Array Value} {below : List Frame} {meth : Method} {c : Code} {D : va_G} {cI : ClassId} {ad : Nat → Nat} {X : State → Prop} (Z : mZ p s m args meth c cX3_next 1 none wsX3_next RX3 D [(cI, .int)] X) {aS : Nat → Nat} (hX0 : cX D ad aS X)     {K : Mem → Option Mem} (res : Mem) (hKc : ∀  (M1 : Mem), K  M1 = some res → ∀ (H : Heap) (locs : List Loc) (ls : Array Slot), lv_has ls 1 [(0, .ref (ad 1))] → mH D ad 40 (Ec ad cI M1) s.heap H locs → W p l e { frames := 8, cells := 0, slots := 0, locals := 202 } s m args below meth c H locs 0 0 (MQ below (mQ D ad 40 none (Ec ad cI res)) args s 0 0 (mA ad 40)) (F0 m 124 ls [])) :
    ∀ (n : Nat) (M : Mem), fX3_next_86 K n M = some res → ∀ (H : Heap) (locs : List Loc) (ls : Array Slot), lv_has ls 1 [(0, .ref (ad 1))] → mH D ad 40 (Ec ad cI M) s.heap H locs → W p l e { frames := 8, cells := 0, slots := 0, locals := 202 } s m args below meth c H locs 0 0 (MQ below (mQ D ad 40 none (Ec ad cI res)) args s 0 0 (mA ad 40)) (F0 m 86 ls []) := by
  obtain ⟨hx, hb, hml, hr, hlocks, hts, hown, hKv, hXs⟩ := id Z
  have hXk := hX0.1
  have k0 := hts (Cond.fieldLink RX3 28 "NoonWalker$Reader" "end" "I") (List.mem_of_getElem? (i := 1) rfl)
  have k1 := hts (Cond.fieldLink RX3 15 "NoonWalker$Reader" "length" "I") (List.mem_of_getElem? (i := 3) rfl)
  intro n
  induction n with
  | zero => intro _ h; exact absurd h (by unfold fX3_next_86; exact fun h => by cases h)
  | succ n ih =>
    intro M h H locs ls hl hM
    rw [fX3_next_86] at h
    refine lv_aload_n hx hb dX3_next_86 rfl (lv_at hl 0 rfl) ?_
    refine m_get hx hb hts hown hKv hM (fun _ h => List.mem_cons_of_mem _ (List.mem_append_right _ (h))) (by decide) at_X3 rfl 5 (by decide) k0 (v := .int (M.1 1 5)) rfl dX3_next_87 ?_
    refine lv_aload_n hx hb dX3_next_90 rfl (lv_at hl 0 rfl) ?_
    refine m_get hx hb hts hown hKv hM (fun _ h => List.mem_cons_of_mem _ (List.mem_append_right _ (h))) (by decide) at_X3 rfl 1 (by decide) k1 (v := .int (M.1 1 1)) rfl dX3_next_91 ?_
    refine lv_icmp_ge (tgt := 124) hx hb dX3_next_94 (by decide) (fun c1 => ?_) (fun c1 => ?_)
    · replace h := (if_pos c1).symm.trans h
      exact hKc _ h _ _ _ (lv_sub hl [0] rfl) hM
    · replace h := (if_neg c1).symm.trans h
      refine lv_aload_n hx hb dX3_next_97 rfl (lv_at hl 0 rfl) ?_
      refine lv_aload_n hx hb dX3_next_98 rfl (lv_at hl 0 rfl) ?_
      refine m_get hx hb hts hown hKv hM (fun _ h => List.mem_cons_of_mem _ (List.mem_append_right _ (h))) (by decide) at_X3 rfl 5 (by decide) k0 (v := .int (M.1 1 5)) rfl dX3_next_99 ?_
      obtain ⟨x2, hx2, h⟩ := Option.bind_eq_some_iff.mp h
      refine m_callV (As := [.int (M.1 1 5)]) (st1 := [.int x2]) hx hb (hml.trans hl.1.symm) hown hts hKv hXs hXk hM (kX3_byteAt l D cI ad hX0 (M.1 1 5) M _ hx2) (cwV 1 hts gX3_next_X3_byteAt rfl rfl rfl (by decide +kernel) ⟨Nat.le_of_ble_eq_true rfl, Nat.le_of_ble_eq_true rfl⟩) (by decide) at_X3 rfl rfl rfl rfl (Nat.le_of_ble_eq_true rfl) dX3_next_102 ⟨Nat.zero_le _, Nat.zero_le _⟩ (fun H locs hM => ?_)
      obtain ⟨x3, hx3, h⟩ := Option.bind_eq_some_iff.mp h
      refine m_callS (As := [.int x2]) (st1 := [.int x3]) hx hb (hml.trans hl.1.symm) hown hts hKv hXs hXk hM (kX3_isLetter l D cI ad hX0 x2 M _ hx3) (va_cwS 1 hts gX3_next_X3_isLetter rfl rfl rfl (by decide +kernel) ⟨Nat.le_of_ble_eq_true rfl, Nat.le_of_ble_eq_true rfl⟩) rfl rfl rfl (Nat.le_of_ble_eq_true rfl) dX3_next_105 ⟨Nat.zero_le _, Nat.zero_le _⟩ (fun H locs hM => ?_)
      refine lv_if_eq (tgt := 124) hx hb dX3_next_108 (by decide) (fun c4 => ?_) (fun c4 => ?_)
      · replace h := (if_pos c4).symm.trans h
        exact hKc _ h _ _ _ (lv_sub hl [0] rfl) hM
      · replace h := (if_neg c4).symm.trans h
        refine lv_aload_n hx hb dX3_next_111 rfl (lv_at hl 0 rfl) ?_
        refine lv_dup hx hb dX3_next_112 rfl ?_
        refine m_get hx hb hts hown hKv hM (fun _ h => List.mem_cons_of_mem _ (List.mem_append_right _ (h))) (by decide) at_X3 rfl 5 (by decide) k0 (v := .int (M.1 1 5)) rfl dX3_next_113 ?_
        refine lv_iconst (v := (1 : Int32)) hx hb dX3_next_116 (by decide) ?_
        refine lv_iadd hx hb dX3_next_117 ?_
        obtain ⟨M5, hM5, h⟩ := Option.bind_eq_some_iff.mp h
        refine m_put hx hb hts hown hKv hM (fun _ h => List.mem_cons_of_mem _ (List.mem_append_right _ (h))) tyX3 tyX3_ok nmX3 (by decide) at_X3 rfl 5 (by decide) k0 rfl rfl rfl (Nat.le_of_ble_eq_true rfl) (pt_X3_5 (Option.some.inj hM5)) dX3_next_118 (fun H locs hM => ?_)
        refine lv_goto (tgt := 86) hx hb dX3_next_121 (by decide) ?_
        exact ih _ h _ _ _ (lv_sub hl [0] rfl) hM
set_option maxHeartbeats 4000000 in
set_option maxRecDepth 100000 in
theorem kX3_next (l : Launch) (D : va_G) (cI : ClassId) (ad : Nat → Nat) {X : State → Prop} {aS : Nat → Nat} (hX0 : cX D ad aS X)  (M : Mem) (res : Mem) (h : fX3_next M = some res) : mC l yX3_next wsX3_next { frames := 8, cells := 0, slots := 0, locals := 202 } D [(cI, .int)] ad 40 X [.ref (ad 1)] (Ec ad cI M) none (Ec ad cI res) := by
  refine m_ofW (cc := cX3_next) (maxL := 1) (ret := none) (by decide) rfl (Nat.le_of_ble_eq_true rfl) ?_
  intro p e s m args below meth c hx hb hml hr hlocks hts hown hKv hXs ls hl hM
  have hXk := hX0.1
  have Z : mZ p s m args meth c cX3_next 1 none wsX3_next RX3 D [(cI, .int)] X := ⟨hx, hb, hml, hr, hlocks, hts, hown, hKv, hXs⟩
  replace hown : s.vm.findClass RX3 = some m.cls := hown
  have hl : lv_has ls 1 [(0, .ref (ad 1))] := hl
  have k0 := hts (Cond.fieldLink RX3 28 "NoonWalker$Reader" "end" "I") (List.mem_of_getElem? (i := 1) rfl)
  have k1 := hts (Cond.fieldLink RX3 25 "NoonWalker$Reader" "begin" "I") (List.mem_of_getElem? (i := 2) rfl)
  have k2 := hts (Cond.fieldLink RX3 15 "NoonWalker$Reader" "length" "I") (List.mem_of_getElem? (i := 3) rfl)
  have k3 := hts (Cond.fieldLink RX3 19 "NoonWalker$Reader" "kind" "I") (List.mem_of_getElem? (i := 4) rfl)
  have k4 := hts (Cond.fieldLink RX3 22 "NoonWalker$Reader" "number" "I") (List.mem_of_getElem? (i := 5) rfl)
  unfold fX3_next at h
  refine lv_aload_n hx hb dX3_next_0 rfl (lv_at hl 0 rfl) ?_
  refine lv_aload_n hx hb dX3_next_1 rfl (lv_at hl 0 rfl) ?_
  refine m_get hx hb hts hown hKv hM (fun _ h => List.mem_cons_of_mem _ (List.mem_append_right _ (h))) (by decide) at_X3 rfl 5 (by decide) k0 (v := .int (M.1 1 5)) rfl dX3_next_2 ?_
  obtain ⟨M1, hM1, h⟩ := Option.bind_eq_some_iff.mp h
  refine m_put hx hb hts hown hKv hM (fun _ h => List.mem_cons_of_mem _ (List.mem_append_right _ (h))) tyX3 tyX3_ok nmX3 (by decide) at_X3 rfl 4 (by decide) k1 rfl rfl rfl (Nat.le_of_ble_eq_true rfl) (pt_X3_4 (Option.some.inj hM1)) dX3_next_5 (fun H locs hM => ?_)
  refine wX3_next_8 Z hX0 _ (fun M2 h H locs ls hl hM => ?_) _ _ h _ _ _ (lv_sub hl [0] rfl) hM
  refine lv_aload_n hx hb dX3_next_45 rfl (lv_at hl 0 rfl) ?_
  refine lv_aload_n hx hb dX3_next_46 rfl (lv_at hl 0 rfl) ?_
  refine m_get hx hb hts hown hKv hM (fun _ h => List.mem_cons_of_mem _ (List.mem_append_right _ (h))) (by decide) at_X3 rfl 4 (by decide) k1 (v := .int (M2.1 1 4)) rfl dX3_next_47 ?_
  obtain ⟨M3, hM3, h⟩ := Option.bind_eq_some_iff.mp h
  refine m_put hx hb hts hown hKv hM (fun _ h => List.mem_cons_of_mem _ (List.mem_append_right _ (h))) tyX3 tyX3_ok nmX3 (by decide) at_X3 rfl 5 (by decide) k0 rfl rfl rfl (Nat.le_of_ble_eq_true rfl) (pt_X3_5 (Option.some.inj hM3)) dX3_next_50 (fun H locs hM => ?_)
  refine lv_aload_n hx hb dX3_next_53 rfl (lv_at hl 0 rfl) ?_
  refine m_get hx hb hts hown hKv hM (fun _ h => List.mem_cons_of_mem _ (List.mem_append_right _ (h))) (by decide) at_X3 rfl 4 (by decide) k1 (v := .int (M3.1 1 4)) rfl dX3_next_54 ?_
  refine lv_aload_n hx hb dX3_next_57 rfl (lv_at hl 0 rfl) ?_
  refine m_get hx hb hts hown hKv hM (fun _ h => List.mem_cons_of_mem _ (List.mem_append_right _ (h))) (by decide) at_X3 rfl 1 (by decide) k2 (v := .int (M3.1 1 1)) rfl dX3_next_58 ?_
  refine lv_icmp_lt (tgt := 72) hx hb dX3_next_61 (by decide) (fun c4 => ?_) (fun c4 => ?_)
  · replace h := (if_pos c4).symm.trans h
    refine lv_aload_n hx hb dX3_next_72 rfl (lv_at hl 0 rfl) ?_
    refine lv_aload_n hx hb dX3_next_73 rfl (lv_at hl 0 rfl) ?_
    refine m_get hx hb hts hown hKv hM (fun _ h => List.mem_cons_of_mem _ (List.mem_append_right _ (h))) (by decide) at_X3 rfl 4 (by decide) k1 (v := .int (M3.1 1 4)) rfl dX3_next_74 ?_
    obtain ⟨x5, hx5, h⟩ := Option.bind_eq_some_iff.mp h
    refine m_callV (As := [.int (M3.1 1 4)]) (st1 := [.int x5]) hx hb (hml.trans hl.1.symm) hown hts hKv hXs hXk hM (kX3_byteAt l D cI ad hX0 (M3.1 1 4) M3 _ hx5) (cwV 1 hts gX3_next_X3_byteAt rfl rfl rfl (by decide +kernel) ⟨Nat.le_of_ble_eq_true rfl, Nat.le_of_ble_eq_true rfl⟩) (by decide) at_X3 rfl rfl rfl rfl (Nat.le_of_ble_eq_true rfl) dX3_next_77 ⟨Nat.zero_le _, Nat.zero_le _⟩ (fun H locs hM => ?_)
    obtain ⟨x6, hx6, h⟩ := Option.bind_eq_some_iff.mp h
    refine m_callS (As := [.int x5]) (st1 := [.int x6]) hx hb (hml.trans hl.1.symm) hown hts hKv hXs hXk hM (kX3_isLetter l D cI ad hX0 x5 M3 _ hx6) (va_cwS 1 hts gX3_next_X3_isLetter rfl rfl rfl (by decide +kernel) ⟨Nat.le_of_ble_eq_true rfl, Nat.le_of_ble_eq_true rfl⟩) rfl rfl rfl (Nat.le_of_ble_eq_true rfl) dX3_next_80 ⟨Nat.zero_le _, Nat.zero_le _⟩ (fun H locs hM => ?_)
    refine lv_if_eq (tgt := 135) hx hb dX3_next_83 (by decide) (fun c7 => ?_) (fun c7 => ?_)
    · replace h := (if_pos c7).symm.trans h
      refine lv_aload_n hx hb dX3_next_135 rfl (lv_at hl 0 rfl) ?_
      refine lv_aload_n hx hb dX3_next_136 rfl (lv_at hl 0 rfl) ?_
      refine m_get hx hb hts hown hKv hM (fun _ h => List.mem_cons_of_mem _ (List.mem_append_right _ (h))) (by decide) at_X3 rfl 4 (by decide) k1 (v := .int (M3.1 1 4)) rfl dX3_next_137 ?_
      obtain ⟨x8, hx8, h⟩ := Option.bind_eq_some_iff.mp h
      refine m_callV (As := [.int (M3.1 1 4)]) (st1 := [.int x8]) hx hb (hml.trans hl.1.symm) hown hts hKv hXs hXk hM (kX3_byteAt l D cI ad hX0 (M3.1 1 4) M3 _ hx8) (cwV 1 hts gX3_next_X3_byteAt rfl rfl rfl (by decide +kernel) ⟨Nat.le_of_ble_eq_true rfl, Nat.le_of_ble_eq_true rfl⟩) (by decide) at_X3 rfl rfl rfl rfl (Nat.le_of_ble_eq_true rfl) dX3_next_140 ⟨Nat.zero_le _, Nat.zero_le _⟩ (fun H locs hM => ?_)
      obtain ⟨x9, hx9, h⟩ := Option.bind_eq_some_iff.mp h
      refine m_callS (As := [.int x8]) (st1 := [.int x9]) hx hb (hml.trans hl.1.symm) hown hts hKv hXs hXk hM (kX3_isDigit l D cI ad hX0 x8 M3 _ hx9) (va_cwS 1 hts gX3_next_X3_isDigit rfl rfl rfl (by decide +kernel) ⟨Nat.le_of_ble_eq_true rfl, Nat.le_of_ble_eq_true rfl⟩) rfl rfl rfl (Nat.le_of_ble_eq_true rfl) dX3_next_143 ⟨Nat.zero_le _, Nat.zero_le _⟩ (fun H locs hM => ?_)
      refine lv_if_eq (tgt := 217) hx hb dX3_next_146 (by decide) (fun c10 => ?_) (fun c10 => ?_)
      · replace h := (if_pos c10).symm.trans h
        refine lv_aload_n hx hb dX3_next_217 rfl (lv_at hl 0 rfl) ?_
        refine lv_dup hx hb dX3_next_218 rfl ?_
        refine m_get hx hb hts hown hKv hM (fun _ h => List.mem_cons_of_mem _ (List.mem_append_right _ (h))) (by decide) at_X3 rfl 5 (by decide) k0 (v := .int (M3.1 1 5)) rfl dX3_next_219 ?_
        refine lv_iconst (v := (1 : Int32)) hx hb dX3_next_222 (by decide) ?_
        refine lv_iadd hx hb dX3_next_223 ?_
        obtain ⟨M11, hM11, h⟩ := Option.bind_eq_some_iff.mp h
        refine m_put hx hb hts hown hKv hM (fun _ h => List.mem_cons_of_mem _ (List.mem_append_right _ (h))) tyX3 tyX3_ok nmX3 (by decide) at_X3 rfl 5 (by decide) k0 rfl rfl rfl (Nat.le_of_ble_eq_true rfl) (pt_X3_5 (Option.some.inj hM11)) dX3_next_224 (fun H locs hM => ?_)
        refine lv_aload_n hx hb dX3_next_227 rfl (lv_at hl 0 rfl) ?_
        refine lv_aload_n hx hb dX3_next_228 rfl (lv_at hl 0 rfl) ?_
        refine lv_aload_n hx hb dX3_next_229 rfl (lv_at hl 0 rfl) ?_
        refine m_get hx hb hts hown hKv hM (fun _ h => List.mem_cons_of_mem _ (List.mem_append_right _ (h))) (by decide) at_X3 rfl 4 (by decide) k1 (v := .int (M11.1 1 4)) rfl dX3_next_230 ?_
        obtain ⟨x12, hx12, h⟩ := Option.bind_eq_some_iff.mp h
        refine m_callV (As := [.int (M11.1 1 4)]) (st1 := [.int x12, .ref (ad 1)]) hx hb (hml.trans hl.1.symm) hown hts hKv hXs hXk hM (kX3_byteAt l D cI ad hX0 (M11.1 1 4) M11 _ hx12) (cwV 1 hts gX3_next_X3_byteAt rfl rfl rfl (by decide +kernel) ⟨Nat.le_of_ble_eq_true rfl, Nat.le_of_ble_eq_true rfl⟩) (by decide) at_X3 rfl rfl rfl rfl (Nat.le_of_ble_eq_true rfl) dX3_next_233 ⟨Nat.zero_le _, Nat.zero_le _⟩ (fun H locs hM => ?_)
        refine lv_bipush (v := (59 : Int32)) hx hb dX3_next_236 (by decide) ?_
        refine lv_icmp_ne (tgt := 245) hx hb dX3_next_238 (by decide) (fun c13 => ?_) (fun c13 => ?_)
        · replace h := (if_neg c13).symm.trans h
          refine lv_bipush (v := (6 : Int32)) hx hb dX3_next_245 (by decide) ?_
          obtain ⟨M14, hM14, h⟩ := Option.bind_eq_some_iff.mp h
          refine m_put hx hb hts hown hKv hM (fun _ h => List.mem_cons_of_mem _ (List.mem_append_right _ (h))) tyX3 tyX3_ok nmX3 (by decide) at_X3 rfl 2 (by decide) k3 rfl rfl rfl (Nat.le_of_ble_eq_true rfl) (pt_X3_2 (Option.some.inj hM14)) dX3_next_247 (fun H locs hM => ?_)
          exact m_vret hx hb hr hlocks hM (congrArg (a₁ := M14) (fun z => Ec ad cI z) (Option.some.inj h)) dX3_next_250
        · replace h := (if_pos c13).symm.trans h
          refine lv_iconst (v := (5 : Int32)) hx hb dX3_next_241 (by decide) ?_
          refine lv_goto (tgt := 247) hx hb dX3_next_242 (by decide) ?_
          obtain ⟨M15, hM15, h⟩ := Option.bind_eq_some_iff.mp h
          refine m_put hx hb hts hown hKv hM (fun _ h => List.mem_cons_of_mem _ (List.mem_append_right _ (h))) tyX3 tyX3_ok nmX3 (by decide) at_X3 rfl 2 (by decide) k3 rfl rfl rfl (Nat.le_of_ble_eq_true rfl) (pt_X3_2 (Option.some.inj hM15)) dX3_next_247 (fun H locs hM => ?_)
          exact m_vret hx hb hr hlocks hM (congrArg (a₁ := M15) (fun z => Ec ad cI z) (Option.some.inj h)) dX3_next_250
      · replace h := (if_neg c10).symm.trans h
        refine wX3_next_149 Z hX0 _ (fun M16 h H locs ls hl hM => ?_) _ _ h _ _ _ (lv_sub hl [0] rfl) hM
        refine lv_aload_n hx hb dX3_next_187 rfl (lv_at hl 0 rfl) ?_
        refine lv_aload_n hx hb dX3_next_188 rfl (lv_at hl 0 rfl) ?_
        obtain ⟨x17, hx17, h⟩ := Option.bind_eq_some_iff.mp h
        refine m_callV (As := []) (st1 := [.int x17, .ref (ad 1)]) hx hb (hml.trans hl.1.symm) hown hts hKv hXs hXk hM (kX3_numberOfDigits l D cI ad hX0  M16 _ hx17) (cwV 0 hts gX3_next_X3_numberOfDigits rfl rfl rfl (by decide +kernel) ⟨Nat.le_of_ble_eq_true rfl, Nat.le_of_ble_eq_true rfl⟩) (by decide) at_X3 rfl rfl rfl rfl (Nat.le_of_ble_eq_true rfl) dX3_next_189 ⟨Nat.zero_le _, Nat.zero_le _⟩ (fun H locs hM => ?_)
        obtain ⟨M18, hM18, h⟩ := Option.bind_eq_some_iff.mp h
        refine m_put hx hb hts hown hKv hM (fun _ h => List.mem_cons_of_mem _ (List.mem_append_right _ (h))) tyX3 tyX3_ok nmX3 (by decide) at_X3 rfl 3 (by decide) k4 rfl rfl rfl (Nat.le_of_ble_eq_true rfl) (pt_X3_3 (Option.some.inj hM18)) dX3_next_192 (fun H locs hM => ?_)
        refine lv_aload_n hx hb dX3_next_195 rfl (lv_at hl 0 rfl) ?_
        refine lv_aload_n hx hb dX3_next_196 rfl (lv_at hl 0 rfl) ?_
        refine m_get hx hb hts hown hKv hM (fun _ h => List.mem_cons_of_mem _ (List.mem_append_right _ (h))) (by decide) at_X3 rfl 3 (by decide) k4 (v := .int (M18.1 1 3)) rfl dX3_next_197 ?_
        refine lv_bipush (v := (-9 : Int32)) hx hb dX3_next_200 (by decide) ?_
        refine lv_icmp_ne (tgt := 210) hx hb dX3_next_202 (by decide) (fun c19 => ?_) (fun c19 => ?_)
        · replace h := (if_neg c19).symm.trans h
          refine lv_iconst (v := (4 : Int32)) hx hb dX3_next_210 (by decide) ?_
          obtain ⟨M20, hM20, h⟩ := Option.bind_eq_some_iff.mp h
          refine m_put hx hb hts hown hKv hM (fun _ h => List.mem_cons_of_mem _ (List.mem_append_right _ (h))) tyX3 tyX3_ok nmX3 (by decide) at_X3 rfl 2 (by decide) k3 rfl rfl rfl (Nat.le_of_ble_eq_true rfl) (pt_X3_2 (Option.some.inj hM20)) dX3_next_211 (fun H locs hM => ?_)
          refine lv_goto (tgt := 250) hx hb dX3_next_214 (by decide) ?_
          exact m_vret hx hb hr hlocks hM (congrArg (a₁ := M20) (fun z => Ec ad cI z) (Option.some.inj h)) dX3_next_250
        · replace h := (if_pos c19).symm.trans h
          refine lv_bipush (v := (6 : Int32)) hx hb dX3_next_205 (by decide) ?_
          refine lv_goto (tgt := 211) hx hb dX3_next_207 (by decide) ?_
          obtain ⟨M21, hM21, h⟩ := Option.bind_eq_some_iff.mp h
          refine m_put hx hb hts hown hKv hM (fun _ h => List.mem_cons_of_mem _ (List.mem_append_right _ (h))) tyX3 tyX3_ok nmX3 (by decide) at_X3 rfl 2 (by decide) k3 rfl rfl rfl (Nat.le_of_ble_eq_true rfl) (pt_X3_2 (Option.some.inj hM21)) dX3_next_211 (fun H locs hM => ?_)
          refine lv_goto (tgt := 250) hx hb dX3_next_214 (by decide) ?_
          exact m_vret hx hb hr hlocks hM (congrArg (a₁ := M21) (fun z => Ec ad cI z) (Option.some.inj h)) dX3_next_250
    · replace h := (if_neg c7).symm.trans h
      refine wX3_next_86 Z hX0 _ (fun M22 h H locs ls hl hM => ?_) _ _ h _ _ _ (lv_sub hl [0] rfl) hM
      refine lv_aload_n hx hb dX3_next_124 rfl (lv_at hl 0 rfl) ?_
      refine lv_aload_n hx hb dX3_next_125 rfl (lv_at hl 0 rfl) ?_
      obtain ⟨x23, hx23, h⟩ := Option.bind_eq_some_iff.mp h
      refine m_callV (As := []) (st1 := [.int x23, .ref (ad 1)]) hx hb (hml.trans hl.1.symm) hown hts hKv hXs hXk hM (kX3_kindOfWord l D cI ad hX0  M22 _ hx23) (cwV 0 hts gX3_next_X3_kindOfWord rfl rfl rfl (by decide +kernel) ⟨Nat.le_of_ble_eq_true rfl, Nat.le_of_ble_eq_true rfl⟩) (by decide) at_X3 rfl rfl rfl rfl (Nat.le_of_ble_eq_true rfl) dX3_next_126 ⟨Nat.zero_le _, Nat.zero_le _⟩ (fun H locs hM => ?_)
      obtain ⟨M24, hM24, h⟩ := Option.bind_eq_some_iff.mp h
      refine m_put hx hb hts hown hKv hM (fun _ h => List.mem_cons_of_mem _ (List.mem_append_right _ (h))) tyX3 tyX3_ok nmX3 (by decide) at_X3 rfl 2 (by decide) k3 rfl rfl rfl (Nat.le_of_ble_eq_true rfl) (pt_X3_2 (Option.some.inj hM24)) dX3_next_129 (fun H locs hM => ?_)
      refine lv_goto (tgt := 250) hx hb dX3_next_132 (by decide) ?_
      exact m_vret hx hb hr hlocks hM (congrArg (a₁ := M24) (fun z => Ec ad cI z) (Option.some.inj h)) dX3_next_250
  · replace h := (if_neg c4).symm.trans h
    refine lv_aload_n hx hb dX3_next_64 rfl (lv_at hl 0 rfl) ?_
    refine lv_iconst (v := (0 : Int32)) hx hb dX3_next_65 (by decide) ?_
    obtain ⟨M25, hM25, h⟩ := Option.bind_eq_some_iff.mp h
    refine m_put hx hb hts hown hKv hM (fun _ h => List.mem_cons_of_mem _ (List.mem_append_right _ (h))) tyX3 tyX3_ok nmX3 (by decide) at_X3 rfl 2 (by decide) k3 rfl rfl rfl (Nat.le_of_ble_eq_true rfl) (pt_X3_2 (Option.some.inj hM25)) dX3_next_66 (fun H locs hM => ?_)
    refine lv_goto (tgt := 250) hx hb dX3_next_69 (by decide) ?_
    exact m_vret hx hb hr hlocks hM (congrArg (a₁ := M25) (fun z => Ec ad cI z) (Option.some.inj h)) dX3_next_250
set_option maxHeartbeats 4000000 in
set_option maxRecDepth 100000 in
theorem kX3_readNumber (l : Launch) (D : va_G) (cI : ClassId) (ad : Nat → Nat) {X : State → Prop} {aS : Nat → Nat} (hX0 : cX D ad aS X) (a1 : Int32) (a2 : Int32) (M : Mem) (res : (Int32 × Mem)) (h : fX3_readNumber a1 a2 M = some res) : mC l yX3_readNumber wsX3_readNumber { frames := 9, cells := 0, slots := 0, locals := 222 } D [(cI, .int)] ad 40 X [.ref (ad 1), .int a1, .int a2] (Ec ad cI M) (some (.int res.1)) (Ec ad cI res.2) := by
  refine m_ofW (cc := cX3_readNumber) (maxL := 3) (ret := (some .boolean)) (by decide) rfl (Nat.le_of_ble_eq_true rfl) ?_
  intro p e s m args below meth c hx hb hml hr hlocks hts hown hKv hXs ls hl hM
  have hXk := hX0.1
  have Z : mZ p s m args meth c cX3_readNumber 3 (some .boolean) wsX3_readNumber RX3 D [(cI, .int)] X := ⟨hx, hb, hml, hr, hlocks, hts, hown, hKv, hXs⟩
  replace hown : s.vm.findClass RX3 = some m.cls := hown
  have hl : lv_has ls 3 [(0, .ref (ad 1)), (1, .int a1), (2, .int a2)] := hl
  have k0 := hts (Cond.fieldLink RX3 19 "NoonWalker$Reader" "kind" "I") (List.mem_of_getElem? (i := 1) rfl)
  have k1 := hts (Cond.fieldLink RX3 22 "NoonWalker$Reader" "number" "I") (List.mem_of_getElem? (i := 2) rfl)
  unfold fX3_readNumber at h
  refine lv_aload_n hx hb dX3_readNumber_0 rfl (lv_at hl 0 rfl) ?_
  obtain ⟨x1, hx1, h⟩ := Option.bind_eq_some_iff.mp h
  refine m_callV (As := []) (st1 := []) hx hb (hml.trans hl.1.symm) hown hts hKv hXs hXk hM (kX3_next l D cI ad hX0  M _ hx1) (cwV 0 hts gX3_readNumber_X3_next rfl rfl rfl (by decide +kernel) ⟨Nat.le_of_ble_eq_true rfl, Nat.le_of_ble_eq_true rfl⟩) (by decide) at_X3 rfl rfl rfl rfl (Nat.le_of_ble_eq_true rfl) dX3_readNumber_1 ⟨Nat.zero_le _, Nat.zero_le _⟩ (fun H locs hM => ?_)
  refine lv_aload_n hx hb dX3_readNumber_4 rfl (lv_at hl 0 rfl) ?_
  refine m_get hx hb hts hown hKv hM (fun _ h => List.mem_cons_of_mem _ (List.mem_append_right _ (h))) (by decide) at_X3 rfl 2 (by decide) k0 (v := .int (x1.1 1 2)) rfl dX3_readNumber_5 ?_
  refine lv_iconst (v := (4 : Int32)) hx hb dX3_readNumber_8 (by decide) ?_
  refine lv_icmp_ne (tgt := 32) hx hb dX3_readNumber_9 (by decide) (fun c2 => ?_) (fun c2 => ?_)
  · replace h := (if_neg c2).symm.trans h
    refine lv_iconst (v := (0 : Int32)) hx hb dX3_readNumber_32 (by decide) ?_
    exact m_zret hx hb hr hlocks hM (congrArg (a₁ := ((0 : Int32), x1)) Prod.fst (Option.some.inj h)) rfl (congrArg (a₁ := ((0 : Int32), x1)) (fun z => Ec ad cI z.2) (Option.some.inj h)) dX3_readNumber_33
  · replace h := (if_pos c2).symm.trans h
    refine lv_aload_n hx hb dX3_readNumber_12 rfl (lv_at hl 0 rfl) ?_
    refine m_get hx hb hts hown hKv hM (fun _ h => List.mem_cons_of_mem _ (List.mem_append_right _ (h))) (by decide) at_X3 rfl 3 (by decide) k1 (v := .int (x1.1 1 3)) rfl dX3_readNumber_13 ?_
    refine lv_iload_n hx hb dX3_readNumber_16 rfl (lv_at hl 1 rfl) ?_
    refine lv_icmp_lt (tgt := 32) hx hb dX3_readNumber_17 (by decide) (fun c3 => ?_) (fun c3 => ?_)
    · replace h := (if_pos c3).symm.trans h
      refine lv_iconst (v := (0 : Int32)) hx hb dX3_readNumber_32 (by decide) ?_
      exact m_zret hx hb hr hlocks hM (congrArg (a₁ := ((0 : Int32), x1)) Prod.fst (Option.some.inj h)) rfl (congrArg (a₁ := ((0 : Int32), x1)) (fun z => Ec ad cI z.2) (Option.some.inj h)) dX3_readNumber_33
    · replace h := (if_neg c3).symm.trans h
      refine lv_aload_n hx hb dX3_readNumber_20 rfl (lv_at hl 0 rfl) ?_
      refine m_get hx hb hts hown hKv hM (fun _ h => List.mem_cons_of_mem _ (List.mem_append_right _ (h))) (by decide) at_X3 rfl 3 (by decide) k1 (v := .int (x1.1 1 3)) rfl dX3_readNumber_21 ?_
      refine lv_iload_n hx hb dX3_readNumber_24 rfl (lv_at hl 2 rfl) ?_
      refine lv_icmp_gt (tgt := 32) hx hb dX3_readNumber_25 (by decide) (fun c4 => ?_) (fun c4 => ?_)
      · replace h := (if_pos c4).symm.trans h
        refine lv_iconst (v := (0 : Int32)) hx hb dX3_readNumber_32 (by decide) ?_
        exact m_zret hx hb hr hlocks hM (congrArg (a₁ := ((0 : Int32), x1)) Prod.fst (Option.some.inj h)) rfl (congrArg (a₁ := ((0 : Int32), x1)) (fun z => Ec ad cI z.2) (Option.some.inj h)) dX3_readNumber_33
      · replace h := (if_neg c4).symm.trans h
        refine lv_iconst (v := (1 : Int32)) hx hb dX3_readNumber_28 (by decide) ?_
        refine lv_goto (tgt := 33) hx hb dX3_readNumber_29 (by decide) ?_
        exact m_zret hx hb hr hlocks hM (congrArg (a₁ := ((1 : Int32), x1)) Prod.fst (Option.some.inj h)) rfl (congrArg (a₁ := ((1 : Int32), x1)) (fun z => Ec ad cI z.2) (Option.some.inj h)) dX3_readNumber_33
set_option maxHeartbeats 4000000 in
set_option maxRecDepth 100000 in
theorem kX3_readSemicolon (l : Launch) (D : va_G) (cI : ClassId) (ad : Nat → Nat) {X : State → Prop} {aS : Nat → Nat} (hX0 : cX D ad aS X)  (M : Mem) (res : (Int32 × Mem)) (h : fX3_readSemicolon M = some res) : mC l yX3_readSemicolon wsX3_readSemicolon { frames := 9, cells := 0, slots := 0, locals := 222 } D [(cI, .int)] ad 40 X [.ref (ad 1)] (Ec ad cI M) (some (.int res.1)) (Ec ad cI res.2) := by
  refine m_ofW (cc := cX3_readSemicolon) (maxL := 1) (ret := (some .boolean)) (by decide) rfl (Nat.le_of_ble_eq_true rfl) ?_
  intro p e s m args below meth c hx hb hml hr hlocks hts hown hKv hXs ls hl hM
  have hXk := hX0.1
  have Z : mZ p s m args meth c cX3_readSemicolon 1 (some .boolean) wsX3_readSemicolon RX3 D [(cI, .int)] X := ⟨hx, hb, hml, hr, hlocks, hts, hown, hKv, hXs⟩
  replace hown : s.vm.findClass RX3 = some m.cls := hown
  have hl : lv_has ls 1 [(0, .ref (ad 1))] := hl
  have k0 := hts (Cond.fieldLink RX3 19 "NoonWalker$Reader" "kind" "I") (List.mem_of_getElem? (i := 1) rfl)
  unfold fX3_readSemicolon at h
  refine lv_aload_n hx hb dX3_readSemicolon_0 rfl (lv_at hl 0 rfl) ?_
  obtain ⟨x1, hx1, h⟩ := Option.bind_eq_some_iff.mp h
  refine m_callV (As := []) (st1 := []) hx hb (hml.trans hl.1.symm) hown hts hKv hXs hXk hM (kX3_next l D cI ad hX0  M _ hx1) (cwV 0 hts gX3_readSemicolon_X3_next rfl rfl rfl (by decide +kernel) ⟨Nat.le_of_ble_eq_true rfl, Nat.le_of_ble_eq_true rfl⟩) (by decide) at_X3 rfl rfl rfl rfl (Nat.le_of_ble_eq_true rfl) dX3_readSemicolon_1 ⟨Nat.zero_le _, Nat.zero_le _⟩ (fun H locs hM => ?_)
  refine lv_aload_n hx hb dX3_readSemicolon_4 rfl (lv_at hl 0 rfl) ?_
  refine m_get hx hb hts hown hKv hM (fun _ h => List.mem_cons_of_mem _ (List.mem_append_right _ (h))) (by decide) at_X3 rfl 2 (by decide) k0 (v := .int (x1.1 1 2)) rfl dX3_readSemicolon_5 ?_
  refine lv_iconst (v := (5 : Int32)) hx hb dX3_readSemicolon_8 (by decide) ?_
  refine lv_icmp_eq (tgt := 14) hx hb dX3_readSemicolon_9 (by decide) (fun c2 => ?_) (fun c2 => ?_)
  · replace h := (if_pos c2).symm.trans h
    refine lv_aload_n hx hb dX3_readSemicolon_14 rfl (lv_at hl 0 rfl) ?_
    obtain ⟨x3, hx3, h⟩ := Option.bind_eq_some_iff.mp h
    refine m_callV (As := []) (st1 := []) hx hb (hml.trans hl.1.symm) hown hts hKv hXs hXk hM (kX3_next l D cI ad hX0  x1 _ hx3) (cwV 0 hts gX3_readSemicolon_X3_next rfl rfl rfl (by decide +kernel) ⟨Nat.le_of_ble_eq_true rfl, Nat.le_of_ble_eq_true rfl⟩) (by decide) at_X3 rfl rfl rfl rfl (Nat.le_of_ble_eq_true rfl) dX3_readSemicolon_15 ⟨Nat.zero_le _, Nat.zero_le _⟩ (fun H locs hM => ?_)
    refine lv_iconst (v := (1 : Int32)) hx hb dX3_readSemicolon_18 (by decide) ?_
    exact m_zret hx hb hr hlocks hM (congrArg (a₁ := ((1 : Int32), x3)) Prod.fst (Option.some.inj h)) rfl (congrArg (a₁ := ((1 : Int32), x3)) (fun z => Ec ad cI z.2) (Option.some.inj h)) dX3_readSemicolon_19
  · replace h := (if_neg c2).symm.trans h
    refine lv_iconst (v := (0 : Int32)) hx hb dX3_readSemicolon_12 (by decide) ?_
    exact m_zret hx hb hr hlocks hM (congrArg (a₁ := ((0 : Int32), x1)) Prod.fst (Option.some.inj h)) rfl (congrArg (a₁ := ((0 : Int32), x1)) (fun z => Ec ad cI z.2) (Option.some.inj h)) dX3_readSemicolon_13
set_option maxHeartbeats 4000000 in
set_option maxRecDepth 100000 in
theorem kX3_readTown (l : Launch) (D : va_G) (cI : ClassId) (ad : Nat → Nat) {X : State → Prop} {aS : Nat → Nat} (hX0 : cX D ad aS X) (b1 : Nat) (pb1 : isL b1) (M : Mem) (res : (Int32 × Mem)) (h : fX3_readTown b1 M = some res) : mC l yX3_readTown wsX3_readTown { frames := 10, cells := 0, slots := 0, locals := 244 } D [(cI, .int)] ad 40 X [.ref (ad 1), .ref (ad b1)] (Ec ad cI M) (some (.int res.1)) (Ec ad cI res.2) := by
  refine m_ofW (cc := cX3_readTown) (maxL := 3) (ret := (some .boolean)) (by decide) rfl (Nat.le_of_ble_eq_true rfl) ?_
  intro p e s m args below meth c hx hb hml hr hlocks hts hown hKv hXs ls hl hM
  have hXk := hX0.1
  have Z : mZ p s m args meth c cX3_readTown 3 (some .boolean) wsX3_readTown RX3 D [(cI, .int)] X := ⟨hx, hb, hml, hr, hlocks, hts, hown, hKv, hXs⟩
  replace hown : s.vm.findClass RX3 = some m.cls := hown
  have hl : lv_has ls 3 [(0, .ref (ad 1)), (1, .ref (ad b1))] := hl
  have k0 := hts (Cond.fieldLink RX3 49 "NoonWalker$Land" "towns" "I") (List.mem_of_getElem? (i := 1) rfl)
  have k1 := hts (Cond.fieldLink RX3 22 "NoonWalker$Reader" "number" "I") (List.mem_of_getElem? (i := 2) rfl)
  unfold fX3_readTown at h
  refine lv_aload_n hx hb dX3_readTown_0 rfl (lv_at hl 1 rfl) ?_
  refine m_get hx hb hts hown hKv hM (fun _ h => List.mem_cons_of_mem _ (List.mem_append_left _ (List.mem_append_right _ (h)))) (lt_X1 pb1) (at_X1 pb1) rfl 0 (by decide) k0 (v := .int (M.1 b1 0)) rfl dX3_readTown_1 ?_
  refine lv_bipush (v := (6 : Int32)) hx hb dX3_readTown_4 (by decide) ?_
  refine lv_icmp_lt (tgt := 11) hx hb dX3_readTown_6 (by decide) (fun c1 => ?_) (fun c1 => ?_)
  · replace h := (if_pos c1).symm.trans h
    refine lv_aload_n hx hb dX3_readTown_11 rfl (lv_at hl 0 rfl) ?_
    refine lv_iconst (v := (0 : Int32)) hx hb dX3_readTown_12 (by decide) ?_
    refine lv_bipush (v := (99 : Int32)) hx hb dX3_readTown_13 (by decide) ?_
    obtain ⟨x2, hx2, h⟩ := Option.bind_eq_some_iff.mp h
    refine m_callV (As := [.int (0 : Int32), .int (99 : Int32)]) (st1 := [.int x2.1]) hx hb (hml.trans hl.1.symm) hown hts hKv hXs hXk hM (kX3_readNumber l D cI ad hX0 (0 : Int32) (99 : Int32) M _ hx2) (cwV 2 hts gX3_readTown_X3_readNumber rfl rfl rfl (by decide +kernel) ⟨Nat.le_of_ble_eq_true rfl, Nat.le_of_ble_eq_true rfl⟩) (by decide) at_X3 rfl rfl rfl rfl (Nat.le_of_ble_eq_true rfl) dX3_readTown_15 ⟨Nat.zero_le _, Nat.zero_le _⟩ (fun H locs hM => ?_)
    refine lv_if_ne (tgt := 23) hx hb dX3_readTown_18 (by decide) (fun c3 => ?_) (fun c3 => ?_)
    · replace h := (if_neg c3).symm.trans h
      refine lv_aload_n hx hb dX3_readTown_23 rfl (lv_at hl 0 rfl) ?_
      refine m_get hx hb hts hown hKv hM (fun _ h => List.mem_cons_of_mem _ (List.mem_append_right _ (h))) (by decide) at_X3 rfl 3 (by decide) k1 (v := .int (x2.2.1 1 3)) rfl dX3_readTown_24 ?_
      refine lv_istore_n (lv' := [(2, .int (x2.2.1 1 3)), (0, .ref (ad 1)), (1, .ref (ad b1))]) hx hb dX3_readTown_27 rfl hl (by decide) rfl (fun ls hl => ?_)
      refine lv_aload_n hx hb dX3_readTown_28 rfl (lv_at hl 1 rfl) ?_
      obtain ⟨x4, hx4, h⟩ := Option.bind_eq_some_iff.mp h
      refine m_callV (As := []) (st1 := [.int x4.1]) hx hb (hml.trans hl.1.symm) hown hts hKv hXs hXk hM (kX3_readSemicolon l D cI ad hX0  x2.2 _ hx4) (cwV 0 hts gX3_readTown_X3_readSemicolon rfl rfl rfl (by decide +kernel) ⟨Nat.le_of_ble_eq_true rfl, Nat.le_of_ble_eq_true rfl⟩) (by decide) at_X3 rfl rfl rfl rfl (Nat.le_of_ble_eq_true rfl) dX3_readTown_29 ⟨Nat.zero_le _, Nat.zero_le _⟩ (fun H locs hM => ?_)
      refine lv_if_ne (tgt := 37) hx hb dX3_readTown_32 (by decide) (fun c5 => ?_) (fun c5 => ?_)
      · replace h := (if_neg c5).symm.trans h
        refine lv_aload_n hx hb dX3_readTown_37 rfl (lv_at hl 2 rfl) ?_
        refine lv_iload_n hx hb dX3_readTown_38 rfl (lv_at hl 0 rfl) ?_
        obtain ⟨x6, hx6, h⟩ := Option.bind_eq_some_iff.mp h
        refine m_callV (As := [.int (x2.2.1 1 3)]) (st1 := []) hx hb (hml.trans hl.1.symm) hown hts hKv hXs hXk hM (kX1_addTown l D cI ad hX0 b1 pb1 (x2.2.1 1 3) x4.2 _ hx6) (cwV 1 hts gX3_readTown_X1_addTown rfl rfl rfl (by decide +kernel) ⟨Nat.le_of_ble_eq_true rfl, Nat.le_of_ble_eq_true rfl⟩) (lt_X1 pb1) (at_X1 pb1) rfl rfl rfl rfl (Nat.le_of_ble_eq_true rfl) dX3_readTown_39 ⟨Nat.zero_le _, Nat.zero_le _⟩ (fun H locs hM => ?_)
        refine lv_iconst (v := (1 : Int32)) hx hb dX3_readTown_42 (by decide) ?_
        exact m_zret hx hb hr hlocks hM (congrArg (a₁ := ((1 : Int32), x6)) Prod.fst (Option.some.inj h)) rfl (congrArg (a₁ := ((1 : Int32), x6)) (fun z => Ec ad cI z.2) (Option.some.inj h)) dX3_readTown_43
      · replace h := (if_pos c5).symm.trans h
        refine lv_iconst (v := (0 : Int32)) hx hb dX3_readTown_35 (by decide) ?_
        exact m_zret hx hb hr hlocks hM (congrArg (a₁ := ((0 : Int32), x4.2)) Prod.fst (Option.some.inj h)) rfl (congrArg (a₁ := ((0 : Int32), x4.2)) (fun z => Ec ad cI z.2) (Option.some.inj h)) dX3_readTown_36
    · replace h := (if_pos c3).symm.trans h
      refine lv_iconst (v := (0 : Int32)) hx hb dX3_readTown_21 (by decide) ?_
      exact m_zret hx hb hr hlocks hM (congrArg (a₁ := ((0 : Int32), x2.2)) Prod.fst (Option.some.inj h)) rfl (congrArg (a₁ := ((0 : Int32), x2.2)) (fun z => Ec ad cI z.2) (Option.some.inj h)) dX3_readTown_22
  · replace h := (if_neg c1).symm.trans h
    refine lv_iconst (v := (0 : Int32)) hx hb dX3_readTown_9 (by decide) ?_
    exact m_zret hx hb hr hlocks hM (congrArg (a₁ := ((0 : Int32), M)) Prod.fst (Option.some.inj h)) rfl (congrArg (a₁ := ((0 : Int32), M)) (fun z => Ec ad cI z.2) (Option.some.inj h)) dX3_readTown_10
set_option maxHeartbeats 4000000 in
set_option maxRecDepth 100000 in
theorem kX3_readRoad (l : Launch) (D : va_G) (cI : ClassId) (ad : Nat → Nat) {X : State → Prop} {aS : Nat → Nat} (hX0 : cX D ad aS X) (b1 : Nat) (pb1 : isL b1) (M : Mem) (res : (Int32 × Mem)) (h : fX3_readRoad b1 M = some res) : mC l yX3_readRoad wsX3_readRoad { frames := 10, cells := 0, slots := 0, locals := 244 } D [(cI, .int)] ad 40 X [.ref (ad 1), .ref (ad b1)] (Ec ad cI M) (some (.int res.1)) (Ec ad cI res.2) := by
  refine m_ofW (cc := cX3_readRoad) (maxL := 5) (ret := (some .boolean)) (by decide) rfl (Nat.le_of_ble_eq_true rfl) ?_
  intro p e s m args below meth c hx hb hml hr hlocks hts hown hKv hXs ls hl hM
  have hXk := hX0.1
  have Z : mZ p s m args meth c cX3_readRoad 5 (some .boolean) wsX3_readRoad RX3 D [(cI, .int)] X := ⟨hx, hb, hml, hr, hlocks, hts, hown, hKv, hXs⟩
  replace hown : s.vm.findClass RX3 = some m.cls := hown
  have hl : lv_has ls 5 [(0, .ref (ad 1)), (1, .ref (ad b1))] := hl
  have k0 := hts (Cond.fieldLink RX3 64 "NoonWalker$Land" "roads" "I") (List.mem_of_getElem? (i := 1) rfl)
  have k1 := hts (Cond.fieldLink RX3 49 "NoonWalker$Land" "towns" "I") (List.mem_of_getElem? (i := 2) rfl)
  have k2 := hts (Cond.fieldLink RX3 22 "NoonWalker$Reader" "number" "I") (List.mem_of_getElem? (i := 3) rfl)
  unfold fX3_readRoad at h
  refine lv_aload_n hx hb dX3_readRoad_0 rfl (lv_at hl 1 rfl) ?_
  refine m_get hx hb hts hown hKv hM (fun _ h => List.mem_cons_of_mem _ (List.mem_append_left _ (List.mem_append_right _ (h)))) (lt_X1 pb1) (at_X1 pb1) rfl 2 (by decide) k0 (v := .int (M.1 b1 2)) rfl dX3_readRoad_1 ?_
  refine lv_bipush (v := (10 : Int32)) hx hb dX3_readRoad_4 (by decide) ?_
  refine lv_icmp_lt (tgt := 11) hx hb dX3_readRoad_6 (by decide) (fun c1 => ?_) (fun c1 => ?_)
  · replace h := (if_pos c1).symm.trans h
    refine lv_aload_n hx hb dX3_readRoad_11 rfl (lv_at hl 0 rfl) ?_
    refine lv_iconst (v := (0 : Int32)) hx hb dX3_readRoad_12 (by decide) ?_
    refine lv_aload_n hx hb dX3_readRoad_13 rfl (lv_at hl 1 rfl) ?_
    refine m_get hx hb hts hown hKv hM (fun _ h => List.mem_cons_of_mem _ (List.mem_append_left _ (List.mem_append_right _ (h)))) (lt_X1 pb1) (at_X1 pb1) rfl 0 (by decide) k1 (v := .int (M.1 b1 0)) rfl dX3_readRoad_14 ?_
    refine lv_iconst (v := (1 : Int32)) hx hb dX3_readRoad_17 (by decide) ?_
    refine lv_isub hx hb dX3_readRoad_18 ?_
    obtain ⟨x2, hx2, h⟩ := Option.bind_eq_some_iff.mp h
    refine m_callV (As := [.int (0 : Int32), .int ((M.1 b1 0) - (1 : Int32))]) (st1 := [.int x2.1]) hx hb (hml.trans hl.1.symm) hown hts hKv hXs hXk hM (kX3_readNumber l D cI ad hX0 (0 : Int32) ((M.1 b1 0) - (1 : Int32)) M _ hx2) (cwV 2 hts gX3_readRoad_X3_readNumber rfl rfl rfl (by decide +kernel) ⟨Nat.le_of_ble_eq_true rfl, Nat.le_of_ble_eq_true rfl⟩) (by decide) at_X3 rfl rfl rfl rfl (Nat.le_of_ble_eq_true rfl) dX3_readRoad_19 ⟨Nat.zero_le _, Nat.zero_le _⟩ (fun H locs hM => ?_)
    refine lv_if_ne (tgt := 27) hx hb dX3_readRoad_22 (by decide) (fun c3 => ?_) (fun c3 => ?_)
    · replace h := (if_neg c3).symm.trans h
      refine lv_aload_n hx hb dX3_readRoad_27 rfl (lv_at hl 0 rfl) ?_
      refine m_get hx hb hts hown hKv hM (fun _ h => List.mem_cons_of_mem _ (List.mem_append_right _ (h))) (by decide) at_X3 rfl 3 (by decide) k2 (v := .int (x2.2.1 1 3)) rfl dX3_readRoad_28 ?_
      refine lv_istore_n (lv' := [(2, .int (x2.2.1 1 3)), (0, .ref (ad 1)), (1, .ref (ad b1))]) hx hb dX3_readRoad_31 rfl hl (by decide) rfl (fun ls hl => ?_)
      refine lv_aload_n hx hb dX3_readRoad_32 rfl (lv_at hl 1 rfl) ?_
      refine lv_iconst (v := (0 : Int32)) hx hb dX3_readRoad_33 (by decide) ?_
      refine lv_aload_n hx hb dX3_readRoad_34 rfl (lv_at hl 2 rfl) ?_
      refine m_get hx hb hts hown hKv hM (fun _ h => List.mem_cons_of_mem _ (List.mem_append_left _ (List.mem_append_right _ (h)))) (lt_X1 pb1) (at_X1 pb1) rfl 0 (by decide) k1 (v := .int (x2.2.1 b1 0)) rfl dX3_readRoad_35 ?_
      refine lv_iconst (v := (1 : Int32)) hx hb dX3_readRoad_38 (by decide) ?_
      refine lv_isub hx hb dX3_readRoad_39 ?_
      obtain ⟨x4, hx4, h⟩ := Option.bind_eq_some_iff.mp h
      refine m_callV (As := [.int (0 : Int32), .int ((x2.2.1 b1 0) - (1 : Int32))]) (st1 := [.int x4.1]) hx hb (hml.trans hl.1.symm) hown hts hKv hXs hXk hM (kX3_readNumber l D cI ad hX0 (0 : Int32) ((x2.2.1 b1 0) - (1 : Int32)) x2.2 _ hx4) (cwV 2 hts gX3_readRoad_X3_readNumber rfl rfl rfl (by decide +kernel) ⟨Nat.le_of_ble_eq_true rfl, Nat.le_of_ble_eq_true rfl⟩) (by decide) at_X3 rfl rfl rfl rfl (Nat.le_of_ble_eq_true rfl) dX3_readRoad_40 ⟨Nat.zero_le _, Nat.zero_le _⟩ (fun H locs hM => ?_)
      refine lv_if_eq (tgt := 54) hx hb dX3_readRoad_43 (by decide) (fun c5 => ?_) (fun c5 => ?_)
      · replace h := (if_pos c5).symm.trans h
        refine lv_iconst (v := (0 : Int32)) hx hb dX3_readRoad_54 (by decide) ?_
        exact m_zret hx hb hr hlocks hM (congrArg (a₁ := ((0 : Int32), x4.2)) Prod.fst (Option.some.inj h)) rfl (congrArg (a₁ := ((0 : Int32), x4.2)) (fun z => Ec ad cI z.2) (Option.some.inj h)) dX3_readRoad_55
      · replace h := (if_neg c5).symm.trans h
        refine lv_aload_n hx hb dX3_readRoad_46 rfl (lv_at hl 1 rfl) ?_
        refine m_get hx hb hts hown hKv hM (fun _ h => List.mem_cons_of_mem _ (List.mem_append_right _ (h))) (by decide) at_X3 rfl 3 (by decide) k2 (v := .int (x4.2.1 1 3)) rfl dX3_readRoad_47 ?_
        refine lv_iload_n hx hb dX3_readRoad_50 rfl (lv_at hl 0 rfl) ?_
        refine lv_icmp_ne (tgt := 56) hx hb dX3_readRoad_51 (by decide) (fun c6 => ?_) (fun c6 => ?_)
        · replace h := (if_neg c6).symm.trans h
          refine lv_aload_n hx hb dX3_readRoad_56 rfl (lv_at hl 1 rfl) ?_
          refine m_get hx hb hts hown hKv hM (fun _ h => List.mem_cons_of_mem _ (List.mem_append_right _ (h))) (by decide) at_X3 rfl 3 (by decide) k2 (v := .int (x4.2.1 1 3)) rfl dX3_readRoad_57 ?_
          refine lv_istore_n (lv' := [(3, .int (x4.2.1 1 3)), (2, .int (x2.2.1 1 3)), (0, .ref (ad 1)), (1, .ref (ad b1))]) hx hb dX3_readRoad_60 rfl hl (by decide) rfl (fun ls hl => ?_)
          refine lv_aload_n hx hb dX3_readRoad_61 rfl (lv_at hl 2 rfl) ?_
          refine lv_iconst (v := (1 : Int32)) hx hb dX3_readRoad_62 (by decide) ?_
          refine lv_bipush (v := (30 : Int32)) hx hb dX3_readRoad_63 (by decide) ?_
          obtain ⟨x7, hx7, h⟩ := Option.bind_eq_some_iff.mp h
          refine m_callV (As := [.int (1 : Int32), .int (30 : Int32)]) (st1 := [.int x7.1]) hx hb (hml.trans hl.1.symm) hown hts hKv hXs hXk hM (kX3_readNumber l D cI ad hX0 (1 : Int32) (30 : Int32) x4.2 _ hx7) (cwV 2 hts gX3_readRoad_X3_readNumber rfl rfl rfl (by decide +kernel) ⟨Nat.le_of_ble_eq_true rfl, Nat.le_of_ble_eq_true rfl⟩) (by decide) at_X3 rfl rfl rfl rfl (Nat.le_of_ble_eq_true rfl) dX3_readRoad_65 ⟨Nat.zero_le _, Nat.zero_le _⟩ (fun H locs hM => ?_)
          refine lv_if_ne (tgt := 73) hx hb dX3_readRoad_68 (by decide) (fun c8 => ?_) (fun c8 => ?_)
          · replace h := (if_neg c8).symm.trans h
            refine lv_aload_n hx hb dX3_readRoad_73 rfl (lv_at hl 2 rfl) ?_
            refine m_get hx hb hts hown hKv hM (fun _ h => List.mem_cons_of_mem _ (List.mem_append_right _ (h))) (by decide) at_X3 rfl 3 (by decide) k2 (v := .int (x7.2.1 1 3)) rfl dX3_readRoad_74 ?_
            refine lv_istore (lv' := [(4, .int (x7.2.1 1 3)), (3, .int (x4.2.1 1 3)), (2, .int (x2.2.1 1 3)), (0, .ref (ad 1)), (1, .ref (ad b1))]) hx hb dX3_readRoad_77 hl (by decide) rfl (fun ls hl => ?_)
            refine lv_aload_n hx hb dX3_readRoad_79 rfl (lv_at hl 3 rfl) ?_
            obtain ⟨x9, hx9, h⟩ := Option.bind_eq_some_iff.mp h
            refine m_callV (As := []) (st1 := [.int x9.1]) hx hb (hml.trans hl.1.symm) hown hts hKv hXs hXk hM (kX3_readSemicolon l D cI ad hX0  x7.2 _ hx9) (cwV 0 hts gX3_readRoad_X3_readSemicolon rfl rfl rfl (by decide +kernel) ⟨Nat.le_of_ble_eq_true rfl, Nat.le_of_ble_eq_true rfl⟩) (by decide) at_X3 rfl rfl rfl rfl (Nat.le_of_ble_eq_true rfl) dX3_readRoad_80 ⟨Nat.zero_le _, Nat.zero_le _⟩ (fun H locs hM => ?_)
            refine lv_if_ne (tgt := 88) hx hb dX3_readRoad_83 (by decide) (fun c10 => ?_) (fun c10 => ?_)
            · replace h := (if_neg c10).symm.trans h
              refine lv_aload_n hx hb dX3_readRoad_88 rfl (lv_at hl 4 rfl) ?_
              refine lv_iload_n hx hb dX3_readRoad_89 rfl (lv_at hl 2 rfl) ?_
              refine lv_iload_n hx hb dX3_readRoad_90 rfl (lv_at hl 1 rfl) ?_
              refine lv_iload hx hb dX3_readRoad_91 (lv_at hl 0 rfl) ?_
              obtain ⟨x11, hx11, h⟩ := Option.bind_eq_some_iff.mp h
              refine m_callV (As := [.int (x2.2.1 1 3), .int (x4.2.1 1 3), .int (x7.2.1 1 3)]) (st1 := []) hx hb (hml.trans hl.1.symm) hown hts hKv hXs hXk hM (kX1_addRoad l D cI ad hX0 b1 pb1 (x2.2.1 1 3) (x4.2.1 1 3) (x7.2.1 1 3) x9.2 _ hx11) (cwV 3 hts gX3_readRoad_X1_addRoad rfl rfl rfl (by decide +kernel) ⟨Nat.le_of_ble_eq_true rfl, Nat.le_of_ble_eq_true rfl⟩) (lt_X1 pb1) (at_X1 pb1) rfl rfl rfl rfl (Nat.le_of_ble_eq_true rfl) dX3_readRoad_93 ⟨Nat.zero_le _, Nat.zero_le _⟩ (fun H locs hM => ?_)
              refine lv_iconst (v := (1 : Int32)) hx hb dX3_readRoad_96 (by decide) ?_
              exact m_zret hx hb hr hlocks hM (congrArg (a₁ := ((1 : Int32), x11)) Prod.fst (Option.some.inj h)) rfl (congrArg (a₁ := ((1 : Int32), x11)) (fun z => Ec ad cI z.2) (Option.some.inj h)) dX3_readRoad_97
            · replace h := (if_pos c10).symm.trans h
              refine lv_iconst (v := (0 : Int32)) hx hb dX3_readRoad_86 (by decide) ?_
              exact m_zret hx hb hr hlocks hM (congrArg (a₁ := ((0 : Int32), x9.2)) Prod.fst (Option.some.inj h)) rfl (congrArg (a₁ := ((0 : Int32), x9.2)) (fun z => Ec ad cI z.2) (Option.some.inj h)) dX3_readRoad_87
          · replace h := (if_pos c8).symm.trans h
            refine lv_iconst (v := (0 : Int32)) hx hb dX3_readRoad_71 (by decide) ?_
            exact m_zret hx hb hr hlocks hM (congrArg (a₁ := ((0 : Int32), x7.2)) Prod.fst (Option.some.inj h)) rfl (congrArg (a₁ := ((0 : Int32), x7.2)) (fun z => Ec ad cI z.2) (Option.some.inj h)) dX3_readRoad_72
        · replace h := (if_pos c6).symm.trans h
          refine lv_iconst (v := (0 : Int32)) hx hb dX3_readRoad_54 (by decide) ?_
          exact m_zret hx hb hr hlocks hM (congrArg (a₁ := ((0 : Int32), x4.2)) Prod.fst (Option.some.inj h)) rfl (congrArg (a₁ := ((0 : Int32), x4.2)) (fun z => Ec ad cI z.2) (Option.some.inj h)) dX3_readRoad_55
    · replace h := (if_pos c3).symm.trans h
      refine lv_iconst (v := (0 : Int32)) hx hb dX3_readRoad_25 (by decide) ?_
      exact m_zret hx hb hr hlocks hM (congrArg (a₁ := ((0 : Int32), x2.2)) Prod.fst (Option.some.inj h)) rfl (congrArg (a₁ := ((0 : Int32), x2.2)) (fun z => Ec ad cI z.2) (Option.some.inj h)) dX3_readRoad_26
  · replace h := (if_neg c1).symm.trans h
    refine lv_iconst (v := (0 : Int32)) hx hb dX3_readRoad_9 (by decide) ?_
    exact m_zret hx hb hr hlocks hM (congrArg (a₁ := ((0 : Int32), M)) Prod.fst (Option.some.inj h)) rfl (congrArg (a₁ := ((0 : Int32), M)) (fun z => Ec ad cI z.2) (Option.some.inj h)) dX3_readRoad_10
set_option maxHeartbeats 4000000 in
set_option maxRecDepth 100000 in
theorem kX3_readStop (l : Launch) (D : va_G) (cI : ClassId) (ad : Nat → Nat) {X : State → Prop} {aS : Nat → Nat} (hX0 : cX D ad aS X) (b1 : Nat) (pb1 : isL b1) (M : Mem) (res : (Int32 × Mem)) (h : fX3_readStop b1 M = some res) : mC l yX3_readStop wsX3_readStop { frames := 10, cells := 0, slots := 0, locals := 244 } D [(cI, .int)] ad 40 X [.ref (ad 1), .ref (ad b1)] (Ec ad cI M) (some (.int res.1)) (Ec ad cI res.2) := by
  refine m_ofW (cc := cX3_readStop) (maxL := 4) (ret := (some .boolean)) (by decide) rfl (Nat.le_of_ble_eq_true rfl) ?_
  intro p e s m args below meth c hx hb hml hr hlocks hts hown hKv hXs ls hl hM
  have hXk := hX0.1
  have Z : mZ p s m args meth c cX3_readStop 4 (some .boolean) wsX3_readStop RX3 D [(cI, .int)] X := ⟨hx, hb, hml, hr, hlocks, hts, hown, hKv, hXs⟩
  replace hown : s.vm.findClass RX3 = some m.cls := hown
  have hl : lv_has ls 4 [(0, .ref (ad 1)), (1, .ref (ad b1))] := hl
  have k0 := hts (Cond.fieldLink RX3 71 "NoonWalker$Land" "stops" "I") (List.mem_of_getElem? (i := 1) rfl)
  have k1 := hts (Cond.fieldLink RX3 49 "NoonWalker$Land" "towns" "I") (List.mem_of_getElem? (i := 2) rfl)
  have k2 := hts (Cond.fieldLink RX3 22 "NoonWalker$Reader" "number" "I") (List.mem_of_getElem? (i := 3) rfl)
  unfold fX3_readStop at h
  refine lv_aload_n hx hb dX3_readStop_0 rfl (lv_at hl 1 rfl) ?_
  refine m_get hx hb hts hown hKv hM (fun _ h => List.mem_cons_of_mem _ (List.mem_append_left _ (List.mem_append_right _ (h)))) (lt_X1 pb1) (at_X1 pb1) rfl 6 (by decide) k0 (v := .int (M.1 b1 6)) rfl dX3_readStop_1 ?_
  refine lv_bipush (v := (10 : Int32)) hx hb dX3_readStop_4 (by decide) ?_
  refine lv_icmp_lt (tgt := 11) hx hb dX3_readStop_6 (by decide) (fun c1 => ?_) (fun c1 => ?_)
  · replace h := (if_pos c1).symm.trans h
    refine lv_aload_n hx hb dX3_readStop_11 rfl (lv_at hl 0 rfl) ?_
    refine lv_iconst (v := (0 : Int32)) hx hb dX3_readStop_12 (by decide) ?_
    refine lv_aload_n hx hb dX3_readStop_13 rfl (lv_at hl 1 rfl) ?_
    refine m_get hx hb hts hown hKv hM (fun _ h => List.mem_cons_of_mem _ (List.mem_append_left _ (List.mem_append_right _ (h)))) (lt_X1 pb1) (at_X1 pb1) rfl 0 (by decide) k1 (v := .int (M.1 b1 0)) rfl dX3_readStop_14 ?_
    refine lv_iconst (v := (1 : Int32)) hx hb dX3_readStop_17 (by decide) ?_
    refine lv_isub hx hb dX3_readStop_18 ?_
    obtain ⟨x2, hx2, h⟩ := Option.bind_eq_some_iff.mp h
    refine m_callV (As := [.int (0 : Int32), .int ((M.1 b1 0) - (1 : Int32))]) (st1 := [.int x2.1]) hx hb (hml.trans hl.1.symm) hown hts hKv hXs hXk hM (kX3_readNumber l D cI ad hX0 (0 : Int32) ((M.1 b1 0) - (1 : Int32)) M _ hx2) (cwV 2 hts gX3_readStop_X3_readNumber rfl rfl rfl (by decide +kernel) ⟨Nat.le_of_ble_eq_true rfl, Nat.le_of_ble_eq_true rfl⟩) (by decide) at_X3 rfl rfl rfl rfl (Nat.le_of_ble_eq_true rfl) dX3_readStop_19 ⟨Nat.zero_le _, Nat.zero_le _⟩ (fun H locs hM => ?_)
    refine lv_if_eq (tgt := 36) hx hb dX3_readStop_22 (by decide) (fun c3 => ?_) (fun c3 => ?_)
    · replace h := (if_pos c3).symm.trans h
      refine lv_iconst (v := (0 : Int32)) hx hb dX3_readStop_36 (by decide) ?_
      exact m_zret hx hb hr hlocks hM (congrArg (a₁ := ((0 : Int32), x2.2)) Prod.fst (Option.some.inj h)) rfl (congrArg (a₁ := ((0 : Int32), x2.2)) (fun z => Ec ad cI z.2) (Option.some.inj h)) dX3_readStop_37
    · replace h := (if_neg c3).symm.trans h
      refine lv_aload_n hx hb dX3_readStop_25 rfl (lv_at hl 1 rfl) ?_
      refine lv_aload_n hx hb dX3_readStop_26 rfl (lv_at hl 0 rfl) ?_
      refine m_get hx hb hts hown hKv hM (fun _ h => List.mem_cons_of_mem _ (List.mem_append_right _ (h))) (by decide) at_X3 rfl 3 (by decide) k2 (v := .int (x2.2.1 1 3)) rfl dX3_readStop_27 ?_
      obtain ⟨x4, hx4, h⟩ := Option.bind_eq_some_iff.mp h
      refine m_callV (As := [.int (x2.2.1 1 3)]) (st1 := [.int x4]) hx hb (hml.trans hl.1.symm) hown hts hKv hXs hXk hM (kX1_canStopNext l D cI ad hX0 b1 pb1 (x2.2.1 1 3) x2.2 _ hx4) (cwV 1 hts gX3_readStop_X1_canStopNext rfl rfl rfl (by decide +kernel) ⟨Nat.le_of_ble_eq_true rfl, Nat.le_of_ble_eq_true rfl⟩) (lt_X1 pb1) (at_X1 pb1) rfl rfl rfl rfl (Nat.le_of_ble_eq_true rfl) dX3_readStop_30 ⟨Nat.zero_le _, Nat.zero_le _⟩ (fun H locs hM => ?_)
      refine lv_if_ne (tgt := 38) hx hb dX3_readStop_33 (by decide) (fun c5 => ?_) (fun c5 => ?_)
      · replace h := (if_neg c5).symm.trans h
        refine lv_aload_n hx hb dX3_readStop_38 rfl (lv_at hl 0 rfl) ?_
        refine m_get hx hb hts hown hKv hM (fun _ h => List.mem_cons_of_mem _ (List.mem_append_right _ (h))) (by decide) at_X3 rfl 3 (by decide) k2 (v := .int (x2.2.1 1 3)) rfl dX3_readStop_39 ?_
        refine lv_istore_n (lv' := [(2, .int (x2.2.1 1 3)), (0, .ref (ad 1)), (1, .ref (ad b1))]) hx hb dX3_readStop_42 rfl hl (by decide) rfl (fun ls hl => ?_)
        refine lv_aload_n hx hb dX3_readStop_43 rfl (lv_at hl 1 rfl) ?_
        refine lv_iconst (v := (0 : Int32)) hx hb dX3_readStop_44 (by decide) ?_
        refine lv_bipush (v := (9 : Int32)) hx hb dX3_readStop_45 (by decide) ?_
        obtain ⟨x6, hx6, h⟩ := Option.bind_eq_some_iff.mp h
        refine m_callV (As := [.int (0 : Int32), .int (9 : Int32)]) (st1 := [.int x6.1]) hx hb (hml.trans hl.1.symm) hown hts hKv hXs hXk hM (kX3_readNumber l D cI ad hX0 (0 : Int32) (9 : Int32) x2.2 _ hx6) (cwV 2 hts gX3_readStop_X3_readNumber rfl rfl rfl (by decide +kernel) ⟨Nat.le_of_ble_eq_true rfl, Nat.le_of_ble_eq_true rfl⟩) (by decide) at_X3 rfl rfl rfl rfl (Nat.le_of_ble_eq_true rfl) dX3_readStop_47 ⟨Nat.zero_le _, Nat.zero_le _⟩ (fun H locs hM => ?_)
        refine lv_if_ne (tgt := 55) hx hb dX3_readStop_50 (by decide) (fun c7 => ?_) (fun c7 => ?_)
        · replace h := (if_neg c7).symm.trans h
          refine lv_aload_n hx hb dX3_readStop_55 rfl (lv_at hl 1 rfl) ?_
          refine m_get hx hb hts hown hKv hM (fun _ h => List.mem_cons_of_mem _ (List.mem_append_right _ (h))) (by decide) at_X3 rfl 3 (by decide) k2 (v := .int (x6.2.1 1 3)) rfl dX3_readStop_56 ?_
          refine lv_istore_n (lv' := [(3, .int (x6.2.1 1 3)), (2, .int (x2.2.1 1 3)), (0, .ref (ad 1)), (1, .ref (ad b1))]) hx hb dX3_readStop_59 rfl hl (by decide) rfl (fun ls hl => ?_)
          refine lv_aload_n hx hb dX3_readStop_60 rfl (lv_at hl 2 rfl) ?_
          obtain ⟨x8, hx8, h⟩ := Option.bind_eq_some_iff.mp h
          refine m_callV (As := []) (st1 := [.int x8.1]) hx hb (hml.trans hl.1.symm) hown hts hKv hXs hXk hM (kX3_readSemicolon l D cI ad hX0  x6.2 _ hx8) (cwV 0 hts gX3_readStop_X3_readSemicolon rfl rfl rfl (by decide +kernel) ⟨Nat.le_of_ble_eq_true rfl, Nat.le_of_ble_eq_true rfl⟩) (by decide) at_X3 rfl rfl rfl rfl (Nat.le_of_ble_eq_true rfl) dX3_readStop_61 ⟨Nat.zero_le _, Nat.zero_le _⟩ (fun H locs hM => ?_)
          refine lv_if_ne (tgt := 69) hx hb dX3_readStop_64 (by decide) (fun c9 => ?_) (fun c9 => ?_)
          · replace h := (if_neg c9).symm.trans h
            refine lv_aload_n hx hb dX3_readStop_69 rfl (lv_at hl 3 rfl) ?_
            refine lv_iload_n hx hb dX3_readStop_70 rfl (lv_at hl 1 rfl) ?_
            refine lv_iload_n hx hb dX3_readStop_71 rfl (lv_at hl 0 rfl) ?_
            obtain ⟨x10, hx10, h⟩ := Option.bind_eq_some_iff.mp h
            refine m_callV (As := [.int (x2.2.1 1 3), .int (x6.2.1 1 3)]) (st1 := []) hx hb (hml.trans hl.1.symm) hown hts hKv hXs hXk hM (kX1_addStop l D cI ad hX0 b1 pb1 (x2.2.1 1 3) (x6.2.1 1 3) x8.2 _ hx10) (cwV 2 hts gX3_readStop_X1_addStop rfl rfl rfl (by decide +kernel) ⟨Nat.le_of_ble_eq_true rfl, Nat.le_of_ble_eq_true rfl⟩) (lt_X1 pb1) (at_X1 pb1) rfl rfl rfl rfl (Nat.le_of_ble_eq_true rfl) dX3_readStop_72 ⟨Nat.zero_le _, Nat.zero_le _⟩ (fun H locs hM => ?_)
            refine lv_iconst (v := (1 : Int32)) hx hb dX3_readStop_75 (by decide) ?_
            exact m_zret hx hb hr hlocks hM (congrArg (a₁ := ((1 : Int32), x10)) Prod.fst (Option.some.inj h)) rfl (congrArg (a₁ := ((1 : Int32), x10)) (fun z => Ec ad cI z.2) (Option.some.inj h)) dX3_readStop_76
          · replace h := (if_pos c9).symm.trans h
            refine lv_iconst (v := (0 : Int32)) hx hb dX3_readStop_67 (by decide) ?_
            exact m_zret hx hb hr hlocks hM (congrArg (a₁ := ((0 : Int32), x8.2)) Prod.fst (Option.some.inj h)) rfl (congrArg (a₁ := ((0 : Int32), x8.2)) (fun z => Ec ad cI z.2) (Option.some.inj h)) dX3_readStop_68
        · replace h := (if_pos c7).symm.trans h
          refine lv_iconst (v := (0 : Int32)) hx hb dX3_readStop_53 (by decide) ?_
          exact m_zret hx hb hr hlocks hM (congrArg (a₁ := ((0 : Int32), x6.2)) Prod.fst (Option.some.inj h)) rfl (congrArg (a₁ := ((0 : Int32), x6.2)) (fun z => Ec ad cI z.2) (Option.some.inj h)) dX3_readStop_54
      · replace h := (if_pos c5).symm.trans h
        refine lv_iconst (v := (0 : Int32)) hx hb dX3_readStop_36 (by decide) ?_
        exact m_zret hx hb hr hlocks hM (congrArg (a₁ := ((0 : Int32), x2.2)) Prod.fst (Option.some.inj h)) rfl (congrArg (a₁ := ((0 : Int32), x2.2)) (fun z => Ec ad cI z.2) (Option.some.inj h)) dX3_readStop_37
  · replace h := (if_neg c1).symm.trans h
    refine lv_iconst (v := (0 : Int32)) hx hb dX3_readStop_9 (by decide) ?_
    exact m_zret hx hb hr hlocks hM (congrArg (a₁ := ((0 : Int32), M)) Prod.fst (Option.some.inj h)) rfl (congrArg (a₁ := ((0 : Int32), M)) (fun z => Ec ad cI z.2) (Option.some.inj h)) dX3_readStop_10
set_option maxHeartbeats 4000000 in
set_option maxRecDepth 100000 in
theorem wX3_readAll_15 {p : Program} {l : Launch} {e : Env} {s : State} {m : MethodId} {args : Array Value} {below : List Frame} {meth : Method} {c : Code} {D : va_G} {cI : ClassId} {ad : Nat → Nat} {X : State → Prop} (Z : mZ p s m args meth c cX3_readAll 5 (some .int) wsX3_readAll RX3 D [(cI, .int)] X) {aS : Nat → Nat} (hX0 : cX D ad aS X) (b1 : Nat) (pb1 : isL b1)    {K : Int32 → Mem → Option (Int32 × Mem)} (res : (Int32 × Mem)) (hKc : ∀ (y2 : Int32) (M1 : Mem), K y2 M1 = some res → ∀ (H : Heap) (locs : List Loc) (ls : Array Slot), lv_has ls 5 [(2, .int y2)] → mH D ad 40 (Ec ad cI M1) s.heap H locs → W p l e { frames := 11, cells := 0, slots := 0, locals := 268 } s m args below meth c H locs 0 0 (MQ below (mQ D ad 40 (some (.int res.1)) (Ec ad cI res.2)) args s 0 0 (mA ad 40)) (F0 m 94 ls [])) :
    ∀ (n : Nat) (v2 : Int32) (M : Mem), fX3_readAll_15 b1 K n v2 M = some res → ∀ (H : Heap) (locs : List Loc) (ls : Array Slot), lv_has ls 5 [(0, .ref (ad 1)), (1, .ref (ad b1)), (2, .int v2)] → mH D ad 40 (Ec ad cI M) s.heap H locs → W p l e { frames := 11, cells := 0, slots := 0, locals := 268 } s m args below meth c H locs 0 0 (MQ below (mQ D ad 40 (some (.int res.1)) (Ec ad cI res.2)) args s 0 0 (mA ad 40)) (F0 m 15 ls []) := by
  obtain ⟨hx, hb, hml, hr, hlocks, hts, hown, hKv, hXs⟩ := id Z
  have hXk := hX0.1
  have k0 := hts (Cond.fieldLink RX3 19 "NoonWalker$Reader" "kind" "I") (List.mem_of_getElem? (i := 2) rfl)
  intro n
  induction n with
  | zero => intro _ _ h; exact absurd h (by unfold fX3_readAll_15; exact fun h => by cases h)
  | succ n ih =>
    intro v2 M h H locs ls hl hM
    rw [fX3_readAll_15] at h
    refine lv_aload_n hx hb dX3_readAll_15 rfl (lv_at hl 0 rfl) ?_
    refine m_get hx hb hts hown hKv hM (fun _ h => List.mem_cons_of_mem _ (List.mem_append_left _ (List.mem_append_right _ (h)))) (by decide) at_X3 rfl 2 (by decide) k0 (v := .int (M.1 1 2)) rfl dX3_readAll_16 ?_
    refine lv_if_eq (tgt := 94) hx hb dX3_readAll_19 (by decide) (fun c1 => ?_) (fun c1 => ?_)
    · replace h := (if_pos c1).symm.trans h
      exact hKc _ _ h _ _ _ (lv_sub hl [2] rfl) hM
    · replace h := (if_neg c1).symm.trans h
      refine lv_iload_n hx hb dX3_readAll_22 rfl (lv_at hl 2 rfl) ?_
      refine lv_sipush (v := (300 : Int32)) hx hb dX3_readAll_23 (by decide) ?_
      refine lv_icmp_ge (tgt := 94) hx hb dX3_readAll_26 (by decide) (fun c2 => ?_) (fun c2 => ?_)
      · replace h := (if_pos c2).symm.trans h
        exact hKc _ _ h _ _ _ (lv_sub hl [2] rfl) hM
      · replace h := (if_neg c2).symm.trans h
        refine lv_aload_n hx hb dX3_readAll_29 rfl (lv_at hl 0 rfl) ?_
        refine m_get hx hb hts hown hKv hM (fun _ h => List.mem_cons_of_mem _ (List.mem_append_left _ (List.mem_append_right _ (h)))) (by decide) at_X3 rfl 2 (by decide) k0 (v := .int (M.1 1 2)) rfl dX3_readAll_30 ?_
        refine lv_istore_n (lv' := [(3, .int (M.1 1 2)), (0, .ref (ad 1)), (1, .ref (ad b1)), (2, .int v2)]) hx hb dX3_readAll_33 rfl hl (by decide) rfl (fun ls hl => ?_)
        refine lv_iload_n hx hb dX3_readAll_34 rfl (lv_at hl 0 rfl) ?_
        refine lv_iconst (v := (1 : Int32)) hx hb dX3_readAll_35 (by decide) ?_
        refine lv_icmp_ne (tgt := 47) hx hb dX3_readAll_36 (by decide) (fun c3 => ?_) (fun c3 => ?_)
        · replace h := (if_neg c3).symm.trans h
          refine lv_iload_n hx hb dX3_readAll_47 rfl (lv_at hl 0 rfl) ?_
          refine lv_iconst (v := (2 : Int32)) hx hb dX3_readAll_48 (by decide) ?_
          refine lv_icmp_ne (tgt := 60) hx hb dX3_readAll_49 (by decide) (fun c4 => ?_) (fun c4 => ?_)
          · replace h := (if_neg c4).symm.trans h
            refine lv_iload_n hx hb dX3_readAll_60 rfl (lv_at hl 0 rfl) ?_
            refine lv_iconst (v := (3 : Int32)) hx hb dX3_readAll_61 (by decide) ?_
            refine lv_icmp_ne (tgt := 77) hx hb dX3_readAll_62 (by decide) (fun c5 => ?_) (fun c5 => ?_)
            · replace h := (if_neg c5).symm.trans h
              refine lv_iconst (v := (0 : Int32)) hx hb dX3_readAll_77 (by decide) ?_
              refine lv_istore (lv' := [(4, .int (0 : Int32)), (3, .int (M.1 1 2)), (0, .ref (ad 1)), (1, .ref (ad b1)), (2, .int v2)]) hx hb dX3_readAll_78 hl (by decide) rfl (fun ls hl => ?_)
              refine lv_iload hx hb dX3_readAll_80 (lv_at hl 0 rfl) ?_
              refine lv_if_ne (tgt := 88) hx hb dX3_readAll_82 (by decide) (fun c => absurd c (by decide)) (fun _ => ?_)
              refine lv_bipush (v := (-9 : Int32)) hx hb dX3_readAll_85 (by decide) ?_
              exact m_iret hx hb hr hlocks hM (congrArg (a₁ := ((-9 : Int32), M)) Prod.fst (Option.some.inj h)) (congrArg (a₁ := ((-9 : Int32), M)) (fun z => Ec ad cI z.2) (Option.some.inj h)) dX3_readAll_87
            · replace h := (if_pos c5).symm.trans h
              refine lv_aload_n hx hb dX3_readAll_65 rfl (lv_at hl 1 rfl) ?_
              refine lv_aload_n hx hb dX3_readAll_66 rfl (lv_at hl 2 rfl) ?_
              obtain ⟨x6, hx6, h⟩ := Option.bind_eq_some_iff.mp h
              refine m_callV (As := [.ref (ad b1)]) (st1 := [.int x6.1]) hx hb (hml.trans hl.1.symm) hown hts hKv hXs hXk hM (kX3_readStop l D cI ad hX0 b1 pb1 M _ hx6) (cwV 1 hts gX3_readAll_X3_readStop rfl rfl rfl (by decide +kernel) ⟨Nat.le_of_ble_eq_true rfl, Nat.le_of_ble_eq_true rfl⟩) (by decide) at_X3 rfl rfl rfl rfl (Nat.le_of_ble_eq_true rfl) dX3_readAll_67 ⟨Nat.zero_le _, Nat.zero_le _⟩ (fun H locs hM => ?_)
              refine lv_if_eq (tgt := 77) hx hb dX3_readAll_70 (by decide) (fun c7 => ?_) (fun c7 => ?_)
              · replace h := (if_pos c7).symm.trans h
                refine lv_iconst (v := (0 : Int32)) hx hb dX3_readAll_77 (by decide) ?_
                refine lv_istore (lv' := [(4, .int (0 : Int32)), (3, .int (M.1 1 2)), (0, .ref (ad 1)), (1, .ref (ad b1)), (2, .int v2)]) hx hb dX3_readAll_78 hl (by decide) rfl (fun ls hl => ?_)
                refine lv_iload hx hb dX3_readAll_80 (lv_at hl 0 rfl) ?_
                refine lv_if_ne (tgt := 88) hx hb dX3_readAll_82 (by decide) (fun c => absurd c (by decide)) (fun _ => ?_)
                refine lv_bipush (v := (-9 : Int32)) hx hb dX3_readAll_85 (by decide) ?_
                exact m_iret hx hb hr hlocks hM (congrArg (a₁ := ((-9 : Int32), x6.2)) Prod.fst (Option.some.inj h)) (congrArg (a₁ := ((-9 : Int32), x6.2)) (fun z => Ec ad cI z.2) (Option.some.inj h)) dX3_readAll_87
              · replace h := (if_neg c7).symm.trans h
                refine lv_iconst (v := (1 : Int32)) hx hb dX3_readAll_73 (by decide) ?_
                refine lv_goto (tgt := 78) hx hb dX3_readAll_74 (by decide) ?_
                refine lv_istore (lv' := [(4, .int (1 : Int32)), (3, .int (M.1 1 2)), (0, .ref (ad 1)), (1, .ref (ad b1)), (2, .int v2)]) hx hb dX3_readAll_78 hl (by decide) rfl (fun ls hl => ?_)
                refine lv_iload hx hb dX3_readAll_80 (lv_at hl 0 rfl) ?_
                refine lv_if_ne (tgt := 88) hx hb dX3_readAll_82 (by decide) (fun _ => ?_) (fun c => absurd c (by decide))
                refine lv_iinc (v := (v2 + 1)) (lv' := [(2, .int (v2 + 1)), (4, .int (1 : Int32)), (3, .int (M.1 1 2)), (0, .ref (ad 1)), (1, .ref (ad b1))]) hx hb dX3_readAll_88 hl (k := 4) rfl rfl (by decide) rfl (fun ls hl => ?_)
                refine lv_goto (tgt := 15) hx hb dX3_readAll_91 (by decide) ?_
                exact ih _ _ h _ _ _ (lv_sub hl [3, 4, 0] rfl) hM
          · replace h := (if_pos c4).symm.trans h
            refine lv_aload_n hx hb dX3_readAll_52 rfl (lv_at hl 1 rfl) ?_
            refine lv_aload_n hx hb dX3_readAll_53 rfl (lv_at hl 2 rfl) ?_
            obtain ⟨x8, hx8, h⟩ := Option.bind_eq_some_iff.mp h
            refine m_callV (As := [.ref (ad b1)]) (st1 := [.int x8.1]) hx hb (hml.trans hl.1.symm) hown hts hKv hXs hXk hM (kX3_readRoad l D cI ad hX0 b1 pb1 M _ hx8) (cwV 1 hts gX3_readAll_X3_readRoad rfl rfl rfl (by decide +kernel) ⟨Nat.le_of_ble_eq_true rfl, Nat.le_of_ble_eq_true rfl⟩) (by decide) at_X3 rfl rfl rfl rfl (Nat.le_of_ble_eq_true rfl) dX3_readAll_54 ⟨Nat.zero_le _, Nat.zero_le _⟩ (fun H locs hM => ?_)
            refine lv_goto (tgt := 78) hx hb dX3_readAll_57 (by decide) ?_
            refine lv_istore (lv' := [(4, .int x8.1), (3, .int (M.1 1 2)), (0, .ref (ad 1)), (1, .ref (ad b1)), (2, .int v2)]) hx hb dX3_readAll_78 hl (by decide) rfl (fun ls hl => ?_)
            refine lv_iload hx hb dX3_readAll_80 (lv_at hl 0 rfl) ?_
            refine lv_if_ne (tgt := 88) hx hb dX3_readAll_82 (by decide) (fun c9 => ?_) (fun c9 => ?_)
            · replace h := (if_neg c9).symm.trans h
              refine lv_iinc (v := (v2 + 1)) (lv' := [(2, .int (v2 + 1)), (4, .int x8.1), (3, .int (M.1 1 2)), (0, .ref (ad 1)), (1, .ref (ad b1))]) hx hb dX3_readAll_88 hl (k := 4) rfl rfl (by decide) rfl (fun ls hl => ?_)
              refine lv_goto (tgt := 15) hx hb dX3_readAll_91 (by decide) ?_
              exact ih _ _ h _ _ _ (lv_sub hl [3, 4, 0] rfl) hM
            · replace h := (if_pos c9).symm.trans h
              refine lv_bipush (v := (-9 : Int32)) hx hb dX3_readAll_85 (by decide) ?_
              exact m_iret hx hb hr hlocks hM (congrArg (a₁ := ((-9 : Int32), x8.2)) Prod.fst (Option.some.inj h)) (congrArg (a₁ := ((-9 : Int32), x8.2)) (fun z => Ec ad cI z.2) (Option.some.inj h)) dX3_readAll_87
        · replace h := (if_pos c3).symm.trans h
          refine lv_aload_n hx hb dX3_readAll_39 rfl (lv_at hl 1 rfl) ?_
          refine lv_aload_n hx hb dX3_readAll_40 rfl (lv_at hl 2 rfl) ?_
          obtain ⟨x10, hx10, h⟩ := Option.bind_eq_some_iff.mp h
          refine m_callV (As := [.ref (ad b1)]) (st1 := [.int x10.1]) hx hb (hml.trans hl.1.symm) hown hts hKv hXs hXk hM (kX3_readTown l D cI ad hX0 b1 pb1 M _ hx10) (cwV 1 hts gX3_readAll_X3_readTown rfl rfl rfl (by decide +kernel) ⟨Nat.le_of_ble_eq_true rfl, Nat.le_of_ble_eq_true rfl⟩) (by decide) at_X3 rfl rfl rfl rfl (Nat.le_of_ble_eq_true rfl) dX3_readAll_41 ⟨Nat.zero_le _, Nat.zero_le _⟩ (fun H locs hM => ?_)
          refine lv_goto (tgt := 78) hx hb dX3_readAll_44 (by decide) ?_
          refine lv_istore (lv' := [(4, .int x10.1), (3, .int (M.1 1 2)), (0, .ref (ad 1)), (1, .ref (ad b1)), (2, .int v2)]) hx hb dX3_readAll_78 hl (by decide) rfl (fun ls hl => ?_)
          refine lv_iload hx hb dX3_readAll_80 (lv_at hl 0 rfl) ?_
          refine lv_if_ne (tgt := 88) hx hb dX3_readAll_82 (by decide) (fun c11 => ?_) (fun c11 => ?_)
          · replace h := (if_neg c11).symm.trans h
            refine lv_iinc (v := (v2 + 1)) (lv' := [(2, .int (v2 + 1)), (4, .int x10.1), (3, .int (M.1 1 2)), (0, .ref (ad 1)), (1, .ref (ad b1))]) hx hb dX3_readAll_88 hl (k := 4) rfl rfl (by decide) rfl (fun ls hl => ?_)
            refine lv_goto (tgt := 15) hx hb dX3_readAll_91 (by decide) ?_
            exact ih _ _ h _ _ _ (lv_sub hl [3, 4, 0] rfl) hM
          · replace h := (if_pos c11).symm.trans h
            refine lv_bipush (v := (-9 : Int32)) hx hb dX3_readAll_85 (by decide) ?_
            exact m_iret hx hb hr hlocks hM (congrArg (a₁ := ((-9 : Int32), x10.2)) Prod.fst (Option.some.inj h)) (congrArg (a₁ := ((-9 : Int32), x10.2)) (fun z => Ec ad cI z.2) (Option.some.inj h)) dX3_readAll_87
set_option maxHeartbeats 4000000 in
set_option maxRecDepth 100000 in
theorem kX3_readAll (l : Launch) (D : va_G) (cI : ClassId) (ad : Nat → Nat) {X : State → Prop} {aS : Nat → Nat} (hX0 : cX D ad aS X) (b1 : Nat) (pb1 : isL b1) (M : Mem) (res : (Int32 × Mem)) (h : fX3_readAll b1 M = some res) : mC l yX3_readAll wsX3_readAll { frames := 11, cells := 0, slots := 0, locals := 268 } D [(cI, .int)] ad 40 X [.ref (ad 1), .ref (ad b1)] (Ec ad cI M) (some (.int res.1)) (Ec ad cI res.2) := by
  refine m_ofW (cc := cX3_readAll) (maxL := 5) (ret := (some .int)) (by decide) rfl (Nat.le_of_ble_eq_true rfl) ?_
  intro p e s m args below meth c hx hb hml hr hlocks hts hown hKv hXs ls hl hM
  have hXk := hX0.1
  have Z : mZ p s m args meth c cX3_readAll 5 (some .int) wsX3_readAll RX3 D [(cI, .int)] X := ⟨hx, hb, hml, hr, hlocks, hts, hown, hKv, hXs⟩
  replace hown : s.vm.findClass RX3 = some m.cls := hown
  have hl : lv_has ls 5 [(0, .ref (ad 1)), (1, .ref (ad b1))] := hl
  have k0 := hts (Cond.fieldLink RX3 28 "NoonWalker$Reader" "end" "I") (List.mem_of_getElem? (i := 1) rfl)
  unfold fX3_readAll at h
  refine lv_aload_n hx hb dX3_readAll_0 rfl (lv_at hl 1 rfl) ?_
  obtain ⟨x1, hx1, h⟩ := Option.bind_eq_some_iff.mp h
  refine m_callV (As := []) (st1 := []) hx hb (hml.trans hl.1.symm) hown hts hKv hXs hXk hM (kX1_reset l D cI ad hX0 b1 pb1 M _ hx1) (cwV 0 hts gX3_readAll_X1_reset rfl rfl rfl (by decide +kernel) ⟨Nat.le_of_ble_eq_true rfl, Nat.le_of_ble_eq_true rfl⟩) (lt_X1 pb1) (at_X1 pb1) rfl rfl rfl rfl (Nat.le_of_ble_eq_true rfl) dX3_readAll_1 ⟨Nat.zero_le _, Nat.zero_le _⟩ (fun H locs hM => ?_)
  refine lv_aload_n hx hb dX3_readAll_4 rfl (lv_at hl 0 rfl) ?_
  refine lv_iconst (v := (0 : Int32)) hx hb dX3_readAll_5 (by decide) ?_
  obtain ⟨M2, hM2, h⟩ := Option.bind_eq_some_iff.mp h
  refine m_put hx hb hts hown hKv hM (fun _ h => List.mem_cons_of_mem _ (List.mem_append_left _ (List.mem_append_right _ (h)))) tyX3 tyX3_ok nmX3 (by decide) at_X3 rfl 5 (by decide) k0 rfl rfl rfl (Nat.le_of_ble_eq_true rfl) (pt_X3_5 (Option.some.inj hM2)) dX3_readAll_6 (fun H locs hM => ?_)
  refine lv_aload_n hx hb dX3_readAll_9 rfl (lv_at hl 0 rfl) ?_
  obtain ⟨x3, hx3, h⟩ := Option.bind_eq_some_iff.mp h
  refine m_callV (As := []) (st1 := []) hx hb (hml.trans hl.1.symm) hown hts hKv hXs hXk hM (kX3_next l D cI ad hX0  M2 _ hx3) (cwV 0 hts gX3_readAll_X3_next rfl rfl rfl (by decide +kernel) ⟨Nat.le_of_ble_eq_true rfl, Nat.le_of_ble_eq_true rfl⟩) (by decide) at_X3 rfl rfl rfl rfl (Nat.le_of_ble_eq_true rfl) dX3_readAll_10 ⟨Nat.zero_le _, Nat.zero_le _⟩ (fun H locs hM => ?_)
  refine lv_iconst (v := (0 : Int32)) hx hb dX3_readAll_13 (by decide) ?_
  refine lv_istore_n (lv' := [(2, .int (0 : Int32)), (0, .ref (ad 1)), (1, .ref (ad b1))]) hx hb dX3_readAll_14 rfl hl (by decide) rfl (fun ls hl => ?_)
  refine wX3_readAll_15 Z hX0 b1 pb1 _ (fun y4 M5 h H locs ls hl hM => ?_) _ _ _ h _ _ _ (lv_sub hl [1, 2, 0] rfl) hM
  refine lv_iload_n hx hb dX3_readAll_94 rfl (lv_at hl 0 rfl) ?_
  exact m_iret hx hb hr hlocks hM (congrArg (a₁ := (y4, M5)) Prod.fst (Option.some.inj h)) (congrArg (a₁ := (y4, M5)) (fun z => Ec ad cI z.2) (Option.some.inj h)) dX3_readAll_95
