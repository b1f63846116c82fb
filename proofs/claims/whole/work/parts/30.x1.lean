/-! contracts -/
set_option maxHeartbeats 4000000 in
set_option maxRecDepth 100000 in
theorem kX1_reset (l : Launch) (D : va_G) (cI : ClassId) (ad : Nat → Nat) {X : State → Prop} {aS : Nat → Nat} (hX0 : cX D ad aS X) (b0 : Nat) (pb0 : isL b0) (M : Mem) (res : Mem) (h : fX1_reset b0 M = some res) : mC l yX1_reset wsX1_reset { frames := 0, cells := 0, slots := 0, locals := 0 } D [(cI, .int)] ad 40 X [.ref (ad b0)] (Ec ad cI M) none (Ec ad cI res) := by
  refine m_ofW (cc := cX1_reset) (maxL := 1) (ret := none) (by decide) rfl (Nat.le_of_ble_eq_true rfl) ?_
  intro p e s m args below meth c hx hb hml hr hlocks hts hown hKv hXs ls hl hM
  have hXk := hX0.1
  have Z : mZ p s m args meth c cX1_reset 1 none wsX1_reset RX1 D [(cI, .int)] X := ⟨hx, hb, hml, hr, hlocks, hts, hown, hKv, hXs⟩
  replace hown : s.vm.findClass RX1 = some m.cls := hown
  have hl : lv_has ls 1 [(0, .ref (ad b0))] := hl
  have k0 := hts (Cond.fieldLink RX1 9 "NoonWalker$Land" "towns" "I") (List.mem_of_getElem? (i := 1) rfl)
  have k1 := hts (Cond.fieldLink RX1 19 "NoonWalker$Land" "roads" "I") (List.mem_of_getElem? (i := 2) rfl)
  have k2 := hts (Cond.fieldLink RX1 31 "NoonWalker$Land" "stops" "I") (List.mem_of_getElem? (i := 3) rfl)
  unfold fX1_reset at h
  refine lv_aload_n hx hb dX1_reset_0 rfl (lv_at hl 0 rfl) ?_
  refine lv_iconst (v := (0 : Int32)) hx hb dX1_reset_1 (by decide) ?_
  obtain ⟨M1, hM1, h⟩ := Option.bind_eq_some_iff.mp h
  refine m_put hx hb hts hown hKv hM (fun _ h => List.mem_cons_of_mem _ (List.mem_append_right _ (h))) tyX1 tyX1_ok nmX1 (lt_X1 pb0) (at_X1 pb0) rfl 0 (by decide) k0 rfl rfl rfl (Nat.le_of_ble_eq_true rfl) (pt_X1_0 pb0 (Option.some.inj hM1)) dX1_reset_2 (fun H locs hM => ?_)
  refine lv_aload_n hx hb dX1_reset_5 rfl (lv_at hl 0 rfl) ?_
  refine lv_iconst (v := (0 : Int32)) hx hb dX1_reset_6 (by decide) ?_
  obtain ⟨M2, hM2, h⟩ := Option.bind_eq_some_iff.mp h
  refine m_put hx hb hts hown hKv hM (fun _ h => List.mem_cons_of_mem _ (List.mem_append_right _ (h))) tyX1 tyX1_ok nmX1 (lt_X1 pb0) (at_X1 pb0) rfl 2 (by decide) k1 rfl rfl rfl (Nat.le_of_ble_eq_true rfl) (pt_X1_2 pb0 (Option.some.inj hM2)) dX1_reset_7 (fun H locs hM => ?_)
  refine lv_aload_n hx hb dX1_reset_10 rfl (lv_at hl 0 rfl) ?_
  refine lv_iconst (v := (0 : Int32)) hx hb dX1_reset_11 (by decide) ?_
  obtain ⟨M3, hM3, h⟩ := Option.bind_eq_some_iff.mp h
  refine m_put hx hb hts hown hKv hM (fun _ h => List.mem_cons_of_mem _ (List.mem_append_right _ (h))) tyX1 tyX1_ok nmX1 (lt_X1 pb0) (at_X1 pb0) rfl 6 (by decide) k2 rfl rfl rfl (Nat.le_of_ble_eq_true rfl) (pt_X1_6 pb0 (Option.some.inj hM3)) dX1_reset_12 (fun H locs hM => ?_)
  exact m_vret hx hb hr hlocks hM (congrArg (a₁ := M3) (fun z => Ec ad cI z) (Option.some.inj h)) dX1_reset_15
set_option maxHeartbeats 4000000 in
set_option maxRecDepth 100000 in
theorem kX1_addTown (l : Launch) (D : va_G) (cI : ClassId) (ad : Nat → Nat) {X : State → Prop} {aS : Nat → Nat} (hX0 : cX D ad aS X) (b0 : Nat) (pb0 : isL b0) (a1 : Int32) (M : Mem) (res : Mem) (h : fX1_addTown b0 a1 M = some res) : mC l yX1_addTown wsX1_addTown { frames := 0, cells := 0, slots := 0, locals := 0 } D [(cI, .int)] ad 40 X [.ref (ad b0), .int a1] (Ec ad cI M) none (Ec ad cI res) := by
  refine m_ofW (cc := cX1_addTown) (maxL := 2) (ret := none) (by decide) rfl (Nat.le_of_ble_eq_true rfl) ?_
  intro p e s m args below meth c hx hb hml hr hlocks hts hown hKv hXs ls hl hM
  have hXk := hX0.1
  have Z : mZ p s m args meth c cX1_addTown 2 none wsX1_addTown RX1 D [(cI, .int)] X := ⟨hx, hb, hml, hr, hlocks, hts, hown, hKv, hXs⟩
  replace hown : s.vm.findClass RX1 = some m.cls := hown
  have hl : lv_has ls 2 [(0, .ref (ad b0)), (1, .int a1)] := hl
  have k0 := hts (Cond.fieldLink RX1 9 "NoonWalker$Land" "towns" "I") (List.mem_of_getElem? (i := 1) rfl)
  have k1 := hts (Cond.fieldLink RX1 15 "NoonWalker$Land" "bids" "[I") (List.mem_of_getElem? (i := 2) rfl)
  unfold fX1_addTown at h
  refine lv_aload_n hx hb dX1_addTown_0 rfl (lv_at hl 0 rfl) ?_
  refine m_get hx hb hts hown hKv hM (fun _ h => List.mem_cons_of_mem _ (List.mem_append_right _ (h))) (lt_X1 pb0) (at_X1 pb0) rfl 0 (by decide) k0 (v := .int (M.1 b0 0)) rfl dX1_addTown_1 ?_
  refine lv_bipush (v := (6 : Int32)) hx hb dX1_addTown_4 (by decide) ?_
  refine lv_icmp_lt (tgt := 10) hx hb dX1_addTown_6 (by decide) (fun c1 => ?_) (fun c1 => ?_)
  · replace h := (if_pos c1).symm.trans h
    refine lv_aload_n hx hb dX1_addTown_10 rfl (lv_at hl 0 rfl) ?_
    refine m_get hx hb hts hown hKv hM (fun _ h => List.mem_cons_of_mem _ (List.mem_append_right _ (h))) (lt_X1 pb0) (at_X1 pb0) rfl 1 (by decide) k1 (v := .ref (ad (b0 + 1))) rfl dX1_addTown_11 ?_
    refine lv_aload_n hx hb dX1_addTown_14 rfl (lv_at hl 0 rfl) ?_
    refine m_get hx hb hts hown hKv hM (fun _ h => List.mem_cons_of_mem _ (List.mem_append_right _ (h))) (lt_X1 pb0) (at_X1 pb0) rfl 0 (by decide) k0 (v := .int (M.1 b0 0)) rfl dX1_addTown_15 ?_
    refine lv_iload_n hx hb dX1_addTown_18 rfl (lv_at hl 1 rfl) ?_
    obtain ⟨M2, hM2, h⟩ := Option.bind_eq_some_iff.mp h
    refine m_iast hx hb hKv hM (lt_X1_1 pb0) (at_X1_1 pb0) 0 rfl (sta_some hM2).1 (pa_X1_1 pb0 (sta_some hM2).2) dX1_addTown_19 (fun H locs hM => ?_)
    refine lv_aload_n hx hb dX1_addTown_20 rfl (lv_at hl 0 rfl) ?_
    refine lv_dup hx hb dX1_addTown_21 rfl ?_
    refine m_get hx hb hts hown hKv hM (fun _ h => List.mem_cons_of_mem _ (List.mem_append_right _ (h))) (lt_X1 pb0) (at_X1 pb0) rfl 0 (by decide) k0 (v := .int (M2.1 b0 0)) rfl dX1_addTown_22 ?_
    refine lv_iconst (v := (1 : Int32)) hx hb dX1_addTown_25 (by decide) ?_
    refine lv_iadd hx hb dX1_addTown_26 ?_
    obtain ⟨M3, hM3, h⟩ := Option.bind_eq_some_iff.mp h
    refine m_put hx hb hts hown hKv hM (fun _ h => List.mem_cons_of_mem _ (List.mem_append_right _ (h))) tyX1 tyX1_ok nmX1 (lt_X1 pb0) (at_X1 pb0) rfl 0 (by decide) k0 rfl rfl rfl (Nat.le_of_ble_eq_true rfl) (pt_X1_0 pb0 (Option.some.inj hM3)) dX1_addTown_27 (fun H locs hM => ?_)
    exact m_vret hx hb hr hlocks hM (congrArg (a₁ := M3) (fun z => Ec ad cI z) (Option.some.inj h)) dX1_addTown_30
  · replace h := (if_neg c1).symm.trans h
    exact m_vret hx hb hr hlocks hM (congrArg (a₁ := M) (fun z => Ec ad cI z) (Option.some.inj h)) dX1_addTown_9
set_option maxHeartbeats 4000000 in
set_option maxRecDepth 100000 in
theorem kX1_addRoad (l : Launch) (D : va_G) (cI : ClassId) (ad : Nat → Nat) {X : State → Prop} {aS : Nat → Nat} (hX0 : cX D ad aS X) (b0 : Nat) (pb0 : isL b0) (a1 : Int32) (a2 : Int32) (a3 : Int32) (M : Mem) (res : Mem) (h : fX1_addRoad b0 a1 a2 a3 M = some res) : mC l yX1_addRoad wsX1_addRoad { frames := 0, cells := 0, slots := 0, locals := 0 } D [(cI, .int)] ad 40 X [.ref (ad b0), .int a1, .int a2, .int a3] (Ec ad cI M) none (Ec ad cI res) := by
  refine m_ofW (cc := cX1_addRoad) (maxL := 4) (ret := none) (by decide) rfl (Nat.le_of_ble_eq_true rfl) ?_
  intro p e s m args below meth c hx hb hml hr hlocks hts hown hKv hXs ls hl hM
  have hXk := hX0.1
  have Z : mZ p s m args meth c cX1_addRoad 4 none wsX1_addRoad RX1 D [(cI, .int)] X := ⟨hx, hb, hml, hr, hlocks, hts, hown, hKv, hXs⟩
  replace hown : s.vm.findClass RX1 = some m.cls := hown
  have hl : lv_has ls 4 [(0, .ref (ad b0)), (1, .int a1), (2, .int a2), (3, .int a3)] := hl
  have k0 := hts (Cond.fieldLink RX1 19 "NoonWalker$Land" "roads" "I") (List.mem_of_getElem? (i := 1) rfl)
  have k1 := hts (Cond.fieldLink RX1 22 "NoonWalker$Land" "roadA" "[I") (List.mem_of_getElem? (i := 2) rfl)
  have k2 := hts (Cond.fieldLink RX1 25 "NoonWalker$Land" "roadB" "[I") (List.mem_of_getElem? (i := 3) rfl)
  have k3 := hts (Cond.fieldLink RX1 28 "NoonWalker$Land" "miles" "[I") (List.mem_of_getElem? (i := 4) rfl)
  unfold fX1_addRoad at h
  refine lv_aload_n hx hb dX1_addRoad_0 rfl (lv_at hl 0 rfl) ?_
  refine m_get hx hb hts hown hKv hM (fun _ h => List.mem_cons_of_mem _ (List.mem_append_right _ (h))) (lt_X1 pb0) (at_X1 pb0) rfl 2 (by decide) k0 (v := .int (M.1 b0 2)) rfl dX1_addRoad_1 ?_
  refine lv_bipush (v := (10 : Int32)) hx hb dX1_addRoad_4 (by decide) ?_
  refine lv_icmp_lt (tgt := 10) hx hb dX1_addRoad_6 (by decide) (fun c1 => ?_) (fun c1 => ?_)
  · replace h := (if_pos c1).symm.trans h
    refine lv_aload_n hx hb dX1_addRoad_10 rfl (lv_at hl 0 rfl) ?_
    refine m_get hx hb hts hown hKv hM (fun _ h => List.mem_cons_of_mem _ (List.mem_append_right _ (h))) (lt_X1 pb0) (at_X1 pb0) rfl 3 (by decide) k1 (v := .ref (ad (b0 + 2))) rfl dX1_addRoad_11 ?_
    refine lv_aload_n hx hb dX1_addRoad_14 rfl (lv_at hl 0 rfl) ?_
    refine m_get hx hb hts hown hKv hM (fun _ h => List.mem_cons_of_mem _ (List.mem_append_right _ (h))) (lt_X1 pb0) (at_X1 pb0) rfl 2 (by decide) k0 (v := .int (M.1 b0 2)) rfl dX1_addRoad_15 ?_
    refine lv_iload_n hx hb dX1_addRoad_18 rfl (lv_at hl 1 rfl) ?_
    obtain ⟨M2, hM2, h⟩ := Option.bind_eq_some_iff.mp h
    refine m_iast hx hb hKv hM (lt_X1_2 pb0) (at_X1_2 pb0) 0 rfl (sta_some hM2).1 (pa_X1_2 pb0 (sta_some hM2).2) dX1_addRoad_19 (fun H locs hM => ?_)
    refine lv_aload_n hx hb dX1_addRoad_20 rfl (lv_at hl 0 rfl) ?_
    refine m_get hx hb hts hown hKv hM (fun _ h => List.mem_cons_of_mem _ (List.mem_append_right _ (h))) (lt_X1 pb0) (at_X1 pb0) rfl 4 (by decide) k2 (v := .ref (ad (b0 + 3))) rfl dX1_addRoad_21 ?_
    refine lv_aload_n hx hb dX1_addRoad_24 rfl (lv_at hl 0 rfl) ?_
    refine m_get hx hb hts hown hKv hM (fun _ h => List.mem_cons_of_mem _ (List.mem_append_right _ (h))) (lt_X1 pb0) (at_X1 pb0) rfl 2 (by decide) k0 (v := .int (M2.1 b0 2)) rfl dX1_addRoad_25 ?_
    refine lv_iload_n hx hb dX1_addRoad_28 rfl (lv_at hl 2 rfl) ?_
    obtain ⟨M3, hM3, h⟩ := Option.bind_eq_some_iff.mp h
    refine m_iast hx hb hKv hM (lt_X1_3 pb0) (at_X1_3 pb0) 0 rfl (sta_some hM3).1 (pa_X1_3 pb0 (sta_some hM3).2) dX1_addRoad_29 (fun H locs hM => ?_)
    refine lv_aload_n hx hb dX1_addRoad_30 rfl (lv_at hl 0 rfl) ?_
    refine m_get hx hb hts hown hKv hM (fun _ h => List.mem_cons_of_mem _ (List.mem_append_right _ (h))) (lt_X1 pb0) (at_X1 pb0) rfl 5 (by decide) k3 (v := .ref (ad (b0 + 4))) rfl dX1_addRoad_31 ?_
    refine lv_aload_n hx hb dX1_addRoad_34 rfl (lv_at hl 0 rfl) ?_
    refine m_get hx hb hts hown hKv hM (fun _ h => List.mem_cons_of_mem _ (List.mem_append_right _ (h))) (lt_X1 pb0) (at_X1 pb0) rfl 2 (by decide) k0 (v := .int (M3.1 b0 2)) rfl dX1_addRoad_35 ?_
    refine lv_iload_n hx hb dX1_addRoad_38 rfl (lv_at hl 3 rfl) ?_
    obtain ⟨M4, hM4, h⟩ := Option.bind_eq_some_iff.mp h
    refine m_iast hx hb hKv hM (lt_X1_4 pb0) (at_X1_4 pb0) 0 rfl (sta_some hM4).1 (pa_X1_4 pb0 (sta_some hM4).2) dX1_addRoad_39 (fun H locs hM => ?_)
    refine lv_aload_n hx hb dX1_addRoad_40 rfl (lv_at hl 0 rfl) ?_
    refine lv_dup hx hb dX1_addRoad_41 rfl ?_
    refine m_get hx hb hts hown hKv hM (fun _ h => List.mem_cons_of_mem _ (List.mem_append_right _ (h))) (lt_X1 pb0) (at_X1 pb0) rfl 2 (by decide) k0 (v := .int (M4.1 b0 2)) rfl dX1_addRoad_42 ?_
    refine lv_iconst (v := (1 : Int32)) hx hb dX1_addRoad_45 (by decide) ?_
    refine lv_iadd hx hb dX1_addRoad_46 ?_
    obtain ⟨M5, hM5, h⟩ := Option.bind_eq_some_iff.mp h
    refine m_put hx hb hts hown hKv hM (fun _ h => List.mem_cons_of_mem _ (List.mem_append_right _ (h))) tyX1 tyX1_ok nmX1 (lt_X1 pb0) (at_X1 pb0) rfl 2 (by decide) k0 rfl rfl rfl (Nat.le_of_ble_eq_true rfl) (pt_X1_2 pb0 (Option.some.inj hM5)) dX1_addRoad_47 (fun H locs hM => ?_)
    exact m_vret hx hb hr hlocks hM (congrArg (a₁ := M5) (fun z => Ec ad cI z) (Option.some.inj h)) dX1_addRoad_50
  · replace h := (if_neg c1).symm.trans h
    exact m_vret hx hb hr hlocks hM (congrArg (a₁ := M) (fun z => Ec ad cI z) (Option.some.inj h)) dX1_addRoad_9
set_option maxHeartbeats 4000000 in
set_option maxRecDepth 100000 in
theorem kX1_isStop (l : Launch) (D : va_G) (cI : ClassId) (ad : Nat → Nat) {X : State → Prop} {aS : Nat → Nat} (hX0 : cX D ad aS X) (b0 : Nat) (pb0 : isL b0) (a1 : Int32) (M : Mem) (res : Int32) (h : fX1_isStop b0 a1 M = some res) : mC l yX1_isStop wsX1_isStop { frames := 0, cells := 0, slots := 0, locals := 0 } D [(cI, .int)] ad 40 X [.ref (ad b0), .int a1] (Ec ad cI M) (some (.int res)) (Ec ad cI M) := by
  refine m_ofW (cc := cX1_isStop) (maxL := 2) (ret := (some .boolean)) (by decide) rfl (Nat.le_of_ble_eq_true rfl) ?_
  intro p e s m args below meth c hx hb hml hr hlocks hts hown hKv hXs ls hl hM
  have hXk := hX0.1
  have Z : mZ p s m args meth c cX1_isStop 2 (some .boolean) wsX1_isStop RX1 D [(cI, .int)] X := ⟨hx, hb, hml, hr, hlocks, hts, hown, hKv, hXs⟩
  replace hown : s.vm.findClass RX1 = some m.cls := hown
  have hl : lv_has ls 2 [(0, .ref (ad b0)), (1, .int a1)] := hl
  have k0 := hts (Cond.fieldLink RX1 31 "NoonWalker$Land" "stops" "I") (List.mem_of_getElem? (i := 1) rfl)
  unfold fX1_isStop at h
  refine lv_iload_n hx hb dX1_isStop_0 rfl (lv_at hl 1 rfl) ?_
  refine lv_if_lt (tgt := 16) hx hb dX1_isStop_1 (by decide) (fun c1 => ?_) (fun c1 => ?_)
  · replace h := (if_pos c1).symm.trans h
    refine lv_iconst (v := (0 : Int32)) hx hb dX1_isStop_16 (by decide) ?_
    exact m_zret hx hb hr hlocks hM (Option.some.inj h) rfl rfl dX1_isStop_17
  · replace h := (if_neg c1).symm.trans h
    refine lv_iload_n hx hb dX1_isStop_4 rfl (lv_at hl 1 rfl) ?_
    refine lv_aload_n hx hb dX1_isStop_5 rfl (lv_at hl 0 rfl) ?_
    refine m_get hx hb hts hown hKv hM (fun _ h => List.mem_cons_of_mem _ (List.mem_append_right _ (h))) (lt_X1 pb0) (at_X1 pb0) rfl 6 (by decide) k0 (v := .int (M.1 b0 6)) rfl dX1_isStop_6 ?_
    refine lv_icmp_ge (tgt := 16) hx hb dX1_isStop_9 (by decide) (fun c2 => ?_) (fun c2 => ?_)
    · replace h := (if_pos c2).symm.trans h
      refine lv_iconst (v := (0 : Int32)) hx hb dX1_isStop_16 (by decide) ?_
      exact m_zret hx hb hr hlocks hM (Option.some.inj h) rfl rfl dX1_isStop_17
    · replace h := (if_neg c2).symm.trans h
      refine lv_iconst (v := (1 : Int32)) hx hb dX1_isStop_12 (by decide) ?_
      refine lv_goto (tgt := 17) hx hb dX1_isStop_13 (by decide) ?_
      exact m_zret hx hb hr hlocks hM (Option.some.inj h) rfl rfl dX1_isStop_17
set_option maxHeartbeats 4000000 in
set_option maxRecDepth 100000 in
theorem wX1_wayToNextStop_30 {p : Program} {l : Launch} {e : Env} {s : State} {m : MethodId} {args : Array Value} {below : List Frame} {meth : Method} {c : Code} {D : va_G} {cI : ClassId} {ad : Nat → Nat} {X : State → Prop} (Z : mZ p s m args meth c cX1_wayToNextStop 4 (some .int) wsX1_wayToNextStop RX1 D [(cI, .int)] X) {aS : Nat → Nat} (hX0 : cX D ad aS X) (b0 : Nat) (pb0 : isL b0)  (u1 : Int32) (u2 : Int32) (M : Mem) {K : Option Int32} (res : Int32) (hKc : K = some res → ∀ (H : Heap) (locs : List Loc) (ls : Array Slot), lv_has ls 4 [] → mH D ad 40 (Ec ad cI M) s.heap H locs → W p l e { frames := 1, cells := 0, slots := 0, locals := 21 } s m args below meth c H locs 0 0 (MQ below (mQ D ad 40 (some (.int res)) (Ec ad cI M)) args s 0 0 (mA ad 40)) (F0 m 86 ls [])) :
    ∀ (n : Nat) (v3 : Int32), fX1_wayToNextStop_30 b0 u1 u2 M K n v3 = some res → ∀ (H : Heap) (locs : List Loc) (ls : Array Slot), lv_has ls 4 [(0, .ref (ad b0)), (1, .int u1), (2, .int u2), (3, .int v3)] → mH D ad 40 (Ec ad cI M) s.heap H locs → W p l e { frames := 1, cells := 0, slots := 0, locals := 21 } s m args below meth c H locs 0 0 (MQ below (mQ D ad 40 (some (.int res)) (Ec ad cI M)) args s 0 0 (mA ad 40)) (F0 m 30 ls []) := by
  obtain ⟨hx, hb, hml, hr, hlocks, hts, hown, hKv, hXs⟩ := id Z
  have hXk := hX0.1
  have k0 := hts (Cond.fieldLink RX1 19 "NoonWalker$Land" "roads" "I") (List.mem_of_getElem? (i := 3) rfl)
  have k1 := hts (Cond.fieldLink RX1 22 "NoonWalker$Land" "roadA" "[I") (List.mem_of_getElem? (i := 4) rfl)
  have k2 := hts (Cond.fieldLink RX1 25 "NoonWalker$Land" "roadB" "[I") (List.mem_of_getElem? (i := 5) rfl)
  intro n
  induction n with
  | zero => intro _ h; exact absurd h (by unfold fX1_wayToNextStop_30; exact fun h => by cases h)
  | succ n ih =>
    intro v3 h H locs ls hl hM
    rw [fX1_wayToNextStop_30] at h
    refine lv_iload_n hx hb dX1_wayToNextStop_30 rfl (lv_at hl 3 rfl) ?_
    refine lv_aload_n hx hb dX1_wayToNextStop_31 rfl (lv_at hl 0 rfl) ?_
    refine m_get hx hb hts hown hKv hM (fun _ h => List.mem_cons_of_mem _ (List.mem_append_right _ (h))) (lt_X1 pb0) (at_X1 pb0) rfl 2 (by decide) k0 (v := .int (M.1 b0 2)) rfl dX1_wayToNextStop_32 ?_
    refine lv_icmp_ge (tgt := 86) hx hb dX1_wayToNextStop_35 (by decide) (fun c1 => ?_) (fun c1 => ?_)
    · replace h := (if_pos c1).symm.trans h
      exact hKc  h _ _ _ (lv_sub hl [] rfl) hM
    · replace h := (if_neg c1).symm.trans h
      refine lv_aload_n hx hb dX1_wayToNextStop_38 rfl (lv_at hl 0 rfl) ?_
      refine m_get hx hb hts hown hKv hM (fun _ h => List.mem_cons_of_mem _ (List.mem_append_right _ (h))) (lt_X1 pb0) (at_X1 pb0) rfl 3 (by decide) k1 (v := .ref (ad (b0 + 2))) rfl dX1_wayToNextStop_39 ?_
      refine lv_iload_n hx hb dX1_wayToNextStop_42 rfl (lv_at hl 3 rfl) ?_
      obtain ⟨x2, hx2, h⟩ := Option.bind_eq_some_iff.mp h
      refine m_iald hx hb hKv hM (lt_X1_2 pb0) (at_X1_2 pb0) 0 rfl hx2 dX1_wayToNextStop_43 ?_
      refine lv_iload_n hx hb dX1_wayToNextStop_44 rfl (lv_at hl 2 rfl) ?_
      refine lv_icmp_ne (tgt := 58) hx hb dX1_wayToNextStop_45 (by decide) (fun c3 => ?_) (fun c3 => ?_)
      · replace h := (if_neg c3).symm.trans h
        refine lv_aload_n hx hb dX1_wayToNextStop_58 rfl (lv_at hl 0 rfl) ?_
        refine m_get hx hb hts hown hKv hM (fun _ h => List.mem_cons_of_mem _ (List.mem_append_right _ (h))) (lt_X1 pb0) (at_X1 pb0) rfl 3 (by decide) k1 (v := .ref (ad (b0 + 2))) rfl dX1_wayToNextStop_59 ?_
        refine lv_iload_n hx hb dX1_wayToNextStop_62 rfl (lv_at hl 3 rfl) ?_
        obtain ⟨x4, hx4, h⟩ := Option.bind_eq_some_iff.mp h
        refine m_iald hx hb hKv hM (lt_X1_2 pb0) (at_X1_2 pb0) 0 rfl hx4 dX1_wayToNextStop_63 ?_
        refine lv_iload_n hx hb dX1_wayToNextStop_64 rfl (lv_at hl 1 rfl) ?_
        refine lv_icmp_ne (tgt := 80) hx hb dX1_wayToNextStop_65 (by decide) (fun c5 => ?_) (fun c5 => ?_)
        · replace h := (if_neg c5).symm.trans h
          refine lv_iinc (v := (v3 + 1)) (lv' := [(3, .int (v3 + 1)), (0, .ref (ad b0)), (1, .int u1), (2, .int u2)]) hx hb dX1_wayToNextStop_80 hl (k := 3) rfl rfl (by decide) rfl (fun ls hl => ?_)
          refine lv_goto (tgt := 30) hx hb dX1_wayToNextStop_83 (by decide) ?_
          exact ih _ h _ _ _ (lv_sub hl [1, 2, 3, 0] rfl) hM
        · replace h := (if_pos c5).symm.trans h
          refine lv_aload_n hx hb dX1_wayToNextStop_68 rfl (lv_at hl 0 rfl) ?_
          refine m_get hx hb hts hown hKv hM (fun _ h => List.mem_cons_of_mem _ (List.mem_append_right _ (h))) (lt_X1 pb0) (at_X1 pb0) rfl 4 (by decide) k2 (v := .ref (ad (b0 + 3))) rfl dX1_wayToNextStop_69 ?_
          refine lv_iload_n hx hb dX1_wayToNextStop_72 rfl (lv_at hl 3 rfl) ?_
          obtain ⟨x6, hx6, h⟩ := Option.bind_eq_some_iff.mp h
          refine m_iald hx hb hKv hM (lt_X1_3 pb0) (at_X1_3 pb0) 0 rfl hx6 dX1_wayToNextStop_73 ?_
          refine lv_iload_n hx hb dX1_wayToNextStop_74 rfl (lv_at hl 2 rfl) ?_
          refine lv_icmp_ne (tgt := 80) hx hb dX1_wayToNextStop_75 (by decide) (fun c7 => ?_) (fun c7 => ?_)
          · replace h := (if_neg c7).symm.trans h
            refine lv_iinc (v := (v3 + 1)) (lv' := [(3, .int (v3 + 1)), (0, .ref (ad b0)), (1, .int u1), (2, .int u2)]) hx hb dX1_wayToNextStop_80 hl (k := 3) rfl rfl (by decide) rfl (fun ls hl => ?_)
            refine lv_goto (tgt := 30) hx hb dX1_wayToNextStop_83 (by decide) ?_
            exact ih _ h _ _ _ (lv_sub hl [1, 2, 3, 0] rfl) hM
          · replace h := (if_pos c7).symm.trans h
            refine lv_iload_n hx hb dX1_wayToNextStop_78 rfl (lv_at hl 3 rfl) ?_
            exact m_iret hx hb hr hlocks hM (Option.some.inj h) rfl dX1_wayToNextStop_79
      · replace h := (if_pos c3).symm.trans h
        refine lv_aload_n hx hb dX1_wayToNextStop_48 rfl (lv_at hl 0 rfl) ?_
        refine m_get hx hb hts hown hKv hM (fun _ h => List.mem_cons_of_mem _ (List.mem_append_right _ (h))) (lt_X1 pb0) (at_X1 pb0) rfl 4 (by decide) k2 (v := .ref (ad (b0 + 3))) rfl dX1_wayToNextStop_49 ?_
        refine lv_iload_n hx hb dX1_wayToNextStop_52 rfl (lv_at hl 3 rfl) ?_
        obtain ⟨x8, hx8, h⟩ := Option.bind_eq_some_iff.mp h
        refine m_iald hx hb hKv hM (lt_X1_3 pb0) (at_X1_3 pb0) 0 rfl hx8 dX1_wayToNextStop_53 ?_
        refine lv_iload_n hx hb dX1_wayToNextStop_54 rfl (lv_at hl 1 rfl) ?_
        refine lv_icmp_eq (tgt := 78) hx hb dX1_wayToNextStop_55 (by decide) (fun c9 => ?_) (fun c9 => ?_)
        · replace h := (if_pos c9).symm.trans h
          refine lv_iload_n hx hb dX1_wayToNextStop_78 rfl (lv_at hl 3 rfl) ?_
          exact m_iret hx hb hr hlocks hM (Option.some.inj h) rfl dX1_wayToNextStop_79
        · replace h := (if_neg c9).symm.trans h
          refine lv_aload_n hx hb dX1_wayToNextStop_58 rfl (lv_at hl 0 rfl) ?_
          refine m_get hx hb hts hown hKv hM (fun _ h => List.mem_cons_of_mem _ (List.mem_append_right _ (h))) (lt_X1 pb0) (at_X1 pb0) rfl 3 (by decide) k1 (v := .ref (ad (b0 + 2))) rfl dX1_wayToNextStop_59 ?_
          refine lv_iload_n hx hb dX1_wayToNextStop_62 rfl (lv_at hl 3 rfl) ?_
          obtain ⟨x10, hx10, h⟩ := Option.bind_eq_some_iff.mp h
          refine m_iald hx hb hKv hM (lt_X1_2 pb0) (at_X1_2 pb0) 0 rfl hx10 dX1_wayToNextStop_63 ?_
          refine lv_iload_n hx hb dX1_wayToNextStop_64 rfl (lv_at hl 1 rfl) ?_
          refine lv_icmp_ne (tgt := 80) hx hb dX1_wayToNextStop_65 (by decide) (fun c11 => ?_) (fun c11 => ?_)
          · replace h := (if_neg c11).symm.trans h
            refine lv_iinc (v := (v3 + 1)) (lv' := [(3, .int (v3 + 1)), (0, .ref (ad b0)), (1, .int u1), (2, .int u2)]) hx hb dX1_wayToNextStop_80 hl (k := 3) rfl rfl (by decide) rfl (fun ls hl => ?_)
            refine lv_goto (tgt := 30) hx hb dX1_wayToNextStop_83 (by decide) ?_
            exact ih _ h _ _ _ (lv_sub hl [1, 2, 3, 0] rfl) hM
          · replace h := (if_pos c11).symm.trans h
            refine lv_aload_n hx hb dX1_wayToNextStop_68 rfl (lv_at hl 0 rfl) ?_
            refine m_get hx hb hts hown hKv hM (fun _ h => List.mem_cons_of_mem _ (List.mem_append_right _ (h))) (lt_X1 pb0) (at_X1 pb0) rfl 4 (by decide) k2 (v := .ref (ad (b0 + 3))) rfl dX1_wayToNextStop_69 ?_
            refine lv_iload_n hx hb dX1_wayToNextStop_72 rfl (lv_at hl 3 rfl) ?_
            obtain ⟨x12, hx12, h⟩ := Option.bind_eq_some_iff.mp h
            refine m_iald hx hb hKv hM (lt_X1_3 pb0) (at_X1_3 pb0) 0 rfl hx12 dX1_wayToNextStop_73 ?_
            refine lv_iload_n hx hb dX1_wayToNextStop_74 rfl (lv_at hl 2 rfl) ?_
            refine lv_icmp_ne (tgt := 80) hx hb dX1_wayToNextStop_75 (by decide) (fun c13 => ?_) (fun c13 => ?_)
            · replace h := (if_neg c13).symm.trans h
              refine lv_iinc (v := (v3 + 1)) (lv' := [(3, .int (v3 + 1)), (0, .ref (ad b0)), (1, .int u1), (2, .int u2)]) hx hb dX1_wayToNextStop_80 hl (k := 3) rfl rfl (by decide) rfl (fun ls hl => ?_)
              refine lv_goto (tgt := 30) hx hb dX1_wayToNextStop_83 (by decide) ?_
              exact ih _ h _ _ _ (lv_sub hl [1, 2, 3, 0] rfl) hM
            · replace h := (if_pos c13).symm.trans h
              refine lv_iload_n hx hb dX1_wayToNextStop_78 rfl (lv_at hl 3 rfl) ?_
              exact m_iret hx hb hr hlocks hM (Option.some.inj h) rfl dX1_wayToNextStop_79
set_option maxHeartbeats 4000000 in
set_option maxRecDepth 100000 in
theorem kX1_wayToNextStop (l : Launch) (D : va_G) (cI : ClassId) (ad : Nat → Nat) {X : State → Prop} {aS : Nat → Nat} (hX0 : cX D ad aS X) (b0 : Nat) (pb0 : isL b0) (a1 : Int32) (M : Mem) (res : Int32) (h : fX1_wayToNextStop b0 a1 M = some res) : mC l yX1_wayToNextStop wsX1_wayToNextStop { frames := 1, cells := 0, slots := 0, locals := 21 } D [(cI, .int)] ad 40 X [.ref (ad b0), .int a1] (Ec ad cI M) (some (.int res)) (Ec ad cI M) := by
  refine m_ofW (cc := cX1_wayToNextStop) (maxL := 4) (ret := (some .int)) (by decide) rfl (Nat.le_of_ble_eq_true rfl) ?_
  intro p e s m args below meth c hx hb hml hr hlocks hts hown hKv hXs ls hl hM
  have hXk := hX0.1
  have Z : mZ p s m args meth c cX1_wayToNextStop 4 (some .int) wsX1_wayToNextStop RX1 D [(cI, .int)] X := ⟨hx, hb, hml, hr, hlocks, hts, hown, hKv, hXs⟩
  replace hown : s.vm.findClass RX1 = some m.cls := hown
  have hl : lv_has ls 4 [(0, .ref (ad b0)), (1, .int a1)] := hl
  have k0 := hts (Cond.fieldLink RX1 31 "NoonWalker$Land" "stops" "I") (List.mem_of_getElem? (i := 1) rfl)
  have k1 := hts (Cond.fieldLink RX1 34 "NoonWalker$Land" "stopTown" "[I") (List.mem_of_getElem? (i := 2) rfl)
  unfold fX1_wayToNextStop at h
  refine lv_aload_n hx hb dX1_wayToNextStop_0 rfl (lv_at hl 0 rfl) ?_
  refine lv_aload_n hx hb dX1_wayToNextStop_1 rfl (lv_at hl 0 rfl) ?_
  refine m_get hx hb hts hown hKv hM (fun _ h => List.mem_cons_of_mem _ (List.mem_append_right _ (h))) (lt_X1 pb0) (at_X1 pb0) rfl 6 (by decide) k0 (v := .int (M.1 b0 6)) rfl dX1_wayToNextStop_2 ?_
  refine lv_iconst (v := (1 : Int32)) hx hb dX1_wayToNextStop_5 (by decide) ?_
  refine lv_isub hx hb dX1_wayToNextStop_6 ?_
  obtain ⟨x1, hx1, h⟩ := Option.bind_eq_some_iff.mp h
  refine m_callV (As := [.int ((M.1 b0 6) - (1 : Int32))]) (st1 := [.int x1]) hx hb (hml.trans hl.1.symm) hown hts hKv hXs hXk hM (kX1_isStop l D cI ad hX0 b0 pb0 ((M.1 b0 6) - (1 : Int32)) M _ hx1) (cwV 1 hts gX1_wayToNextStop_X1_isStop rfl rfl rfl (by decide +kernel) ⟨Nat.le_of_ble_eq_true rfl, Nat.le_of_ble_eq_true rfl⟩) (lt_X1 pb0) (at_X1 pb0) rfl rfl rfl rfl (Nat.le_of_ble_eq_true rfl) dX1_wayToNextStop_7 ⟨Nat.zero_le _, Nat.zero_le _⟩ (fun H locs hM => ?_)
  refine lv_if_ne (tgt := 16) hx hb dX1_wayToNextStop_10 (by decide) (fun c2 => ?_) (fun c2 => ?_)
  · replace h := (if_neg c2).symm.trans h
    refine lv_aload_n hx hb dX1_wayToNextStop_16 rfl (lv_at hl 0 rfl) ?_
    refine m_get hx hb hts hown hKv hM (fun _ h => List.mem_cons_of_mem _ (List.mem_append_right _ (h))) (lt_X1 pb0) (at_X1 pb0) rfl 7 (by decide) k1 (v := .ref (ad (b0 + 5))) rfl dX1_wayToNextStop_17 ?_
    refine lv_aload_n hx hb dX1_wayToNextStop_20 rfl (lv_at hl 0 rfl) ?_
    refine m_get hx hb hts hown hKv hM (fun _ h => List.mem_cons_of_mem _ (List.mem_append_right _ (h))) (lt_X1 pb0) (at_X1 pb0) rfl 6 (by decide) k0 (v := .int (M.1 b0 6)) rfl dX1_wayToNextStop_21 ?_
    refine lv_iconst (v := (1 : Int32)) hx hb dX1_wayToNextStop_24 (by decide) ?_
    refine lv_isub hx hb dX1_wayToNextStop_25 ?_
    obtain ⟨x3, hx3, h⟩ := Option.bind_eq_some_iff.mp h
    refine m_iald hx hb hKv hM (lt_X1_5 pb0) (at_X1_5 pb0) 0 rfl hx3 dX1_wayToNextStop_26 ?_
    refine lv_istore_n (lv' := [(2, .int x3), (0, .ref (ad b0)), (1, .int a1)]) hx hb dX1_wayToNextStop_27 rfl hl (by decide) rfl (fun ls hl => ?_)
    refine lv_iconst (v := (0 : Int32)) hx hb dX1_wayToNextStop_28 (by decide) ?_
    refine lv_istore_n (lv' := [(3, .int (0 : Int32)), (2, .int x3), (0, .ref (ad b0)), (1, .int a1)]) hx hb dX1_wayToNextStop_29 rfl hl (by decide) rfl (fun ls hl => ?_)
    refine wX1_wayToNextStop_30 Z hX0 b0 pb0 a1 x3 M _ (fun  h H locs ls hl hM => ?_) _ _ h _ _ _ (lv_sub hl [2, 3, 1, 0] rfl) hM
    refine lv_bipush (v := (-9 : Int32)) hx hb dX1_wayToNextStop_86 (by decide) ?_
    exact m_iret hx hb hr hlocks hM (Option.some.inj h) rfl dX1_wayToNextStop_88
  · replace h := (if_pos c2).symm.trans h
    refine lv_bipush (v := (-9 : Int32)) hx hb dX1_wayToNextStop_13 (by decide) ?_
    exact m_iret hx hb hr hlocks hM (Option.some.inj h) rfl dX1_wayToNextStop_15
set_option maxHeartbeats 4000000 in
set_option maxRecDepth 100000 in
theorem kX1_isRoad (l : Launch) (D : va_G) (cI : ClassId) (ad : Nat → Nat) {X : State → Prop} {aS : Nat → Nat} (hX0 : cX D ad aS X) (b0 : Nat) (pb0 : isL b0) (a1 : Int32) (M : Mem) (res : Int32) (h : fX1_isRoad b0 a1 M = some res) : mC l yX1_isRoad wsX1_isRoad { frames := 0, cells := 0, slots := 0, locals := 0 } D [(cI, .int)] ad 40 X [.ref (ad b0), .int a1] (Ec ad cI M) (some (.int res)) (Ec ad cI M) := by
  refine m_ofW (cc := cX1_isRoad) (maxL := 2) (ret := (some .boolean)) (by decide) rfl (Nat.le_of_ble_eq_true rfl) ?_
  intro p e s m args below meth c hx hb hml hr hlocks hts hown hKv hXs ls hl hM
  have hXk := hX0.1
  have Z : mZ p s m args meth c cX1_isRoad 2 (some .boolean) wsX1_isRoad RX1 D [(cI, .int)] X := ⟨hx, hb, hml, hr, hlocks, hts, hown, hKv, hXs⟩
  replace hown : s.vm.findClass RX1 = some m.cls := hown
  have hl : lv_has ls 2 [(0, .ref (ad b0)), (1, .int a1)] := hl
  have k0 := hts (Cond.fieldLink RX1 19 "NoonWalker$Land" "roads" "I") (List.mem_of_getElem? (i := 1) rfl)
  unfold fX1_isRoad at h
  refine lv_iload_n hx hb dX1_isRoad_0 rfl (lv_at hl 1 rfl) ?_
  refine lv_if_lt (tgt := 16) hx hb dX1_isRoad_1 (by decide) (fun c1 => ?_) (fun c1 => ?_)
  · replace h := (if_pos c1).symm.trans h
    refine lv_iconst (v := (0 : Int32)) hx hb dX1_isRoad_16 (by decide) ?_
    exact m_zret hx hb hr hlocks hM (Option.some.inj h) rfl rfl dX1_isRoad_17
  · replace h := (if_neg c1).symm.trans h
    refine lv_iload_n hx hb dX1_isRoad_4 rfl (lv_at hl 1 rfl) ?_
    refine lv_aload_n hx hb dX1_isRoad_5 rfl (lv_at hl 0 rfl) ?_
    refine m_get hx hb hts hown hKv hM (fun _ h => List.mem_cons_of_mem _ (List.mem_append_right _ (h))) (lt_X1 pb0) (at_X1 pb0) rfl 2 (by decide) k0 (v := .int (M.1 b0 2)) rfl dX1_isRoad_6 ?_
    refine lv_icmp_ge (tgt := 16) hx hb dX1_isRoad_9 (by decide) (fun c2 => ?_) (fun c2 => ?_)
    · replace h := (if_pos c2).symm.trans h
      refine lv_iconst (v := (0 : Int32)) hx hb dX1_isRoad_16 (by decide) ?_
      exact m_zret hx hb hr hlocks hM (Option.some.inj h) rfl rfl dX1_isRoad_17
    · replace h := (if_neg c2).symm.trans h
      refine lv_iconst (v := (1 : Int32)) hx hb dX1_isRoad_12 (by decide) ?_
      refine lv_goto (tgt := 17) hx hb dX1_isRoad_13 (by decide) ?_
      exact m_zret hx hb hr hlocks hM (Option.some.inj h) rfl rfl dX1_isRoad_17
set_option maxHeartbeats 4000000 in
set_option maxRecDepth 100000 in
theorem kX1_leaves (l : Launch) (D : va_G) (cI : ClassId) (ad : Nat → Nat) {X : State → Prop} {aS : Nat → Nat} (hX0 : cX D ad aS X) (b0 : Nat) (pb0 : isL b0) (a1 : Int32) (M : Mem) (res : Int32) (h : fX1_leaves b0 a1 M = some res) : mC l yX1_leaves wsX1_leaves { frames := 1, cells := 0, slots := 0, locals := 21 } D [(cI, .int)] ad 40 X [.ref (ad b0), .int a1] (Ec ad cI M) (some (.int res)) (Ec ad cI M) := by
  refine m_ofW (cc := cX1_leaves) (maxL := 2) (ret := (some .int)) (by decide) rfl (Nat.le_of_ble_eq_true rfl) ?_
  intro p e s m args below meth c hx hb hml hr hlocks hts hown hKv hXs ls hl hM
  have hXk := hX0.1
  have Z : mZ p s m args meth c cX1_leaves 2 (some .int) wsX1_leaves RX1 D [(cI, .int)] X := ⟨hx, hb, hml, hr, hlocks, hts, hown, hKv, hXs⟩
  replace hown : s.vm.findClass RX1 = some m.cls := hown
  have hl : lv_has ls 2 [(0, .ref (ad b0)), (1, .int a1)] := hl
  have k0 := hts (Cond.fieldLink RX1 40 "NoonWalker$Land" "comes" "[I") (List.mem_of_getElem? (i := 1) rfl)
  have k1 := hts (Cond.fieldLink RX1 37 "NoonWalker$Land" "rest" "[I") (List.mem_of_getElem? (i := 2) rfl)
  unfold fX1_leaves at h
  refine lv_aload_n hx hb dX1_leaves_0 rfl (lv_at hl 0 rfl) ?_
  refine lv_iload_n hx hb dX1_leaves_1 rfl (lv_at hl 1 rfl) ?_
  obtain ⟨x1, hx1, h⟩ := Option.bind_eq_some_iff.mp h
  refine m_callV (As := [.int a1]) (st1 := [.int x1]) hx hb (hml.trans hl.1.symm) hown hts hKv hXs hXk hM (kX1_isStop l D cI ad hX0 b0 pb0 a1 M _ hx1) (cwV 1 hts gX1_leaves_X1_isStop rfl rfl rfl (by decide +kernel) ⟨Nat.le_of_ble_eq_true rfl, Nat.le_of_ble_eq_true rfl⟩) (lt_X1 pb0) (at_X1 pb0) rfl rfl rfl rfl (Nat.le_of_ble_eq_true rfl) dX1_leaves_2 ⟨Nat.zero_le _, Nat.zero_le _⟩ (fun H locs hM => ?_)
  refine lv_if_eq (tgt := 24) hx hb dX1_leaves_5 (by decide) (fun c2 => ?_) (fun c2 => ?_)
  · replace h := (if_pos c2).symm.trans h
    refine lv_iconst (v := (0 : Int32)) hx hb dX1_leaves_24 (by decide) ?_
    exact m_iret hx hb hr hlocks hM (Option.some.inj h) rfl dX1_leaves_25
  · replace h := (if_neg c2).symm.trans h
    refine lv_aload_n hx hb dX1_leaves_8 rfl (lv_at hl 0 rfl) ?_
    refine m_get hx hb hts hown hKv hM (fun _ h => List.mem_cons_of_mem _ (List.mem_append_right _ (h))) (lt_X1 pb0) (at_X1 pb0) rfl 9 (by decide) k0 (v := .ref (ad (b0 + 7))) rfl dX1_leaves_9 ?_
    refine lv_iload_n hx hb dX1_leaves_12 rfl (lv_at hl 1 rfl) ?_
    obtain ⟨x3, hx3, h⟩ := Option.bind_eq_some_iff.mp h
    refine m_iald hx hb hKv hM (lt_X1_7 pb0) (at_X1_7 pb0) 0 rfl hx3 dX1_leaves_13 ?_
    refine lv_aload_n hx hb dX1_leaves_14 rfl (lv_at hl 0 rfl) ?_
    refine m_get hx hb hts hown hKv hM (fun _ h => List.mem_cons_of_mem _ (List.mem_append_right _ (h))) (lt_X1 pb0) (at_X1 pb0) rfl 8 (by decide) k1 (v := .ref (ad (b0 + 6))) rfl dX1_leaves_15 ?_
    refine lv_iload_n hx hb dX1_leaves_18 rfl (lv_at hl 1 rfl) ?_
    obtain ⟨x4, hx4, h⟩ := Option.bind_eq_some_iff.mp h
    refine m_iald hx hb hKv hM (lt_X1_6 pb0) (at_X1_6 pb0) 0 rfl hx4 dX1_leaves_19 ?_
    refine lv_iadd hx hb dX1_leaves_20 ?_
    refine lv_goto (tgt := 25) hx hb dX1_leaves_21 (by decide) ?_
    exact m_iret hx hb hr hlocks hM (Option.some.inj h) rfl dX1_leaves_25
set_option maxHeartbeats 4000000 in
set_option maxRecDepth 100000 in
theorem kX1_addStop (l : Launch) (D : va_G) (cI : ClassId) (ad : Nat → Nat) {X : State → Prop} {aS : Nat → Nat} (hX0 : cX D ad aS X) (b0 : Nat) (pb0 : isL b0) (a1 : Int32) (a2 : Int32) (M : Mem) (res : Mem) (h : fX1_addStop b0 a1 a2 M = some res) : mC l yX1_addStop wsX1_addStop { frames := 2, cells := 0, slots := 0, locals := 44 } D [(cI, .int)] ad 40 X [.ref (ad b0), .int a1, .int a2] (Ec ad cI M) none (Ec ad cI res) := by
  refine m_ofW (cc := cX1_addStop) (maxL := 4) (ret := none) (by decide) rfl (Nat.le_of_ble_eq_true rfl) ?_
  intro p e s m args below meth c hx hb hml hr hlocks hts hown hKv hXs ls hl hM
  have hXk := hX0.1
  have Z : mZ p s m args meth c cX1_addStop 4 none wsX1_addStop RX1 D [(cI, .int)] X := ⟨hx, hb, hml, hr, hlocks, hts, hown, hKv, hXs⟩
  replace hown : s.vm.findClass RX1 = some m.cls := hown
  have hl : lv_has ls 4 [(0, .ref (ad b0)), (1, .int a1), (2, .int a2)] := hl
  have k0 := hts (Cond.fieldLink RX1 31 "NoonWalker$Land" "stops" "I") (List.mem_of_getElem? (i := 1) rfl)
  have k1 := hts (Cond.fieldLink RX1 34 "NoonWalker$Land" "stopTown" "[I") (List.mem_of_getElem? (i := 2) rfl)
  have k2 := hts (Cond.fieldLink RX1 37 "NoonWalker$Land" "rest" "[I") (List.mem_of_getElem? (i := 3) rfl)
  have k3 := hts (Cond.fieldLink RX1 43 "NoonWalker$Land" "comesBy" "[I") (List.mem_of_getElem? (i := 4) rfl)
  have k4 := hts (Cond.fieldLink RX1 40 "NoonWalker$Land" "comes" "[I") (List.mem_of_getElem? (i := 5) rfl)
  have k5 := hts (Cond.fieldLink RX1 28 "NoonWalker$Land" "miles" "[I") (List.mem_of_getElem? (i := 6) rfl)
  unfold fX1_addStop at h
  refine lv_aload_n hx hb dX1_addStop_0 rfl (lv_at hl 0 rfl) ?_
  refine m_get hx hb hts hown hKv hM (fun _ h => List.mem_cons_of_mem _ (List.mem_append_right _ (h))) (lt_X1 pb0) (at_X1 pb0) rfl 6 (by decide) k0 (v := .int (M.1 b0 6)) rfl dX1_addStop_1 ?_
  refine lv_bipush (v := (10 : Int32)) hx hb dX1_addStop_4 (by decide) ?_
  refine lv_icmp_lt (tgt := 10) hx hb dX1_addStop_6 (by decide) (fun c1 => ?_) (fun c1 => ?_)
  · replace h := (if_pos c1).symm.trans h
    refine lv_aload_n hx hb dX1_addStop_10 rfl (lv_at hl 0 rfl) ?_
    refine lv_iload_n hx hb dX1_addStop_11 rfl (lv_at hl 1 rfl) ?_
    obtain ⟨x2, hx2, h⟩ := Option.bind_eq_some_iff.mp h
    refine m_callV (As := [.int a1]) (st1 := [.int x2]) hx hb (hml.trans hl.1.symm) hown hts hKv hXs hXk hM (kX1_wayToNextStop l D cI ad hX0 b0 pb0 a1 M _ hx2) (cwV 1 hts gX1_addStop_X1_wayToNextStop rfl rfl rfl (by decide +kernel) ⟨Nat.le_of_ble_eq_true rfl, Nat.le_of_ble_eq_true rfl⟩) (lt_X1 pb0) (at_X1 pb0) rfl rfl rfl rfl (Nat.le_of_ble_eq_true rfl) dX1_addStop_12 ⟨Nat.zero_le _, Nat.zero_le _⟩ (fun H locs hM => ?_)
    refine lv_istore_n (lv' := [(3, .int x2), (0, .ref (ad b0)), (1, .int a1), (2, .int a2)]) hx hb dX1_addStop_15 rfl hl (by decide) rfl (fun ls hl => ?_)
    refine lv_aload_n hx hb dX1_addStop_16 rfl (lv_at hl 1 rfl) ?_
    refine m_get hx hb hts hown hKv hM (fun _ h => List.mem_cons_of_mem _ (List.mem_append_right _ (h))) (lt_X1 pb0) (at_X1 pb0) rfl 7 (by decide) k1 (v := .ref (ad (b0 + 5))) rfl dX1_addStop_17 ?_
    refine lv_aload_n hx hb dX1_addStop_20 rfl (lv_at hl 1 rfl) ?_
    refine m_get hx hb hts hown hKv hM (fun _ h => List.mem_cons_of_mem _ (List.mem_append_right _ (h))) (lt_X1 pb0) (at_X1 pb0) rfl 6 (by decide) k0 (v := .int (M.1 b0 6)) rfl dX1_addStop_21 ?_
    refine lv_iload_n hx hb dX1_addStop_24 rfl (lv_at hl 2 rfl) ?_
    obtain ⟨M3, hM3, h⟩ := Option.bind_eq_some_iff.mp h
    refine m_iast hx hb hKv hM (lt_X1_5 pb0) (at_X1_5 pb0) 0 rfl (sta_some hM3).1 (pa_X1_5 pb0 (sta_some hM3).2) dX1_addStop_25 (fun H locs hM => ?_)
    refine lv_aload_n hx hb dX1_addStop_26 rfl (lv_at hl 1 rfl) ?_
    refine m_get hx hb hts hown hKv hM (fun _ h => List.mem_cons_of_mem _ (List.mem_append_right _ (h))) (lt_X1 pb0) (at_X1 pb0) rfl 8 (by decide) k2 (v := .ref (ad (b0 + 6))) rfl dX1_addStop_27 ?_
    refine lv_aload_n hx hb dX1_addStop_30 rfl (lv_at hl 1 rfl) ?_
    refine m_get hx hb hts hown hKv hM (fun _ h => List.mem_cons_of_mem _ (List.mem_append_right _ (h))) (lt_X1 pb0) (at_X1 pb0) rfl 6 (by decide) k0 (v := .int (M3.1 b0 6)) rfl dX1_addStop_31 ?_
    refine lv_iload_n hx hb dX1_addStop_34 rfl (lv_at hl 3 rfl) ?_
    obtain ⟨M4, hM4, h⟩ := Option.bind_eq_some_iff.mp h
    refine m_iast hx hb hKv hM (lt_X1_6 pb0) (at_X1_6 pb0) 0 rfl (sta_some hM4).1 (pa_X1_6 pb0 (sta_some hM4).2) dX1_addStop_35 (fun H locs hM => ?_)
    refine lv_aload_n hx hb dX1_addStop_36 rfl (lv_at hl 1 rfl) ?_
    refine m_get hx hb hts hown hKv hM (fun _ h => List.mem_cons_of_mem _ (List.mem_append_right _ (h))) (lt_X1 pb0) (at_X1 pb0) rfl 10 (by decide) k3 (v := .ref (ad (b0 + 8))) rfl dX1_addStop_37 ?_
    refine lv_aload_n hx hb dX1_addStop_40 rfl (lv_at hl 1 rfl) ?_
    refine m_get hx hb hts hown hKv hM (fun _ h => List.mem_cons_of_mem _ (List.mem_append_right _ (h))) (lt_X1 pb0) (at_X1 pb0) rfl 6 (by decide) k0 (v := .int (M4.1 b0 6)) rfl dX1_addStop_41 ?_
    refine lv_iload_n hx hb dX1_addStop_44 rfl (lv_at hl 0 rfl) ?_
    obtain ⟨M5, hM5, h⟩ := Option.bind_eq_some_iff.mp h
    refine m_iast hx hb hKv hM (lt_X1_8 pb0) (at_X1_8 pb0) 0 rfl (sta_some hM5).1 (pa_X1_8 pb0 (sta_some hM5).2) dX1_addStop_45 (fun H locs hM => ?_)
    refine lv_aload_n hx hb dX1_addStop_46 rfl (lv_at hl 1 rfl) ?_
    refine m_get hx hb hts hown hKv hM (fun _ h => List.mem_cons_of_mem _ (List.mem_append_right _ (h))) (lt_X1 pb0) (at_X1 pb0) rfl 9 (by decide) k4 (v := .ref (ad (b0 + 7))) rfl dX1_addStop_47 ?_
    refine lv_aload_n hx hb dX1_addStop_50 rfl (lv_at hl 1 rfl) ?_
    refine m_get hx hb hts hown hKv hM (fun _ h => List.mem_cons_of_mem _ (List.mem_append_right _ (h))) (lt_X1 pb0) (at_X1 pb0) rfl 6 (by decide) k0 (v := .int (M5.1 b0 6)) rfl dX1_addStop_51 ?_
    refine lv_aload_n hx hb dX1_addStop_54 rfl (lv_at hl 1 rfl) ?_
    refine lv_iload_n hx hb dX1_addStop_55 rfl (lv_at hl 0 rfl) ?_
    obtain ⟨x6, hx6, h⟩ := Option.bind_eq_some_iff.mp h
    refine m_callV (As := [.int x2]) (st1 := [.int x6, .int (M5.1 b0 6), .ref (ad (b0 + 7))]) hx hb (hml.trans hl.1.symm) hown hts hKv hXs hXk hM (kX1_isRoad l D cI ad hX0 b0 pb0 x2 M5 _ hx6) (cwV 1 hts gX1_addStop_X1_isRoad rfl rfl rfl (by decide +kernel) ⟨Nat.le_of_ble_eq_true rfl, Nat.le_of_ble_eq_true rfl⟩) (lt_X1 pb0) (at_X1 pb0) rfl rfl rfl rfl (Nat.le_of_ble_eq_true rfl) dX1_addStop_56 ⟨Nat.zero_le _, Nat.zero_le _⟩ (fun H locs hM => ?_)
    refine lv_if_eq (tgt := 95) hx hb dX1_addStop_59 (by decide) (fun c7 => ?_) (fun c7 => ?_)
    · replace h := (if_pos c7).symm.trans h
      refine lv_iconst (v := (0 : Int32)) hx hb dX1_addStop_95 (by decide) ?_
      obtain ⟨M8, hM8, h⟩ := Option.bind_eq_some_iff.mp h
      refine m_iast hx hb hKv hM (lt_X1_7 pb0) (at_X1_7 pb0) 0 rfl (sta_some hM8).1 (pa_X1_7 pb0 (sta_some hM8).2) dX1_addStop_96 (fun H locs hM => ?_)
      refine lv_aload_n hx hb dX1_addStop_97 rfl (lv_at hl 1 rfl) ?_
      refine lv_dup hx hb dX1_addStop_98 rfl ?_
      refine m_get hx hb hts hown hKv hM (fun _ h => List.mem_cons_of_mem _ (List.mem_append_right _ (h))) (lt_X1 pb0) (at_X1 pb0) rfl 6 (by decide) k0 (v := .int (M8.1 b0 6)) rfl dX1_addStop_99 ?_
      refine lv_iconst (v := (1 : Int32)) hx hb dX1_addStop_102 (by decide) ?_
      refine lv_iadd hx hb dX1_addStop_103 ?_
      obtain ⟨M9, hM9, h⟩ := Option.bind_eq_some_iff.mp h
      refine m_put hx hb hts hown hKv hM (fun _ h => List.mem_cons_of_mem _ (List.mem_append_right _ (h))) tyX1 tyX1_ok nmX1 (lt_X1 pb0) (at_X1 pb0) rfl 6 (by decide) k0 rfl rfl rfl (Nat.le_of_ble_eq_true rfl) (pt_X1_6 pb0 (Option.some.inj hM9)) dX1_addStop_104 (fun H locs hM => ?_)
      exact m_vret hx hb hr hlocks hM (congrArg (a₁ := M9) (fun z => Ec ad cI z) (Option.some.inj h)) dX1_addStop_107
    · replace h := (if_neg c7).symm.trans h
      refine lv_aload_n hx hb dX1_addStop_62 rfl (lv_at hl 1 rfl) ?_
      refine lv_aload_n hx hb dX1_addStop_63 rfl (lv_at hl 1 rfl) ?_
      refine m_get hx hb hts hown hKv hM (fun _ h => List.mem_cons_of_mem _ (List.mem_append_right _ (h))) (lt_X1 pb0) (at_X1 pb0) rfl 6 (by decide) k0 (v := .int (M5.1 b0 6)) rfl dX1_addStop_64 ?_
      refine lv_iconst (v := (1 : Int32)) hx hb dX1_addStop_67 (by decide) ?_
      refine lv_isub hx hb dX1_addStop_68 ?_
      obtain ⟨x10, hx10, h⟩ := Option.bind_eq_some_iff.mp h
      refine m_callV (As := [.int ((M5.1 b0 6) - (1 : Int32))]) (st1 := [.int x10, .int (M5.1 b0 6), .ref (ad (b0 + 7))]) hx hb (hml.trans hl.1.symm) hown hts hKv hXs hXk hM (kX1_isStop l D cI ad hX0 b0 pb0 ((M5.1 b0 6) - (1 : Int32)) M5 _ hx10) (cwV 1 hts gX1_addStop_X1_isStop rfl rfl rfl (by decide +kernel) ⟨Nat.le_of_ble_eq_true rfl, Nat.le_of_ble_eq_true rfl⟩) (lt_X1 pb0) (at_X1 pb0) rfl rfl rfl rfl (Nat.le_of_ble_eq_true rfl) dX1_addStop_69 ⟨Nat.zero_le _, Nat.zero_le _⟩ (fun H locs hM => ?_)
      refine lv_if_eq (tgt := 95) hx hb dX1_addStop_72 (by decide) (fun c11 => ?_) (fun c11 => ?_)
      · replace h := (if_pos c11).symm.trans h
        refine lv_iconst (v := (0 : Int32)) hx hb dX1_addStop_95 (by decide) ?_
        obtain ⟨M12, hM12, h⟩ := Option.bind_eq_some_iff.mp h
        refine m_iast hx hb hKv hM (lt_X1_7 pb0) (at_X1_7 pb0) 0 rfl (sta_some hM12).1 (pa_X1_7 pb0 (sta_some hM12).2) dX1_addStop_96 (fun H locs hM => ?_)
        refine lv_aload_n hx hb dX1_addStop_97 rfl (lv_at hl 1 rfl) ?_
        refine lv_dup hx hb dX1_addStop_98 rfl ?_
        refine m_get hx hb hts hown hKv hM (fun _ h => List.mem_cons_of_mem _ (List.mem_append_right _ (h))) (lt_X1 pb0) (at_X1 pb0) rfl 6 (by decide) k0 (v := .int (M12.1 b0 6)) rfl dX1_addStop_99 ?_
        refine lv_iconst (v := (1 : Int32)) hx hb dX1_addStop_102 (by decide) ?_
        refine lv_iadd hx hb dX1_addStop_103 ?_
        obtain ⟨M13, hM13, h⟩ := Option.bind_eq_some_iff.mp h
        refine m_put hx hb hts hown hKv hM (fun _ h => List.mem_cons_of_mem _ (List.mem_append_right _ (h))) tyX1 tyX1_ok nmX1 (lt_X1 pb0) (at_X1 pb0) rfl 6 (by decide) k0 rfl rfl rfl (Nat.le_of_ble_eq_true rfl) (pt_X1_6 pb0 (Option.some.inj hM13)) dX1_addStop_104 (fun H locs hM => ?_)
        exact m_vret hx hb hr hlocks hM (congrArg (a₁ := M13) (fun z => Ec ad cI z) (Option.some.inj h)) dX1_addStop_107
      · replace h := (if_neg c11).symm.trans h
        refine lv_aload_n hx hb dX1_addStop_75 rfl (lv_at hl 1 rfl) ?_
        refine lv_aload_n hx hb dX1_addStop_76 rfl (lv_at hl 1 rfl) ?_
        refine m_get hx hb hts hown hKv hM (fun _ h => List.mem_cons_of_mem _ (List.mem_append_right _ (h))) (lt_X1 pb0) (at_X1 pb0) rfl 6 (by decide) k0 (v := .int (M5.1 b0 6)) rfl dX1_addStop_77 ?_
        refine lv_iconst (v := (1 : Int32)) hx hb dX1_addStop_80 (by decide) ?_
        refine lv_isub hx hb dX1_addStop_81 ?_
        obtain ⟨x14, hx14, h⟩ := Option.bind_eq_some_iff.mp h
        refine m_callV (As := [.int ((M5.1 b0 6) - (1 : Int32))]) (st1 := [.int x14, .int (M5.1 b0 6), .ref (ad (b0 + 7))]) hx hb (hml.trans hl.1.symm) hown hts hKv hXs hXk hM (kX1_leaves l D cI ad hX0 b0 pb0 ((M5.1 b0 6) - (1 : Int32)) M5 _ hx14) (cwV 1 hts gX1_addStop_X1_leaves rfl rfl rfl (by decide +kernel) ⟨Nat.le_of_ble_eq_true rfl, Nat.le_of_ble_eq_true rfl⟩) (lt_X1 pb0) (at_X1 pb0) rfl rfl rfl rfl (Nat.le_of_ble_eq_true rfl) dX1_addStop_82 ⟨Nat.zero_le _, Nat.zero_le _⟩ (fun H locs hM => ?_)
        refine lv_aload_n hx hb dX1_addStop_85 rfl (lv_at hl 1 rfl) ?_
        refine m_get hx hb hts hown hKv hM (fun _ h => List.mem_cons_of_mem _ (List.mem_append_right _ (h))) (lt_X1 pb0) (at_X1 pb0) rfl 5 (by decide) k5 (v := .ref (ad (b0 + 4))) rfl dX1_addStop_86 ?_
        refine lv_iload_n hx hb dX1_addStop_89 rfl (lv_at hl 0 rfl) ?_
        obtain ⟨x15, hx15, h⟩ := Option.bind_eq_some_iff.mp h
        refine m_iald hx hb hKv hM (lt_X1_4 pb0) (at_X1_4 pb0) 0 rfl hx15 dX1_addStop_90 ?_
        refine lv_iadd hx hb dX1_addStop_91 ?_
        refine lv_goto (tgt := 96) hx hb dX1_addStop_92 (by decide) ?_
        obtain ⟨M16, hM16, h⟩ := Option.bind_eq_some_iff.mp h
        refine m_iast hx hb hKv hM (lt_X1_7 pb0) (at_X1_7 pb0) 0 rfl (sta_some hM16).1 (pa_X1_7 pb0 (sta_some hM16).2) dX1_addStop_96 (fun H locs hM => ?_)
        refine lv_aload_n hx hb dX1_addStop_97 rfl (lv_at hl 1 rfl) ?_
        refine lv_dup hx hb dX1_addStop_98 rfl ?_
        refine m_get hx hb hts hown hKv hM (fun _ h => List.mem_cons_of_mem _ (List.mem_append_right _ (h))) (lt_X1 pb0) (at_X1 pb0) rfl 6 (by decide) k0 (v := .int (M16.1 b0 6)) rfl dX1_addStop_99 ?_
        refine lv_iconst (v := (1 : Int32)) hx hb dX1_addStop_102 (by decide) ?_
        refine lv_iadd hx hb dX1_addStop_103 ?_
        obtain ⟨M17, hM17, h⟩ := Option.bind_eq_some_iff.mp h
        refine m_put hx hb hts hown hKv hM (fun _ h => List.mem_cons_of_mem _ (List.mem_append_right _ (h))) tyX1 tyX1_ok nmX1 (lt_X1 pb0) (at_X1 pb0) rfl 6 (by decide) k0 rfl rfl rfl (Nat.le_of_ble_eq_true rfl) (pt_X1_6 pb0 (Option.some.inj hM17)) dX1_addStop_104 (fun H locs hM => ?_)
        exact m_vret hx hb hr hlocks hM (congrArg (a₁ := M17) (fun z => Ec ad cI z) (Option.some.inj h)) dX1_addStop_107
  · replace h := (if_neg c1).symm.trans h
    exact m_vret hx hb hr hlocks hM (congrArg (a₁ := M) (fun z => Ec ad cI z) (Option.some.inj h)) dX1_addStop_9
set_option maxHeartbeats 4000000 in
set_option maxRecDepth 100000 in
theorem kX1_isTown (l : Launch) (D : va_G) (cI : ClassId) (ad : Nat → Nat) {X : State → Prop} {aS : Nat → Nat} (hX0 : cX D ad aS X) (b0 : Nat) (pb0 : isL b0) (a1 : Int32) (M : Mem) (res : Int32) (h : fX1_isTown b0 a1 M = some res) : mC l yX1_isTown wsX1_isTown { frames := 0, cells := 0, slots := 0, locals := 0 } D [(cI, .int)] ad 40 X [.ref (ad b0), .int a1] (Ec ad cI M) (some (.int res)) (Ec ad cI M) := by
  refine m_ofW (cc := cX1_isTown) (maxL := 2) (ret := (some .boolean)) (by decide) rfl (Nat.le_of_ble_eq_true rfl) ?_
  intro p e s m args below meth c hx hb hml hr hlocks hts hown hKv hXs ls hl hM
  have hXk := hX0.1
  have Z : mZ p s m args meth c cX1_isTown 2 (some .boolean) wsX1_isTown RX1 D [(cI, .int)] X := ⟨hx, hb, hml, hr, hlocks, hts, hown, hKv, hXs⟩
  replace hown : s.vm.findClass RX1 = some m.cls := hown
  have hl : lv_has ls 2 [(0, .ref (ad b0)), (1, .int a1)] := hl
  have k0 := hts (Cond.fieldLink RX1 9 "NoonWalker$Land" "towns" "I") (List.mem_of_getElem? (i := 1) rfl)
  unfold fX1_isTown at h
  refine lv_iload_n hx hb dX1_isTown_0 rfl (lv_at hl 1 rfl) ?_
  refine lv_if_lt (tgt := 16) hx hb dX1_isTown_1 (by decide) (fun c1 => ?_) (fun c1 => ?_)
  · replace h := (if_pos c1).symm.trans h
    refine lv_iconst (v := (0 : Int32)) hx hb dX1_isTown_16 (by decide) ?_
    exact m_zret hx hb hr hlocks hM (Option.some.inj h) rfl rfl dX1_isTown_17
  · replace h := (if_neg c1).symm.trans h
    refine lv_iload_n hx hb dX1_isTown_4 rfl (lv_at hl 1 rfl) ?_
    refine lv_aload_n hx hb dX1_isTown_5 rfl (lv_at hl 0 rfl) ?_
    refine m_get hx hb hts hown hKv hM (fun _ h => List.mem_cons_of_mem _ (List.mem_append_right _ (h))) (lt_X1 pb0) (at_X1 pb0) rfl 0 (by decide) k0 (v := .int (M.1 b0 0)) rfl dX1_isTown_6 ?_
    refine lv_icmp_ge (tgt := 16) hx hb dX1_isTown_9 (by decide) (fun c2 => ?_) (fun c2 => ?_)
    · replace h := (if_pos c2).symm.trans h
      refine lv_iconst (v := (0 : Int32)) hx hb dX1_isTown_16 (by decide) ?_
      exact m_zret hx hb hr hlocks hM (Option.some.inj h) rfl rfl dX1_isTown_17
    · replace h := (if_neg c2).symm.trans h
      refine lv_iconst (v := (1 : Int32)) hx hb dX1_isTown_12 (by decide) ?_
      refine lv_goto (tgt := 17) hx hb dX1_isTown_13 (by decide) ?_
      exact m_zret hx hb hr hlocks hM (Option.some.inj h) rfl rfl dX1_isTown_17
set_option maxHeartbeats 4000000 in
set_option maxRecDepth 100000 in
theorem kX1_canStopNext (l : Launch) (D : va_G) (cI : ClassId) (ad : Nat → Nat) {X : State → Prop} {aS : Nat → Nat} (hX0 : cX D ad aS X) (b0 : Nat) (pb0 : isL b0) (a1 : Int32) (M : Mem) (res : Int32) (h : fX1_canStopNext b0 a1 M = some res) : mC l yX1_canStopNext wsX1_canStopNext { frames := 2, cells := 0, slots := 0, locals := 44 } D [(cI, .int)] ad 40 X [.ref (ad b0), .int a1] (Ec ad cI M) (some (.int res)) (Ec ad cI M) := by
  refine m_ofW (cc := cX1_canStopNext) (maxL := 2) (ret := (some .boolean)) (by decide) rfl (Nat.le_of_ble_eq_true rfl) ?_
  intro p e s m args below meth c hx hb hml hr hlocks hts hown hKv hXs ls hl hM
  have hXk := hX0.1
  have Z : mZ p s m args meth c cX1_canStopNext 2 (some .boolean) wsX1_canStopNext RX1 D [(cI, .int)] X := ⟨hx, hb, hml, hr, hlocks, hts, hown, hKv, hXs⟩
  replace hown : s.vm.findClass RX1 = some m.cls := hown
  have hl : lv_has ls 2 [(0, .ref (ad b0)), (1, .int a1)] := hl
  have k0 := hts (Cond.fieldLink RX1 31 "NoonWalker$Land" "stops" "I") (List.mem_of_getElem? (i := 1) rfl)
  unfold fX1_canStopNext at h
  refine lv_aload_n hx hb dX1_canStopNext_0 rfl (lv_at hl 0 rfl) ?_
  refine lv_iload_n hx hb dX1_canStopNext_1 rfl (lv_at hl 1 rfl) ?_
  obtain ⟨x1, hx1, h⟩ := Option.bind_eq_some_iff.mp h
  refine m_callV (As := [.int a1]) (st1 := [.int x1]) hx hb (hml.trans hl.1.symm) hown hts hKv hXs hXk hM (kX1_isTown l D cI ad hX0 b0 pb0 a1 M _ hx1) (cwV 1 hts gX1_canStopNext_X1_isTown rfl rfl rfl (by decide +kernel) ⟨Nat.le_of_ble_eq_true rfl, Nat.le_of_ble_eq_true rfl⟩) (lt_X1 pb0) (at_X1 pb0) rfl rfl rfl rfl (Nat.le_of_ble_eq_true rfl) dX1_canStopNext_2 ⟨Nat.zero_le _, Nat.zero_le _⟩ (fun H locs hM => ?_)
  refine lv_if_eq (tgt := 29) hx hb dX1_canStopNext_5 (by decide) (fun c2 => ?_) (fun c2 => ?_)
  · replace h := (if_pos c2).symm.trans h
    refine lv_iconst (v := (0 : Int32)) hx hb dX1_canStopNext_29 (by decide) ?_
    exact m_zret hx hb hr hlocks hM (Option.some.inj h) rfl rfl dX1_canStopNext_30
  · replace h := (if_neg c2).symm.trans h
    refine lv_aload_n hx hb dX1_canStopNext_8 rfl (lv_at hl 0 rfl) ?_
    refine m_get hx hb hts hown hKv hM (fun _ h => List.mem_cons_of_mem _ (List.mem_append_right _ (h))) (lt_X1 pb0) (at_X1 pb0) rfl 6 (by decide) k0 (v := .int (M.1 b0 6)) rfl dX1_canStopNext_9 ?_
    refine lv_if_eq (tgt := 25) hx hb dX1_canStopNext_12 (by decide) (fun c3 => ?_) (fun c3 => ?_)
    · replace h := (if_pos c3).symm.trans h
      refine lv_iconst (v := (1 : Int32)) hx hb dX1_canStopNext_25 (by decide) ?_
      refine lv_goto (tgt := 30) hx hb dX1_canStopNext_26 (by decide) ?_
      exact m_zret hx hb hr hlocks hM (Option.some.inj h) rfl rfl dX1_canStopNext_30
    · replace h := (if_neg c3).symm.trans h
      refine lv_aload_n hx hb dX1_canStopNext_15 rfl (lv_at hl 0 rfl) ?_
      refine lv_iload_n hx hb dX1_canStopNext_16 rfl (lv_at hl 1 rfl) ?_
      obtain ⟨x4, hx4, h⟩ := Option.bind_eq_some_iff.mp h
      refine m_callV (As := [.int a1]) (st1 := [.int x4]) hx hb (hml.trans hl.1.symm) hown hts hKv hXs hXk hM (kX1_wayToNextStop l D cI ad hX0 b0 pb0 a1 M _ hx4) (cwV 1 hts gX1_canStopNext_X1_wayToNextStop rfl rfl rfl (by decide +kernel) ⟨Nat.le_of_ble_eq_true rfl, Nat.le_of_ble_eq_true rfl⟩) (lt_X1 pb0) (at_X1 pb0) rfl rfl rfl rfl (Nat.le_of_ble_eq_true rfl) dX1_canStopNext_17 ⟨Nat.zero_le _, Nat.zero_le _⟩ (fun H locs hM => ?_)
      refine lv_bipush (v := (-9 : Int32)) hx hb dX1_canStopNext_20 (by decide) ?_
      refine lv_icmp_eq (tgt := 29) hx hb dX1_canStopNext_22 (by decide) (fun c5 => ?_) (fun c5 => ?_)
      · replace h := (if_pos c5).symm.trans h
        refine lv_iconst (v := (0 : Int32)) hx hb dX1_canStopNext_29 (by decide) ?_
        exact m_zret hx hb hr hlocks hM (Option.some.inj h) rfl rfl dX1_canStopNext_30
      · replace h := (if_neg c5).symm.trans h
        refine lv_iconst (v := (1 : Int32)) hx hb dX1_canStopNext_25 (by decide) ?_
        refine lv_goto (tgt := 30) hx hb dX1_canStopNext_26 (by decide) ?_
        exact m_zret hx hb hr hlocks hM (Option.some.inj h) rfl rfl dX1_canStopNext_30
set_option maxHeartbeats 4000000 in
set_option maxRecDepth 100000 in
theorem kX1_distance (l : Launch) (D : va_G) (cI : ClassId) (ad : Nat → Nat) {X : State → Prop} {aS : Nat → Nat} (hX0 : cX D ad aS X) (b0 : Nat) (pb0 : isL b0) (a1 : Int32) (a2 : Int32) (M : Mem) (res : Int32) (h : fX1_distance b0 a1 a2 M = some res) : mC l yX1_distance wsX1_distance { frames := 1, cells := 0, slots := 0, locals := 21 } D [(cI, .int)] ad 40 X [.ref (ad b0), .int a1, .int a2] (Ec ad cI M) (some (.int res)) (Ec ad cI M) := by
  refine m_ofW (cc := cX1_distance) (maxL := 3) (ret := (some .int)) (by decide) rfl (Nat.le_of_ble_eq_true rfl) ?_
  intro p e s m args below meth c hx hb hml hr hlocks hts hown hKv hXs ls hl hM
  have hXk := hX0.1
  have Z : mZ p s m args meth c cX1_distance 3 (some .int) wsX1_distance RX1 D [(cI, .int)] X := ⟨hx, hb, hml, hr, hlocks, hts, hown, hKv, hXs⟩
  replace hown : s.vm.findClass RX1 = some m.cls := hown
  have hl : lv_has ls 3 [(0, .ref (ad b0)), (1, .int a1), (2, .int a2)] := hl
  have k0 := hts (Cond.fieldLink RX1 46 "NoonWalker$Land" "ways" "[I") (List.mem_of_getElem? (i := 1) rfl)
  unfold fX1_distance at h
  refine lv_aload_n hx hb dX1_distance_0 rfl (lv_at hl 0 rfl) ?_
  refine lv_iload_n hx hb dX1_distance_1 rfl (lv_at hl 1 rfl) ?_
  obtain ⟨x1, hx1, h⟩ := Option.bind_eq_some_iff.mp h
  refine m_callV (As := [.int a1]) (st1 := [.int x1]) hx hb (hml.trans hl.1.symm) hown hts hKv hXs hXk hM (kX1_isTown l D cI ad hX0 b0 pb0 a1 M _ hx1) (cwV 1 hts gX1_distance_X1_isTown rfl rfl rfl (by decide +kernel) ⟨Nat.le_of_ble_eq_true rfl, Nat.le_of_ble_eq_true rfl⟩) (lt_X1 pb0) (at_X1 pb0) rfl rfl rfl rfl (Nat.le_of_ble_eq_true rfl) dX1_distance_2 ⟨Nat.zero_le _, Nat.zero_le _⟩ (fun H locs hM => ?_)
  refine lv_if_eq (tgt := 30) hx hb dX1_distance_5 (by decide) (fun c2 => ?_) (fun c2 => ?_)
  · replace h := (if_pos c2).symm.trans h
    refine lv_bipush (v := (-9 : Int32)) hx hb dX1_distance_30 (by decide) ?_
    exact m_iret hx hb hr hlocks hM (Option.some.inj h) rfl dX1_distance_32
  · replace h := (if_neg c2).symm.trans h
    refine lv_aload_n hx hb dX1_distance_8 rfl (lv_at hl 0 rfl) ?_
    refine lv_iload_n hx hb dX1_distance_9 rfl (lv_at hl 2 rfl) ?_
    obtain ⟨x3, hx3, h⟩ := Option.bind_eq_some_iff.mp h
    refine m_callV (As := [.int a2]) (st1 := [.int x3]) hx hb (hml.trans hl.1.symm) hown hts hKv hXs hXk hM (kX1_isTown l D cI ad hX0 b0 pb0 a2 M _ hx3) (cwV 1 hts gX1_distance_X1_isTown rfl rfl rfl (by decide +kernel) ⟨Nat.le_of_ble_eq_true rfl, Nat.le_of_ble_eq_true rfl⟩) (lt_X1 pb0) (at_X1 pb0) rfl rfl rfl rfl (Nat.le_of_ble_eq_true rfl) dX1_distance_10 ⟨Nat.zero_le _, Nat.zero_le _⟩ (fun H locs hM => ?_)
    refine lv_if_eq (tgt := 30) hx hb dX1_distance_13 (by decide) (fun c4 => ?_) (fun c4 => ?_)
    · replace h := (if_pos c4).symm.trans h
      refine lv_bipush (v := (-9 : Int32)) hx hb dX1_distance_30 (by decide) ?_
      exact m_iret hx hb hr hlocks hM (Option.some.inj h) rfl dX1_distance_32
    · replace h := (if_neg c4).symm.trans h
      refine lv_aload_n hx hb dX1_distance_16 rfl (lv_at hl 0 rfl) ?_
      refine m_get hx hb hts hown hKv hM (fun _ h => List.mem_cons_of_mem _ (List.mem_append_right _ (h))) (lt_X1 pb0) (at_X1 pb0) rfl 11 (by decide) k0 (v := .ref (ad (b0 + 9))) rfl dX1_distance_17 ?_
      refine lv_iload_n hx hb dX1_distance_20 rfl (lv_at hl 1 rfl) ?_
      refine lv_bipush (v := (6 : Int32)) hx hb dX1_distance_21 (by decide) ?_
      refine lv_imul hx hb dX1_distance_23 ?_
      refine lv_iload_n hx hb dX1_distance_24 rfl (lv_at hl 2 rfl) ?_
      refine lv_iadd hx hb dX1_distance_25 ?_
      obtain ⟨x5, hx5, h⟩ := Option.bind_eq_some_iff.mp h
      refine m_iald hx hb hKv hM (lt_X1_9 pb0) (at_X1_9 pb0) 0 rfl hx5 dX1_distance_26 ?_
      refine lv_goto (tgt := 32) hx hb dX1_distance_27 (by decide) ?_
      exact m_iret hx hb hr hlocks hM (Option.some.inj h) rfl dX1_distance_32
set_option maxHeartbeats 4000000 in
set_option maxRecDepth 100000 in
theorem kX1_shorten (l : Launch) (D : va_G) (cI : ClassId) (ad : Nat → Nat) {X : State → Prop} {aS : Nat → Nat} (hX0 : cX D ad aS X) (b0 : Nat) (pb0 : isL b0) (a1 : Int32) (a2 : Int32) (a3 : Int32) (M : Mem) (res : Mem) (h : fX1_shorten b0 a1 a2 a3 M = some res) : mC l yX1_shorten wsX1_shorten { frames := 2, cells := 0, slots := 0, locals := 43 } D [(cI, .int)] ad 40 X [.ref (ad b0), .int a1, .int a2, .int a3] (Ec ad cI M) none (Ec ad cI res) := by
  refine m_ofW (cc := cX1_shorten) (maxL := 5) (ret := none) (by decide) rfl (Nat.le_of_ble_eq_true rfl) ?_
  intro p e s m args below meth c hx hb hml hr hlocks hts hown hKv hXs ls hl hM
  have hXk := hX0.1
  have Z : mZ p s m args meth c cX1_shorten 5 none wsX1_shorten RX1 D [(cI, .int)] X := ⟨hx, hb, hml, hr, hlocks, hts, hown, hKv, hXs⟩
  replace hown : s.vm.findClass RX1 = some m.cls := hown
  have hl : lv_has ls 5 [(0, .ref (ad b0)), (1, .int a1), (2, .int a2), (3, .int a3)] := hl
  have k0 := hts (Cond.fieldLink RX1 46 "NoonWalker$Land" "ways" "[I") (List.mem_of_getElem? (i := 1) rfl)
  unfold fX1_shorten at h
  refine lv_aload_n hx hb dX1_shorten_0 rfl (lv_at hl 0 rfl) ?_
  refine lv_iload_n hx hb dX1_shorten_1 rfl (lv_at hl 1 rfl) ?_
  obtain ⟨x1, hx1, h⟩ := Option.bind_eq_some_iff.mp h
  refine m_callV (As := [.int a1]) (st1 := [.int x1]) hx hb (hml.trans hl.1.symm) hown hts hKv hXs hXk hM (kX1_isTown l D cI ad hX0 b0 pb0 a1 M _ hx1) (cwV 1 hts gX1_shorten_X1_isTown rfl rfl rfl (by decide +kernel) ⟨Nat.le_of_ble_eq_true rfl, Nat.le_of_ble_eq_true rfl⟩) (lt_X1 pb0) (at_X1 pb0) rfl rfl rfl rfl (Nat.le_of_ble_eq_true rfl) dX1_shorten_2 ⟨Nat.zero_le _, Nat.zero_le _⟩ (fun H locs hM => ?_)
  refine lv_if_eq (tgt := 16) hx hb dX1_shorten_5 (by decide) (fun c2 => ?_) (fun c2 => ?_)
  · replace h := (if_pos c2).symm.trans h
    exact m_vret hx hb hr hlocks hM (congrArg (a₁ := M) (fun z => Ec ad cI z) (Option.some.inj h)) dX1_shorten_16
  · replace h := (if_neg c2).symm.trans h
    refine lv_aload_n hx hb dX1_shorten_8 rfl (lv_at hl 0 rfl) ?_
    refine lv_iload_n hx hb dX1_shorten_9 rfl (lv_at hl 2 rfl) ?_
    obtain ⟨x3, hx3, h⟩ := Option.bind_eq_some_iff.mp h
    refine m_callV (As := [.int a2]) (st1 := [.int x3]) hx hb (hml.trans hl.1.symm) hown hts hKv hXs hXk hM (kX1_isTown l D cI ad hX0 b0 pb0 a2 M _ hx3) (cwV 1 hts gX1_shorten_X1_isTown rfl rfl rfl (by decide +kernel) ⟨Nat.le_of_ble_eq_true rfl, Nat.le_of_ble_eq_true rfl⟩) (lt_X1 pb0) (at_X1 pb0) rfl rfl rfl rfl (Nat.le_of_ble_eq_true rfl) dX1_shorten_10 ⟨Nat.zero_le _, Nat.zero_le _⟩ (fun H locs hM => ?_)
    refine lv_if_ne (tgt := 17) hx hb dX1_shorten_13 (by decide) (fun c4 => ?_) (fun c4 => ?_)
    · replace h := (if_neg c4).symm.trans h
      refine lv_aload_n hx hb dX1_shorten_17 rfl (lv_at hl 0 rfl) ?_
      refine lv_iload_n hx hb dX1_shorten_18 rfl (lv_at hl 1 rfl) ?_
      refine lv_iload_n hx hb dX1_shorten_19 rfl (lv_at hl 2 rfl) ?_
      obtain ⟨x5, hx5, h⟩ := Option.bind_eq_some_iff.mp h
      refine m_callV (As := [.int a1, .int a2]) (st1 := [.int x5]) hx hb (hml.trans hl.1.symm) hown hts hKv hXs hXk hM (kX1_distance l D cI ad hX0 b0 pb0 a1 a2 M _ hx5) (cwV 2 hts gX1_shorten_X1_distance rfl rfl rfl (by decide +kernel) ⟨Nat.le_of_ble_eq_true rfl, Nat.le_of_ble_eq_true rfl⟩) (lt_X1 pb0) (at_X1 pb0) rfl rfl rfl rfl (Nat.le_of_ble_eq_true rfl) dX1_shorten_20 ⟨Nat.zero_le _, Nat.zero_le _⟩ (fun H locs hM => ?_)
      refine lv_istore (lv' := [(4, .int x5), (0, .ref (ad b0)), (1, .int a1), (2, .int a2), (3, .int a3)]) hx hb dX1_shorten_23 hl (by decide) rfl (fun ls hl => ?_)
      refine lv_iload hx hb dX1_shorten_25 (lv_at hl 0 rfl) ?_
      refine lv_bipush (v := (-9 : Int32)) hx hb dX1_shorten_27 (by decide) ?_
      refine lv_icmp_eq (tgt := 38) hx hb dX1_shorten_29 (by decide) (fun c6 => ?_) (fun c6 => ?_)
      · replace h := (if_pos c6).symm.trans h
        refine lv_aload_n hx hb dX1_shorten_38 rfl (lv_at hl 1 rfl) ?_
        refine m_get hx hb hts hown hKv hM (fun _ h => List.mem_cons_of_mem _ (List.mem_append_right _ (h))) (lt_X1 pb0) (at_X1 pb0) rfl 11 (by decide) k0 (v := .ref (ad (b0 + 9))) rfl dX1_shorten_39 ?_
        refine lv_iload_n hx hb dX1_shorten_42 rfl (lv_at hl 2 rfl) ?_
        refine lv_bipush (v := (6 : Int32)) hx hb dX1_shorten_43 (by decide) ?_
        refine lv_imul hx hb dX1_shorten_45 ?_
        refine lv_iload_n hx hb dX1_shorten_46 rfl (lv_at hl 3 rfl) ?_
        refine lv_iadd hx hb dX1_shorten_47 ?_
        refine lv_iload_n hx hb dX1_shorten_48 rfl (lv_at hl 4 rfl) ?_
        obtain ⟨M7, hM7, h⟩ := Option.bind_eq_some_iff.mp h
        refine m_iast hx hb hKv hM (lt_X1_9 pb0) (at_X1_9 pb0) 0 rfl (sta_some hM7).1 (pa_X1_9 pb0 (sta_some hM7).2) dX1_shorten_49 (fun H locs hM => ?_)
        exact m_vret hx hb hr hlocks hM (congrArg (a₁ := M7) (fun z => Ec ad cI z) (Option.some.inj h)) dX1_shorten_50
      · replace h := (if_neg c6).symm.trans h
        refine lv_iload_n hx hb dX1_shorten_32 rfl (lv_at hl 4 rfl) ?_
        refine lv_iload hx hb dX1_shorten_33 (lv_at hl 0 rfl) ?_
        refine lv_icmp_ge (tgt := 50) hx hb dX1_shorten_35 (by decide) (fun c8 => ?_) (fun c8 => ?_)
        · replace h := (if_pos c8).symm.trans h
          exact m_vret hx hb hr hlocks hM (congrArg (a₁ := M) (fun z => Ec ad cI z) (Option.some.inj h)) dX1_shorten_50
        · replace h := (if_neg c8).symm.trans h
          refine lv_aload_n hx hb dX1_shorten_38 rfl (lv_at hl 1 rfl) ?_
          refine m_get hx hb hts hown hKv hM (fun _ h => List.mem_cons_of_mem _ (List.mem_append_right _ (h))) (lt_X1 pb0) (at_X1 pb0) rfl 11 (by decide) k0 (v := .ref (ad (b0 + 9))) rfl dX1_shorten_39 ?_
          refine lv_iload_n hx hb dX1_shorten_42 rfl (lv_at hl 2 rfl) ?_
          refine lv_bipush (v := (6 : Int32)) hx hb dX1_shorten_43 (by decide) ?_
          refine lv_imul hx hb dX1_shorten_45 ?_
          refine lv_iload_n hx hb dX1_shorten_46 rfl (lv_at hl 3 rfl) ?_
          refine lv_iadd hx hb dX1_shorten_47 ?_
          refine lv_iload_n hx hb dX1_shorten_48 rfl (lv_at hl 4 rfl) ?_
          obtain ⟨M9, hM9, h⟩ := Option.bind_eq_some_iff.mp h
          refine m_iast hx hb hKv hM (lt_X1_9 pb0) (at_X1_9 pb0) 0 rfl (sta_some hM9).1 (pa_X1_9 pb0 (sta_some hM9).2) dX1_shorten_49 (fun H locs hM => ?_)
          exact m_vret hx hb hr hlocks hM (congrArg (a₁ := M9) (fun z => Ec ad cI z) (Option.some.inj h)) dX1_shorten_50
    · replace h := (if_pos c4).symm.trans h
      exact m_vret hx hb hr hlocks hM (congrArg (a₁ := M) (fun z => Ec ad cI z) (Option.some.inj h)) dX1_shorten_16
set_option maxHeartbeats 4000000 in
set_option maxRecDepth 100000 in
theorem wX1_measureRoads_2 {p : Program} {l : Launch} {e : Env} {s : State} {m : MethodId} {args : Array Value} {below : List Frame} {meth : Method} {c : Code} {D : va_G} {cI : ClassId} {ad : Nat → Nat} {X : State → Prop} (Z : mZ p s m args meth c cX1_measureRoads 2 none wsX1_measureRoads RX1 D [(cI, .int)] X) {aS : Nat → Nat} (hX0 : cX D ad aS X) (b0 : Nat) (pb0 : isL b0)    {K : Mem → Option Mem} (res : Mem) (hKc : ∀  (M1 : Mem), K  M1 = some res → ∀ (H : Heap) (locs : List Loc) (ls : Array Slot), lv_has ls 2 [(0, .ref (ad b0))] → mH D ad 40 (Ec ad cI M1) s.heap H locs → W p l e { frames := 3, cells := 0, slots := 0, locals := 67 } s m args below meth c H locs 0 0 (MQ below (mQ D ad 40 none (Ec ad cI res)) args s 0 0 (mA ad 40)) (F0 m 25 ls [])) :
    ∀ (n : Nat) (v1 : Int32) (M : Mem), fX1_measureRoads_2 b0 K n v1 M = some res → ∀ (H : Heap) (locs : List Loc) (ls : Array Slot), lv_has ls 2 [(0, .ref (ad b0)), (1, .int v1)] → mH D ad 40 (Ec ad cI M) s.heap H locs → W p l e { frames := 3, cells := 0, slots := 0, locals := 67 } s m args below meth c H locs 0 0 (MQ below (mQ D ad 40 none (Ec ad cI res)) args s 0 0 (mA ad 40)) (F0 m 2 ls []) := by
  obtain ⟨hx, hb, hml, hr, hlocks, hts, hown, hKv, hXs⟩ := id Z
  have hXk := hX0.1
  have k0 := hts (Cond.fieldLink RX1 46 "NoonWalker$Land" "ways" "[I") (List.mem_of_getElem? (i := 1) rfl)
  intro n
  induction n with
  | zero => intro _ _ h; exact absurd h (by unfold fX1_measureRoads_2; exact fun h => by cases h)
  | succ n ih =>
    intro v1 M h H locs ls hl hM
    rw [fX1_measureRoads_2] at h
    refine lv_iload_n hx hb dX1_measureRoads_2 rfl (lv_at hl 1 rfl) ?_
    refine lv_aload_n hx hb dX1_measureRoads_3 rfl (lv_at hl 0 rfl) ?_
    refine m_get hx hb hts hown hKv hM (fun _ h => List.mem_cons_of_mem _ (List.mem_append_right _ (h))) (lt_X1 pb0) (at_X1 pb0) rfl 11 (by decide) k0 (v := .ref (ad (b0 + 9))) rfl dX1_measureRoads_4 ?_
    refine m_alen hx hb hKv hM (lt_X1_9 pb0) (at_X1_9 pb0) 0 rfl (v := (36 : Int32)) rfl dX1_measureRoads_7 ?_
    refine lv_icmp_ge (tgt := 25) hx hb dX1_measureRoads_8 (by decide) (fun c1 => ?_) (fun c1 => ?_)
    · replace h := (if_pos c1).symm.trans h
      exact hKc _ h _ _ _ (lv_sub hl [0] rfl) hM
    · replace h := (if_neg c1).symm.trans h
      refine lv_aload_n hx hb dX1_measureRoads_11 rfl (lv_at hl 0 rfl) ?_
      refine m_get hx hb hts hown hKv hM (fun _ h => List.mem_cons_of_mem _ (List.mem_append_right _ (h))) (lt_X1 pb0) (at_X1 pb0) rfl 11 (by decide) k0 (v := .ref (ad (b0 + 9))) rfl dX1_measureRoads_12 ?_
      refine lv_iload_n hx hb dX1_measureRoads_15 rfl (lv_at hl 1 rfl) ?_
      refine lv_bipush (v := (-9 : Int32)) hx hb dX1_measureRoads_16 (by decide) ?_
      obtain ⟨M2, hM2, h⟩ := Option.bind_eq_some_iff.mp h
      refine m_iast hx hb hKv hM (lt_X1_9 pb0) (at_X1_9 pb0) 0 rfl (sta_some hM2).1 (pa_X1_9 pb0 (sta_some hM2).2) dX1_measureRoads_18 (fun H locs hM => ?_)
      refine lv_iinc (v := (v1 + 1)) (lv' := [(1, .int (v1 + 1)), (0, .ref (ad b0))]) hx hb dX1_measureRoads_19 hl (k := 1) rfl rfl (by decide) rfl (fun ls hl => ?_)
      refine lv_goto (tgt := 2) hx hb dX1_measureRoads_22 (by decide) ?_
      exact ih _ _ h _ _ _ (lv_sub hl [1, 0] rfl) hM
set_option maxHeartbeats 4000000 in
set_option maxRecDepth 100000 in
theorem wX1_measureRoads_27 {p : Program} {l : Launch} {e : Env} {s : State} {m : MethodId} {args : Array Value} {below : List Frame} {meth : Method} {c : Code} {D : va_G} {cI : ClassId} {ad : Nat → Nat} {X : State → Prop} (Z : mZ p s m args meth c cX1_measureRoads 2 none wsX1_measureRoads RX1 D [(cI, .int)] X) {aS : Nat → Nat} (hX0 : cX D ad aS X) (b0 : Nat) (pb0 : isL b0)    {K : Mem → Option Mem} (res : Mem) (hKc : ∀  (M1 : Mem), K  M1 = some res → ∀ (H : Heap) (locs : List Loc) (ls : Array Slot), lv_has ls 2 [(0, .ref (ad b0))] → mH D ad 40 (Ec ad cI M1) s.heap H locs → W p l e { frames := 3, cells := 0, slots := 0, locals := 67 } s m args below meth c H locs 0 0 (MQ below (mQ D ad 40 none (Ec ad cI res)) args s 0 0 (mA ad 40)) (F0 m 48 ls [])) :
    ∀ (n : Nat) (v1 : Int32) (M : Mem), fX1_measureRoads_27 b0 K n v1 M = some res → ∀ (H : Heap) (locs : List Loc) (ls : Array Slot), lv_has ls 2 [(0, .ref (ad b0)), (1, .int v1)] → mH D ad 40 (Ec ad cI M) s.heap H locs → W p l e { frames := 3, cells := 0, slots := 0, locals := 67 } s m args below meth c H locs 0 0 (MQ below (mQ D ad 40 none (Ec ad cI res)) args s 0 0 (mA ad 40)) (F0 m 27 ls []) := by
  obtain ⟨hx, hb, hml, hr, hlocks, hts, hown, hKv, hXs⟩ := id Z
  have hXk := hX0.1
  have k0 := hts (Cond.fieldLink RX1 9 "NoonWalker$Land" "towns" "I") (List.mem_of_getElem? (i := 2) rfl)
  intro n
  induction n with
  | zero => intro _ _ h; exact absurd h (by unfold fX1_measureRoads_27; exact fun h => by cases h)
  | succ n ih =>
    intro v1 M h H locs ls hl hM
    rw [fX1_measureRoads_27] at h
    refine lv_iload_n hx hb dX1_measureRoads_27 rfl (lv_at hl 1 rfl) ?_
    refine lv_aload_n hx hb dX1_measureRoads_28 rfl (lv_at hl 0 rfl) ?_
    refine m_get hx hb hts hown hKv hM (fun _ h => List.mem_cons_of_mem _ (List.mem_append_right _ (h))) (lt_X1 pb0) (at_X1 pb0) rfl 0 (by decide) k0 (v := .int (M.1 b0 0)) rfl dX1_measureRoads_29 ?_
    refine lv_icmp_ge (tgt := 48) hx hb dX1_measureRoads_32 (by decide) (fun c1 => ?_) (fun c1 => ?_)
    · replace h := (if_pos c1).symm.trans h
      exact hKc _ h _ _ _ (lv_sub hl [0] rfl) hM
    · replace h := (if_neg c1).symm.trans h
      refine lv_aload_n hx hb dX1_measureRoads_35 rfl (lv_at hl 0 rfl) ?_
      refine lv_iload_n hx hb dX1_measureRoads_36 rfl (lv_at hl 1 rfl) ?_
      refine lv_iload_n hx hb dX1_measureRoads_37 rfl (lv_at hl 1 rfl) ?_
      refine lv_iconst (v := (0 : Int32)) hx hb dX1_measureRoads_38 (by decide) ?_
      obtain ⟨x2, hx2, h⟩ := Option.bind_eq_some_iff.mp h
      refine m_callV (As := [.int v1, .int v1, .int (0 : Int32)]) (st1 := []) hx hb (hml.trans hl.1.symm) hown hts hKv hXs hXk hM (kX1_shorten l D cI ad hX0 b0 pb0 v1 v1 (0 : Int32) M _ hx2) (cwV 3 hts gX1_measureRoads_X1_shorten rfl rfl rfl (by decide +kernel) ⟨Nat.le_of_ble_eq_true rfl, Nat.le_of_ble_eq_true rfl⟩) (lt_X1 pb0) (at_X1 pb0) rfl rfl rfl rfl (Nat.le_of_ble_eq_true rfl) dX1_measureRoads_39 ⟨Nat.zero_le _, Nat.zero_le _⟩ (fun H locs hM => ?_)
      refine lv_iinc (v := (v1 + 1)) (lv' := [(1, .int (v1 + 1)), (0, .ref (ad b0))]) hx hb dX1_measureRoads_42 hl (k := 1) rfl rfl (by decide) rfl (fun ls hl => ?_)
      refine lv_goto (tgt := 27) hx hb dX1_measureRoads_45 (by decide) ?_
      exact ih _ _ h _ _ _ (lv_sub hl [1, 0] rfl) hM
set_option maxHeartbeats 4000000 in
set_option maxRecDepth 100000 in
theorem wX1_measureRoads_50 {p : Program} {l : Launch} {e : Env} {s : State} {m : MethodId} {args : Array Value} {below : List Frame} {meth : Method} {c : Code} {D : va_G} {cI : ClassId} {ad : Nat → Nat} {X : State → Prop} (Z : mZ p s m args meth c cX1_measureRoads 2 none wsX1_measureRoads RX1 D [(cI, .int)] X) {aS : Nat → Nat} (hX0 : cX D ad aS X) (b0 : Nat) (pb0 : isL b0)    {K : Mem → Option Mem} (res : Mem) (hKc : ∀  (M1 : Mem), K  M1 = some res → ∀ (H : Heap) (locs : List Loc) (ls : Array Slot), lv_has ls 2 [] → mH D ad 40 (Ec ad cI M1) s.heap H locs → W p l e { frames := 3, cells := 0, slots := 0, locals := 67 } s m args below meth c H locs 0 0 (MQ below (mQ D ad 40 none (Ec ad cI res)) args s 0 0 (mA ad 40)) (F0 m 108 ls [])) :
    ∀ (n : Nat) (v1 : Int32) (M : Mem), fX1_measureRoads_50 b0 K n v1 M = some res → ∀ (H : Heap) (locs : List Loc) (ls : Array Slot), lv_has ls 2 [(0, .ref (ad b0)), (1, .int v1)] → mH D ad 40 (Ec ad cI M) s.heap H locs → W p l e { frames := 3, cells := 0, slots := 0, locals := 67 } s m args below meth c H locs 0 0 (MQ below (mQ D ad 40 none (Ec ad cI res)) args s 0 0 (mA ad 40)) (F0 m 50 ls []) := by
  obtain ⟨hx, hb, hml, hr, hlocks, hts, hown, hKv, hXs⟩ := id Z
  have hXk := hX0.1
  have k0 := hts (Cond.fieldLink RX1 19 "NoonWalker$Land" "roads" "I") (List.mem_of_getElem? (i := 3) rfl)
  have k1 := hts (Cond.fieldLink RX1 22 "NoonWalker$Land" "roadA" "[I") (List.mem_of_getElem? (i := 4) rfl)
  have k2 := hts (Cond.fieldLink RX1 25 "NoonWalker$Land" "roadB" "[I") (List.mem_of_getElem? (i := 5) rfl)
  have k3 := hts (Cond.fieldLink RX1 28 "NoonWalker$Land" "miles" "[I") (List.mem_of_getElem? (i := 6) rfl)
  intro n
  induction n with
  | zero => intro _ _ h; exact absurd h (by unfold fX1_measureRoads_50; exact fun h => by cases h)
  | succ n ih =>
    intro v1 M h H locs ls hl hM
    rw [fX1_measureRoads_50] at h
    refine lv_iload_n hx hb dX1_measureRoads_50 rfl (lv_at hl 1 rfl) ?_
    refine lv_aload_n hx hb dX1_measureRoads_51 rfl (lv_at hl 0 rfl) ?_
    refine m_get hx hb hts hown hKv hM (fun _ h => List.mem_cons_of_mem _ (List.mem_append_right _ (h))) (lt_X1 pb0) (at_X1 pb0) rfl 2 (by decide) k0 (v := .int (M.1 b0 2)) rfl dX1_measureRoads_52 ?_
    refine lv_icmp_ge (tgt := 108) hx hb dX1_measureRoads_55 (by decide) (fun c1 => ?_) (fun c1 => ?_)
    · replace h := (if_pos c1).symm.trans h
      exact hKc _ h _ _ _ (lv_sub hl [] rfl) hM
    · replace h := (if_neg c1).symm.trans h
      refine lv_aload_n hx hb dX1_measureRoads_58 rfl (lv_at hl 0 rfl) ?_
      refine lv_aload_n hx hb dX1_measureRoads_59 rfl (lv_at hl 0 rfl) ?_
      refine m_get hx hb hts hown hKv hM (fun _ h => List.mem_cons_of_mem _ (List.mem_append_right _ (h))) (lt_X1 pb0) (at_X1 pb0) rfl 3 (by decide) k1 (v := .ref (ad (b0 + 2))) rfl dX1_measureRoads_60 ?_
      refine lv_iload_n hx hb dX1_measureRoads_63 rfl (lv_at hl 1 rfl) ?_
      obtain ⟨x2, hx2, h⟩ := Option.bind_eq_some_iff.mp h
      refine m_iald hx hb hKv hM (lt_X1_2 pb0) (at_X1_2 pb0) 0 rfl hx2 dX1_measureRoads_64 ?_
      refine lv_aload_n hx hb dX1_measureRoads_65 rfl (lv_at hl 0 rfl) ?_
      refine m_get hx hb hts hown hKv hM (fun _ h => List.mem_cons_of_mem _ (List.mem_append_right _ (h))) (lt_X1 pb0) (at_X1 pb0) rfl 4 (by decide) k2 (v := .ref (ad (b0 + 3))) rfl dX1_measureRoads_66 ?_
      refine lv_iload_n hx hb dX1_measureRoads_69 rfl (lv_at hl 1 rfl) ?_
      obtain ⟨x3, hx3, h⟩ := Option.bind_eq_some_iff.mp h
      refine m_iald hx hb hKv hM (lt_X1_3 pb0) (at_X1_3 pb0) 0 rfl hx3 dX1_measureRoads_70 ?_
      refine lv_aload_n hx hb dX1_measureRoads_71 rfl (lv_at hl 0 rfl) ?_
      refine m_get hx hb hts hown hKv hM (fun _ h => List.mem_cons_of_mem _ (List.mem_append_right _ (h))) (lt_X1 pb0) (at_X1 pb0) rfl 5 (by decide) k3 (v := .ref (ad (b0 + 4))) rfl dX1_measureRoads_72 ?_
      refine lv_iload_n hx hb dX1_measureRoads_75 rfl (lv_at hl 1 rfl) ?_
      obtain ⟨x4, hx4, h⟩ := Option.bind_eq_some_iff.mp h
      refine m_iald hx hb hKv hM (lt_X1_4 pb0) (at_X1_4 pb0) 0 rfl hx4 dX1_measureRoads_76 ?_
      obtain ⟨x5, hx5, h⟩ := Option.bind_eq_some_iff.mp h
      refine m_callV (As := [.int x2, .int x3, .int x4]) (st1 := []) hx hb (hml.trans hl.1.symm) hown hts hKv hXs hXk hM (kX1_shorten l D cI ad hX0 b0 pb0 x2 x3 x4 M _ hx5) (cwV 3 hts gX1_measureRoads_X1_shorten rfl rfl rfl (by decide +kernel) ⟨Nat.le_of_ble_eq_true rfl, Nat.le_of_ble_eq_true rfl⟩) (lt_X1 pb0) (at_X1 pb0) rfl rfl rfl rfl (Nat.le_of_ble_eq_true rfl) dX1_measureRoads_77 ⟨Nat.zero_le _, Nat.zero_le _⟩ (fun H locs hM => ?_)
      refine lv_aload_n hx hb dX1_measureRoads_80 rfl (lv_at hl 0 rfl) ?_
      refine lv_aload_n hx hb dX1_measureRoads_81 rfl (lv_at hl 0 rfl) ?_
      refine m_get hx hb hts hown hKv hM (fun _ h => List.mem_cons_of_mem _ (List.mem_append_right _ (h))) (lt_X1 pb0) (at_X1 pb0) rfl 4 (by decide) k2 (v := .ref (ad (b0 + 3))) rfl dX1_measureRoads_82 ?_
      refine lv_iload_n hx hb dX1_measureRoads_85 rfl (lv_at hl 1 rfl) ?_
      obtain ⟨x6, hx6, h⟩ := Option.bind_eq_some_iff.mp h
      refine m_iald hx hb hKv hM (lt_X1_3 pb0) (at_X1_3 pb0) 0 rfl hx6 dX1_measureRoads_86 ?_
      refine lv_aload_n hx hb dX1_measureRoads_87 rfl (lv_at hl 0 rfl) ?_
      refine m_get hx hb hts hown hKv hM (fun _ h => List.mem_cons_of_mem _ (List.mem_append_right _ (h))) (lt_X1 pb0) (at_X1 pb0) rfl 3 (by decide) k1 (v := .ref (ad (b0 + 2))) rfl dX1_measureRoads_88 ?_
      refine lv_iload_n hx hb dX1_measureRoads_91 rfl (lv_at hl 1 rfl) ?_
      obtain ⟨x7, hx7, h⟩ := Option.bind_eq_some_iff.mp h
      refine m_iald hx hb hKv hM (lt_X1_2 pb0) (at_X1_2 pb0) 0 rfl hx7 dX1_measureRoads_92 ?_
      refine lv_aload_n hx hb dX1_measureRoads_93 rfl (lv_at hl 0 rfl) ?_
      refine m_get hx hb hts hown hKv hM (fun _ h => List.mem_cons_of_mem _ (List.mem_append_right _ (h))) (lt_X1 pb0) (at_X1 pb0) rfl 5 (by decide) k3 (v := .ref (ad (b0 + 4))) rfl dX1_measureRoads_94 ?_
      refine lv_iload_n hx hb dX1_measureRoads_97 rfl (lv_at hl 1 rfl) ?_
      obtain ⟨x8, hx8, h⟩ := Option.bind_eq_some_iff.mp h
      refine m_iald hx hb hKv hM (lt_X1_4 pb0) (at_X1_4 pb0) 0 rfl hx8 dX1_measureRoads_98 ?_
      obtain ⟨x9, hx9, h⟩ := Option.bind_eq_some_iff.mp h
      refine m_callV (As := [.int x6, .int x7, .int x8]) (st1 := []) hx hb (hml.trans hl.1.symm) hown hts hKv hXs hXk hM (kX1_shorten l D cI ad hX0 b0 pb0 x6 x7 x8 x5 _ hx9) (cwV 3 hts gX1_measureRoads_X1_shorten rfl rfl rfl (by decide +kernel) ⟨Nat.le_of_ble_eq_true rfl, Nat.le_of_ble_eq_true rfl⟩) (lt_X1 pb0) (at_X1 pb0) rfl rfl rfl rfl (Nat.le_of_ble_eq_true rfl) dX1_measureRoads_99 ⟨Nat.zero_le _, Nat.zero_le _⟩ (fun H locs hM => ?_)
      refine lv_iinc (v := (v1 + 1)) (lv' := [(1, .int (v1 + 1)), (0, .ref (ad b0))]) hx hb dX1_measureRoads_102 hl (k := 1) rfl rfl (by decide) rfl (fun ls hl => ?_)
      refine lv_goto (tgt := 50) hx hb dX1_measureRoads_105 (by decide) ?_
      exact ih _ _ h _ _ _ (lv_sub hl [1, 0] rfl) hM
set_option maxHeartbeats 4000000 in
set_option maxRecDepth 100000 in
theorem kX1_measureRoads (l : Launch) (D : va_G) (cI : ClassId) (ad : Nat → Nat) {X : State → Prop} {aS : Nat → Nat} (hX0 : cX D ad aS X) (b0 : Nat) (pb0 : isL b0) (M : Mem) (res : Mem) (h : fX1_measureRoads b0 M = some res) : mC l yX1_measureRoads wsX1_measureRoads { frames := 3, cells := 0, slots := 0, locals := 67 } D [(cI, .int)] ad 40 X [.ref (ad b0)] (Ec ad cI M) none (Ec ad cI res) := by
  refine m_ofW (cc := cX1_measureRoads) (maxL := 2) (ret := none) (by decide) rfl (Nat.le_of_ble_eq_true rfl) ?_
  intro p e s m args below meth c hx hb hml hr hlocks hts hown hKv hXs ls hl hM
  have hXk := hX0.1
  have Z : mZ p s m args meth c cX1_measureRoads 2 none wsX1_measureRoads RX1 D [(cI, .int)] X := ⟨hx, hb, hml, hr, hlocks, hts, hown, hKv, hXs⟩
  replace hown : s.vm.findClass RX1 = some m.cls := hown
  have hl : lv_has ls 2 [(0, .ref (ad b0))] := hl
  unfold fX1_measureRoads at h
  refine lv_iconst (v := (0 : Int32)) hx hb dX1_measureRoads_0 (by decide) ?_
  refine lv_istore_n (lv' := [(1, .int (0 : Int32)), (0, .ref (ad b0))]) hx hb dX1_measureRoads_1 rfl hl (by decide) rfl (fun ls hl => ?_)
  refine wX1_measureRoads_2 Z hX0 b0 pb0 _ (fun M1 h H locs ls hl hM => ?_) _ _ _ h _ _ _ (lv_sub hl [1, 0] rfl) hM
  refine lv_iconst (v := (0 : Int32)) hx hb dX1_measureRoads_25 (by decide) ?_
  refine lv_istore_n (lv' := [(1, .int (0 : Int32)), (0, .ref (ad b0))]) hx hb dX1_measureRoads_26 rfl hl (by decide) rfl (fun ls hl => ?_)
  refine wX1_measureRoads_27 Z hX0 b0 pb0 _ (fun M2 h H locs ls hl hM => ?_) _ _ _ h _ _ _ (lv_sub hl [1, 0] rfl) hM
  refine lv_iconst (v := (0 : Int32)) hx hb dX1_measureRoads_48 (by decide) ?_
  refine lv_istore_n (lv' := [(1, .int (0 : Int32)), (0, .ref (ad b0))]) hx hb dX1_measureRoads_49 rfl hl (by decide) rfl (fun ls hl => ?_)
  refine wX1_measureRoads_50 Z hX0 b0 pb0 _ (fun M3 h H locs ls hl hM => ?_) _ _ _ h _ _ _ (lv_sub hl [1, 0] rfl) hM
  exact m_vret hx hb hr hlocks hM (congrArg (a₁ := M3) (fun z => Ec ad cI z) (Option.some.inj h)) dX1_measureRoads_108
set_option maxHeartbeats 4000000 in
set_option maxRecDepth 100000 in
theorem kX1_addPlace (l : Launch) (D : va_G) (cI : ClassId) (ad : Nat → Nat) {X : State → Prop} {aS : Nat → Nat} (hX0 : cX D ad aS X) (b0 : Nat) (pb0 : isL b0) (a1 : Int32) (M : Mem) (res : Mem) (h : fX1_addPlace b0 a1 M = some res) : mC l yX1_addPlace wsX1_addPlace { frames := 0, cells := 0, slots := 0, locals := 0 } D [(cI, .int)] ad 40 X [.ref (ad b0), .int a1] (Ec ad cI M) none (Ec ad cI res) := by
  refine m_ofW (cc := cX1_addPlace) (maxL := 2) (ret := none) (by decide) rfl (Nat.le_of_ble_eq_true rfl) ?_
  intro p e s m args below meth c hx hb hml hr hlocks hts hown hKv hXs ls hl hM
  have hXk := hX0.1
  have Z : mZ p s m args meth c cX1_addPlace 2 none wsX1_addPlace RX1 D [(cI, .int)] X := ⟨hx, hb, hml, hr, hlocks, hts, hown, hKv, hXs⟩
  replace hown : s.vm.findClass RX1 = some m.cls := hown
  have hl : lv_has ls 2 [(0, .ref (ad b0)), (1, .int a1)] := hl
  have k0 := hts (Cond.fieldLink RX1 49 "NoonWalker$Land" "places" "I") (List.mem_of_getElem? (i := 1) rfl)
  have k1 := hts (Cond.fieldLink RX1 52 "NoonWalker$Land" "placeList" "[I") (List.mem_of_getElem? (i := 2) rfl)
  unfold fX1_addPlace at h
  refine lv_aload_n hx hb dX1_addPlace_0 rfl (lv_at hl 0 rfl) ?_
  refine m_get hx hb hts hown hKv hM (fun _ h => List.mem_cons_of_mem _ (List.mem_append_right _ (h))) (lt_X1 pb0) (at_X1 pb0) rfl 12 (by decide) k0 (v := .int (M.1 b0 12)) rfl dX1_addPlace_1 ?_
  refine lv_sipush (v := (296 : Int32)) hx hb dX1_addPlace_4 (by decide) ?_
  refine lv_icmp_lt (tgt := 11) hx hb dX1_addPlace_7 (by decide) (fun c1 => ?_) (fun c1 => ?_)
  · replace h := (if_pos c1).symm.trans h
    refine lv_aload_n hx hb dX1_addPlace_11 rfl (lv_at hl 0 rfl) ?_
    refine m_get hx hb hts hown hKv hM (fun _ h => List.mem_cons_of_mem _ (List.mem_append_right _ (h))) (lt_X1 pb0) (at_X1 pb0) rfl 13 (by decide) k1 (v := .ref (ad (b0 + 10))) rfl dX1_addPlace_12 ?_
    refine lv_aload_n hx hb dX1_addPlace_15 rfl (lv_at hl 0 rfl) ?_
    refine m_get hx hb hts hown hKv hM (fun _ h => List.mem_cons_of_mem _ (List.mem_append_right _ (h))) (lt_X1 pb0) (at_X1 pb0) rfl 12 (by decide) k0 (v := .int (M.1 b0 12)) rfl dX1_addPlace_16 ?_
    refine lv_iload_n hx hb dX1_addPlace_19 rfl (lv_at hl 1 rfl) ?_
    obtain ⟨M2, hM2, h⟩ := Option.bind_eq_some_iff.mp h
    refine m_iast hx hb hKv hM (lt_X1_10 pb0) (at_X1_10 pb0) 0 rfl (sta_some hM2).1 (pa_X1_10 pb0 (sta_some hM2).2) dX1_addPlace_20 (fun H locs hM => ?_)
    refine lv_aload_n hx hb dX1_addPlace_21 rfl (lv_at hl 0 rfl) ?_
    refine lv_dup hx hb dX1_addPlace_22 rfl ?_
    refine m_get hx hb hts hown hKv hM (fun _ h => List.mem_cons_of_mem _ (List.mem_append_right _ (h))) (lt_X1 pb0) (at_X1 pb0) rfl 12 (by decide) k0 (v := .int (M2.1 b0 12)) rfl dX1_addPlace_23 ?_
    refine lv_iconst (v := (1 : Int32)) hx hb dX1_addPlace_26 (by decide) ?_
    refine lv_iadd hx hb dX1_addPlace_27 ?_
    obtain ⟨M3, hM3, h⟩ := Option.bind_eq_some_iff.mp h
    refine m_put hx hb hts hown hKv hM (fun _ h => List.mem_cons_of_mem _ (List.mem_append_right _ (h))) tyX1 tyX1_ok nmX1 (lt_X1 pb0) (at_X1 pb0) rfl 12 (by decide) k0 rfl rfl rfl (Nat.le_of_ble_eq_true rfl) (pt_X1_12 pb0 (Option.some.inj hM3)) dX1_addPlace_28 (fun H locs hM => ?_)
    exact m_vret hx hb hr hlocks hM (congrArg (a₁ := M3) (fun z => Ec ad cI z) (Option.some.inj h)) dX1_addPlace_31
  · replace h := (if_neg c1).symm.trans h
    exact m_vret hx hb hr hlocks hM (congrArg (a₁ := M) (fun z => Ec ad cI z) (Option.some.inj h)) dX1_addPlace_10
set_option maxHeartbeats 4000000 in
set_option maxRecDepth 100000 in
theorem wX1_listPlaces_7 {p : Program} {l : Launch} {e : Env} {s : State} {m : MethodId} {args : Array Value} {below : List Frame} {meth : Method} {c : Code} {D : va_G} {cI : ClassId} {ad : Nat → Nat} {X : State → Prop} (Z : mZ p s m args meth c cX1_listPlaces 3 none wsX1_listPlaces RX1 D [(cI, .int)] X) {aS : Nat → Nat} (hX0 : cX D ad aS X) (b0 : Nat) (pb0 : isL b0)    {K : Mem → Option Mem} (res : Mem) (hKc : ∀  (M1 : Mem), K  M1 = some res → ∀ (H : Heap) (locs : List Loc) (ls : Array Slot), lv_has ls 3 [(0, .ref (ad b0))] → mH D ad 40 (Ec ad cI M1) s.heap H locs → W p l e { frames := 1, cells := 0, slots := 0, locals := 21 } s m args below meth c H locs 0 0 (MQ below (mQ D ad 40 none (Ec ad cI res)) args s 0 0 (mA ad 40)) (F0 m 26 ls [])) :
    ∀ (n : Nat) (v1 : Int32) (M : Mem), fX1_listPlaces_7 b0 K n v1 M = some res → ∀ (H : Heap) (locs : List Loc) (ls : Array Slot), lv_has ls 3 [(0, .ref (ad b0)), (1, .int v1)] → mH D ad 40 (Ec ad cI M) s.heap H locs → W p l e { frames := 1, cells := 0, slots := 0, locals := 21 } s m args below meth c H locs 0 0 (MQ below (mQ D ad 40 none (Ec ad cI res)) args s 0 0 (mA ad 40)) (F0 m 7 ls []) := by
  obtain ⟨hx, hb, hml, hr, hlocks, hts, hown, hKv, hXs⟩ := id Z
  have hXk := hX0.1
  have k0 := hts (Cond.fieldLink RX1 9 "NoonWalker$Land" "towns" "I") (List.mem_of_getElem? (i := 2) rfl)
  intro n
  induction n with
  | zero => intro _ _ h; exact absurd h (by unfold fX1_listPlaces_7; exact fun h => by cases h)
  | succ n ih =>
    intro v1 M h H locs ls hl hM
    rw [fX1_listPlaces_7] at h
    refine lv_iload_n hx hb dX1_listPlaces_7 rfl (lv_at hl 1 rfl) ?_
    refine lv_aload_n hx hb dX1_listPlaces_8 rfl (lv_at hl 0 rfl) ?_
    refine m_get hx hb hts hown hKv hM (fun _ h => List.mem_cons_of_mem _ (List.mem_append_right _ (h))) (lt_X1 pb0) (at_X1 pb0) rfl 0 (by decide) k0 (v := .int (M.1 b0 0)) rfl dX1_listPlaces_9 ?_
    refine lv_icmp_ge (tgt := 26) hx hb dX1_listPlaces_12 (by decide) (fun c1 => ?_) (fun c1 => ?_)
    · replace h := (if_pos c1).symm.trans h
      exact hKc _ h _ _ _ (lv_sub hl [0] rfl) hM
    · replace h := (if_neg c1).symm.trans h
      refine lv_aload_n hx hb dX1_listPlaces_15 rfl (lv_at hl 0 rfl) ?_
      refine lv_iload_n hx hb dX1_listPlaces_16 rfl (lv_at hl 1 rfl) ?_
      obtain ⟨x2, hx2, h⟩ := Option.bind_eq_some_iff.mp h
      refine m_callV (As := [.int v1]) (st1 := []) hx hb (hml.trans hl.1.symm) hown hts hKv hXs hXk hM (kX1_addPlace l D cI ad hX0 b0 pb0 v1 M _ hx2) (cwV 1 hts gX1_listPlaces_X1_addPlace rfl rfl rfl (by decide +kernel) ⟨Nat.le_of_ble_eq_true rfl, Nat.le_of_ble_eq_true rfl⟩) (lt_X1 pb0) (at_X1 pb0) rfl rfl rfl rfl (Nat.le_of_ble_eq_true rfl) dX1_listPlaces_17 ⟨Nat.zero_le _, Nat.zero_le _⟩ (fun H locs hM => ?_)
      refine lv_iinc (v := (v1 + 1)) (lv' := [(1, .int (v1 + 1)), (0, .ref (ad b0))]) hx hb dX1_listPlaces_20 hl (k := 1) rfl rfl (by decide) rfl (fun ls hl => ?_)
      refine lv_goto (tgt := 7) hx hb dX1_listPlaces_23 (by decide) ?_
      exact ih _ _ h _ _ _ (lv_sub hl [1, 0] rfl) hM
set_option maxHeartbeats 4000000 in
set_option maxRecDepth 100000 in
theorem wX1_listPlaces_38 {p : Program} {l : Launch} {e : Env} {s : State} {m : MethodId} {args : Array Value} {below : List Frame} {meth : Method} {c : Code} {D : va_G} {cI : ClassId} {ad : Nat → Nat} {X : State → Prop} (Z : mZ p s m args meth c cX1_listPlaces 3 none wsX1_listPlaces RX1 D [(cI, .int)] X) {aS : Nat → Nat} (hX0 : cX D ad aS X) (b0 : Nat) (pb0 : isL b0)  (u1 : Int32)  {K : Mem → Option Mem} (res : Mem) (hKc : ∀  (M1 : Mem), K  M1 = some res → ∀ (H : Heap) (locs : List Loc) (ls : Array Slot), lv_has ls 3 [(0, .ref (ad b0)), (1, .int u1)] → mH D ad 40 (Ec ad cI M1) s.heap H locs → W p l e { frames := 1, cells := 0, slots := 0, locals := 21 } s m args below meth c H locs 0 0 (MQ below (mQ D ad 40 none (Ec ad cI res)) args s 0 0 (mA ad 40)) (F0 m 66 ls [])) :
    ∀ (n : Nat) (v2 : Int32) (M : Mem), fX1_listPlaces_38 b0 u1 K n v2 M = some res → ∀ (H : Heap) (locs : List Loc) (ls : Array Slot), lv_has ls 3 [(0, .ref (ad b0)), (1, .int u1), (2, .int v2)] → mH D ad 40 (Ec ad cI M) s.heap H locs → W p l e { frames := 1, cells := 0, slots := 0, locals := 21 } s m args below meth c H locs 0 0 (MQ below (mQ D ad 40 none (Ec ad cI res)) args s 0 0 (mA ad 40)) (F0 m 38 ls []) := by
  obtain ⟨hx, hb, hml, hr, hlocks, hts, hown, hKv, hXs⟩ := id Z
  have hXk := hX0.1
  have k0 := hts (Cond.fieldLink RX1 28 "NoonWalker$Land" "miles" "[I") (List.mem_of_getElem? (i := 4) rfl)
  intro n
  induction n with
  | zero => intro _ _ h; exact absurd h (by unfold fX1_listPlaces_38; exact fun h => by cases h)
  | succ n ih =>
    intro v2 M h H locs ls hl hM
    rw [fX1_listPlaces_38] at h
    refine lv_iload_n hx hb dX1_listPlaces_38 rfl (lv_at hl 2 rfl) ?_
    refine lv_aload_n hx hb dX1_listPlaces_39 rfl (lv_at hl 0 rfl) ?_
    refine m_get hx hb hts hown hKv hM (fun _ h => List.mem_cons_of_mem _ (List.mem_append_right _ (h))) (lt_X1 pb0) (at_X1 pb0) rfl 5 (by decide) k0 (v := .ref (ad (b0 + 4))) rfl dX1_listPlaces_40 ?_
    refine lv_iload_n hx hb dX1_listPlaces_43 rfl (lv_at hl 1 rfl) ?_
    obtain ⟨x1, hx1, h⟩ := Option.bind_eq_some_iff.mp h
    refine m_iald hx hb hKv hM (lt_X1_4 pb0) (at_X1_4 pb0) 0 rfl hx1 dX1_listPlaces_44 ?_
    refine lv_icmp_ge (tgt := 66) hx hb dX1_listPlaces_45 (by decide) (fun c2 => ?_) (fun c2 => ?_)
    · replace h := (if_pos c2).symm.trans h
      exact hKc _ h _ _ _ (lv_sub hl [0, 1] rfl) hM
    · replace h := (if_neg c2).symm.trans h
      refine lv_aload_n hx hb dX1_listPlaces_48 rfl (lv_at hl 0 rfl) ?_
      refine lv_bipush (v := (100 : Int32)) hx hb dX1_listPlaces_49 (by decide) ?_
      refine lv_iload_n hx hb dX1_listPlaces_51 rfl (lv_at hl 1 rfl) ?_
      refine lv_iconst (v := (1 : Int32)) hx hb dX1_listPlaces_52 (by decide) ?_
      refine lv_iadd hx hb dX1_listPlaces_53 ?_
      refine lv_imul hx hb dX1_listPlaces_54 ?_
      refine lv_iload_n hx hb dX1_listPlaces_55 rfl (lv_at hl 2 rfl) ?_
      refine lv_iadd hx hb dX1_listPlaces_56 ?_
      obtain ⟨x3, hx3, h⟩ := Option.bind_eq_some_iff.mp h
      refine m_callV (As := [.int (((100 : Int32) * (u1 + (1 : Int32))) + v2)]) (st1 := []) hx hb (hml.trans hl.1.symm) hown hts hKv hXs hXk hM (kX1_addPlace l D cI ad hX0 b0 pb0 (((100 : Int32) * (u1 + (1 : Int32))) + v2) M _ hx3) (cwV 1 hts gX1_listPlaces_X1_addPlace rfl rfl rfl (by decide +kernel) ⟨Nat.le_of_ble_eq_true rfl, Nat.le_of_ble_eq_true rfl⟩) (lt_X1 pb0) (at_X1 pb0) rfl rfl rfl rfl (Nat.le_of_ble_eq_true rfl) dX1_listPlaces_57 ⟨Nat.zero_le _, Nat.zero_le _⟩ (fun H locs hM => ?_)
      refine lv_iinc (v := (v2 + 1)) (lv' := [(2, .int (v2 + 1)), (0, .ref (ad b0)), (1, .int u1)]) hx hb dX1_listPlaces_60 hl (k := 2) rfl rfl (by decide) rfl (fun ls hl => ?_)
      refine lv_goto (tgt := 38) hx hb dX1_listPlaces_63 (by decide) ?_
      exact ih _ _ h _ _ _ (lv_sub hl [1, 2, 0] rfl) hM
set_option maxHeartbeats 4000000 in
set_option maxRecDepth 100000 in
theorem wX1_listPlaces_28 {p : Program} {l : Launch} {e : Env} {s : State} {m : MethodId} {args : Array Value} {below : List Frame} {meth : Method} {c : Code} {D : va_G} {cI : ClassId} {ad : Nat → Nat} {X : State → Prop} (Z : mZ p s m args meth c cX1_listPlaces 3 none wsX1_listPlaces RX1 D [(cI, .int)] X) {aS : Nat → Nat} (hX0 : cX D ad aS X) (b0 : Nat) (pb0 : isL b0)    {K : Mem → Option Mem} (res : Mem) (hKc : ∀  (M1 : Mem), K  M1 = some res → ∀ (H : Heap) (locs : List Loc) (ls : Array Slot), lv_has ls 3 [] → mH D ad 40 (Ec ad cI M1) s.heap H locs → W p l e { frames := 1, cells := 0, slots := 0, locals := 21 } s m args below meth c H locs 0 0 (MQ below (mQ D ad 40 none (Ec ad cI res)) args s 0 0 (mA ad 40)) (F0 m 72 ls [])) :
    ∀ (n : Nat) (v1 : Int32) (M : Mem), fX1_listPlaces_28 b0 K n v1 M = some res → ∀ (H : Heap) (locs : List Loc) (ls : Array Slot), lv_has ls 3 [(0, .ref (ad b0)), (1, .int v1)] → mH D ad 40 (Ec ad cI M) s.heap H locs → W p l e { frames := 1, cells := 0, slots := 0, locals := 21 } s m args below meth c H locs 0 0 (MQ below (mQ D ad 40 none (Ec ad cI res)) args s 0 0 (mA ad 40)) (F0 m 28 ls []) := by
  obtain ⟨hx, hb, hml, hr, hlocks, hts, hown, hKv, hXs⟩ := id Z
  have hXk := hX0.1
  have k0 := hts (Cond.fieldLink RX1 19 "NoonWalker$Land" "roads" "I") (List.mem_of_getElem? (i := 3) rfl)
  intro n
  induction n with
  | zero => intro _ _ h; exact absurd h (by unfold fX1_listPlaces_28; exact fun h => by cases h)
  | succ n ih =>
    intro v1 M h H locs ls hl hM
    rw [fX1_listPlaces_28] at h
    refine lv_iload_n hx hb dX1_listPlaces_28 rfl (lv_at hl 1 rfl) ?_
    refine lv_aload_n hx hb dX1_listPlaces_29 rfl (lv_at hl 0 rfl) ?_
    refine m_get hx hb hts hown hKv hM (fun _ h => List.mem_cons_of_mem _ (List.mem_append_right _ (h))) (lt_X1 pb0) (at_X1 pb0) rfl 2 (by decide) k0 (v := .int (M.1 b0 2)) rfl dX1_listPlaces_30 ?_
    refine lv_icmp_ge (tgt := 72) hx hb dX1_listPlaces_33 (by decide) (fun c1 => ?_) (fun c1 => ?_)
    · replace h := (if_pos c1).symm.trans h
      exact hKc _ h _ _ _ (lv_sub hl [] rfl) hM
    · replace h := (if_neg c1).symm.trans h
      refine lv_iconst (v := (1 : Int32)) hx hb dX1_listPlaces_36 (by decide) ?_
      refine lv_istore_n (lv' := [(2, .int (1 : Int32)), (0, .ref (ad b0)), (1, .int v1)]) hx hb dX1_listPlaces_37 rfl hl (by decide) rfl (fun ls hl => ?_)
      refine wX1_listPlaces_38 Z hX0 b0 pb0 v1 _ (fun M2 h H locs ls hl hM => ?_) _ _ _ h _ _ _ (lv_sub hl [1, 2, 0] rfl) hM
      refine lv_iinc (v := (v1 + 1)) (lv' := [(1, .int (v1 + 1)), (0, .ref (ad b0))]) hx hb dX1_listPlaces_66 hl (k := 1) rfl rfl (by decide) rfl (fun ls hl => ?_)
      refine lv_goto (tgt := 28) hx hb dX1_listPlaces_69 (by decide) ?_
      exact ih _ _ h _ _ _ (lv_sub hl [1, 0] rfl) hM
set_option maxHeartbeats 4000000 in
set_option maxRecDepth 100000 in
theorem kX1_listPlaces (l : Launch) (D : va_G) (cI : ClassId) (ad : Nat → Nat) {X : State → Prop} {aS : Nat → Nat} (hX0 : cX D ad aS X) (b0 : Nat) (pb0 : isL b0) (M : Mem) (res : Mem) (h : fX1_listPlaces b0 M = some res) : mC l yX1_listPlaces wsX1_listPlaces { frames := 1, cells := 0, slots := 0, locals := 21 } D [(cI, .int)] ad 40 X [.ref (ad b0)] (Ec ad cI M) none (Ec ad cI res) := by
  refine m_ofW (cc := cX1_listPlaces) (maxL := 3) (ret := none) (by decide) rfl (Nat.le_of_ble_eq_true rfl) ?_
  intro p e s m args below meth c hx hb hml hr hlocks hts hown hKv hXs ls hl hM
  have hXk := hX0.1
  have Z : mZ p s m args meth c cX1_listPlaces 3 none wsX1_listPlaces RX1 D [(cI, .int)] X := ⟨hx, hb, hml, hr, hlocks, hts, hown, hKv, hXs⟩
  replace hown : s.vm.findClass RX1 = some m.cls := hown
  have hl : lv_has ls 3 [(0, .ref (ad b0))] := hl
  have k0 := hts (Cond.fieldLink RX1 49 "NoonWalker$Land" "places" "I") (List.mem_of_getElem? (i := 1) rfl)
  unfold fX1_listPlaces at h
  refine lv_aload_n hx hb dX1_listPlaces_0 rfl (lv_at hl 0 rfl) ?_
  refine lv_iconst (v := (0 : Int32)) hx hb dX1_listPlaces_1 (by decide) ?_
  obtain ⟨M1, hM1, h⟩ := Option.bind_eq_some_iff.mp h
  refine m_put hx hb hts hown hKv hM (fun _ h => List.mem_cons_of_mem _ (List.mem_append_right _ (h))) tyX1 tyX1_ok nmX1 (lt_X1 pb0) (at_X1 pb0) rfl 12 (by decide) k0 rfl rfl rfl (Nat.le_of_ble_eq_true rfl) (pt_X1_12 pb0 (Option.some.inj hM1)) dX1_listPlaces_2 (fun H locs hM => ?_)
  refine lv_iconst (v := (0 : Int32)) hx hb dX1_listPlaces_5 (by decide) ?_
  refine lv_istore_n (lv' := [(1, .int (0 : Int32)), (0, .ref (ad b0))]) hx hb dX1_listPlaces_6 rfl hl (by decide) rfl (fun ls hl => ?_)
  refine wX1_listPlaces_7 Z hX0 b0 pb0 _ (fun M2 h H locs ls hl hM => ?_) _ _ _ h _ _ _ (lv_sub hl [1, 0] rfl) hM
  refine lv_iconst (v := (0 : Int32)) hx hb dX1_listPlaces_26 (by decide) ?_
  refine lv_istore_n (lv' := [(1, .int (0 : Int32)), (0, .ref (ad b0))]) hx hb dX1_listPlaces_27 rfl hl (by decide) rfl (fun ls hl => ?_)
  refine wX1_listPlaces_28 Z hX0 b0 pb0 _ (fun M3 h H locs ls hl hM => ?_) _ _ _ h _ _ _ (lv_sub hl [1, 0] rfl) hM
  exact m_vret hx hb hr hlocks hM (congrArg (a₁ := M3) (fun z => Ec ad cI z) (Option.some.inj h)) dX1_listPlaces_72
set_option maxHeartbeats 4000000 in
set_option maxRecDepth 100000 in
theorem wX1_measure_26 {p : Program} {l : Launch} {e : Env} {s : State} {m : MethodId} {args : Array Value} {below : List Frame} {meth : Method} {c : Code} {D : va_G} {cI : ClassId} {ad : Nat → Nat} {X : State → Prop} (Z : mZ p s m args meth c cX1_measure 6 none wsX1_measure RX1 D [(cI, .int)] X) {aS : Nat → Nat} (hX0 : cX D ad aS X) (b0 : Nat) (pb0 : isL b0)  (u1 : Int32) (u2 : Int32)  {K : Mem → Option Mem} (res : Mem) (hKc : ∀  (M1 : Mem), K  M1 = some res → ∀ (H : Heap) (locs : List Loc) (ls : Array Slot), lv_has ls 6 [(0, .ref (ad b0)), (1, .int u1), (2, .int u2)] → mH D ad 40 (Ec ad cI M1) s.heap H locs → W p l e { frames := 4, cells := 0, slots := 0, locals := 88 } s m args below meth c H locs 0 0 (MQ below (mQ D ad 40 none (Ec ad cI res)) args s 0 0 (mA ad 40)) (F0 m 81 ls [])) :
    ∀ (n : Nat) (v3 : Int32) (M : Mem), fX1_measure_26 b0 u1 u2 K n v3 M = some res → ∀ (H : Heap) (locs : List Loc) (ls : Array Slot), lv_has ls 6 [(0, .ref (ad b0)), (1, .int u1), (2, .int u2), (3, .int v3)] → mH D ad 40 (Ec ad cI M) s.heap H locs → W p l e { frames := 4, cells := 0, slots := 0, locals := 88 } s m args below meth c H locs 0 0 (MQ below (mQ D ad 40 none (Ec ad cI res)) args s 0 0 (mA ad 40)) (F0 m 26 ls []) := by
  obtain ⟨hx, hb, hml, hr, hlocks, hts, hown, hKv, hXs⟩ := id Z
  have hXk := hX0.1
  have k0 := hts (Cond.fieldLink RX1 9 "NoonWalker$Land" "towns" "I") (List.mem_of_getElem? (i := 1) rfl)
  intro n
  induction n with
  | zero => intro _ _ h; exact absurd h (by unfold fX1_measure_26; exact fun h => by cases h)
  | succ n ih =>
    intro v3 M h H locs ls hl hM
    rw [fX1_measure_26] at h
    refine lv_iload_n hx hb dX1_measure_26 rfl (lv_at hl 3 rfl) ?_
    refine lv_aload_n hx hb dX1_measure_27 rfl (lv_at hl 0 rfl) ?_
    refine m_get hx hb hts hown hKv hM (fun _ h => List.mem_cons_of_mem _ (List.mem_append_right _ (h))) (lt_X1 pb0) (at_X1 pb0) rfl 0 (by decide) k0 (v := .int (M.1 b0 0)) rfl dX1_measure_28 ?_
    refine lv_icmp_ge (tgt := 81) hx hb dX1_measure_31 (by decide) (fun c1 => ?_) (fun c1 => ?_)
    · replace h := (if_pos c1).symm.trans h
      exact hKc _ h _ _ _ (lv_sub hl [0, 1, 2] rfl) hM
    · replace h := (if_neg c1).symm.trans h
      refine lv_aload_n hx hb dX1_measure_34 rfl (lv_at hl 0 rfl) ?_
      refine lv_iload_n hx hb dX1_measure_35 rfl (lv_at hl 2 rfl) ?_
      refine lv_iload_n hx hb dX1_measure_36 rfl (lv_at hl 1 rfl) ?_
      obtain ⟨x2, hx2, h⟩ := Option.bind_eq_some_iff.mp h
      refine m_callV (As := [.int u2, .int u1]) (st1 := [.int x2]) hx hb (hml.trans hl.1.symm) hown hts hKv hXs hXk hM (kX1_distance l D cI ad hX0 b0 pb0 u2 u1 M _ hx2) (cwV 2 hts gX1_measure_X1_distance rfl rfl rfl (by decide +kernel) ⟨Nat.le_of_ble_eq_true rfl, Nat.le_of_ble_eq_true rfl⟩) (lt_X1 pb0) (at_X1 pb0) rfl rfl rfl rfl (Nat.le_of_ble_eq_true rfl) dX1_measure_37 ⟨Nat.zero_le _, Nat.zero_le _⟩ (fun H locs hM => ?_)
      refine lv_istore (lv' := [(4, .int x2), (0, .ref (ad b0)), (1, .int u1), (2, .int u2), (3, .int v3)]) hx hb dX1_measure_40 hl (by decide) rfl (fun ls hl => ?_)
      refine lv_aload_n hx hb dX1_measure_42 rfl (lv_at hl 1 rfl) ?_
      refine lv_iload_n hx hb dX1_measure_43 rfl (lv_at hl 2 rfl) ?_
      refine lv_iload_n hx hb dX1_measure_44 rfl (lv_at hl 4 rfl) ?_
      obtain ⟨x3, hx3, h⟩ := Option.bind_eq_some_iff.mp h
      refine m_callV (As := [.int u1, .int v3]) (st1 := [.int x3]) hx hb (hml.trans hl.1.symm) hown hts hKv hXs hXk hM (kX1_distance l D cI ad hX0 b0 pb0 u1 v3 M _ hx3) (cwV 2 hts gX1_measure_X1_distance rfl rfl rfl (by decide +kernel) ⟨Nat.le_of_ble_eq_true rfl, Nat.le_of_ble_eq_true rfl⟩) (lt_X1 pb0) (at_X1 pb0) rfl rfl rfl rfl (Nat.le_of_ble_eq_true rfl) dX1_measure_45 ⟨Nat.zero_le _, Nat.zero_le _⟩ (fun H locs hM => ?_)
      refine lv_istore (lv' := [(5, .int x3), (4, .int x2), (0, .ref (ad b0)), (1, .int u1), (2, .int u2), (3, .int v3)]) hx hb dX1_measure_48 hl (by decide) rfl (fun ls hl => ?_)
      refine lv_iload hx hb dX1_measure_50 (lv_at hl 1 rfl) ?_
      refine lv_bipush (v := (-9 : Int32)) hx hb dX1_measure_52 (by decide) ?_
      refine lv_icmp_eq (tgt := 75) hx hb dX1_measure_54 (by decide) (fun c4 => ?_) (fun c4 => ?_)
      · replace h := (if_pos c4).symm.trans h
        refine lv_iinc (v := (v3 + 1)) (lv' := [(3, .int (v3 + 1)), (5, .int x3), (4, .int x2), (0, .ref (ad b0)), (1, .int u1), (2, .int u2)]) hx hb dX1_measure_75 hl (k := 5) rfl rfl (by decide) rfl (fun ls hl => ?_)
        refine lv_goto (tgt := 26) hx hb dX1_measure_78 (by decide) ?_
        exact ih _ _ h _ _ _ (lv_sub hl [3, 4, 5, 0] rfl) hM
      · replace h := (if_neg c4).symm.trans h
        refine lv_iload hx hb dX1_measure_57 (lv_at hl 0 rfl) ?_
        refine lv_bipush (v := (-9 : Int32)) hx hb dX1_measure_59 (by decide) ?_
        refine lv_icmp_eq (tgt := 75) hx hb dX1_measure_61 (by decide) (fun c5 => ?_) (fun c5 => ?_)
        · replace h := (if_pos c5).symm.trans h
          refine lv_iinc (v := (v3 + 1)) (lv' := [(3, .int (v3 + 1)), (5, .int x3), (4, .int x2), (0, .ref (ad b0)), (1, .int u1), (2, .int u2)]) hx hb dX1_measure_75 hl (k := 5) rfl rfl (by decide) rfl (fun ls hl => ?_)
          refine lv_goto (tgt := 26) hx hb dX1_measure_78 (by decide) ?_
          exact ih _ _ h _ _ _ (lv_sub hl [3, 4, 5, 0] rfl) hM
        · replace h := (if_neg c5).symm.trans h
          refine lv_aload_n hx hb dX1_measure_64 rfl (lv_at hl 2 rfl) ?_
          refine lv_iload_n hx hb dX1_measure_65 rfl (lv_at hl 4 rfl) ?_
          refine lv_iload_n hx hb dX1_measure_66 rfl (lv_at hl 5 rfl) ?_
          refine lv_iload hx hb dX1_measure_67 (lv_at hl 1 rfl) ?_
          refine lv_iload hx hb dX1_measure_69 (lv_at hl 0 rfl) ?_
          refine lv_iadd hx hb dX1_measure_71 ?_
          obtain ⟨x6, hx6, h⟩ := Option.bind_eq_some_iff.mp h
          refine m_callV (As := [.int u2, .int v3, .int (x2 + x3)]) (st1 := []) hx hb (hml.trans hl.1.symm) hown hts hKv hXs hXk hM (kX1_shorten l D cI ad hX0 b0 pb0 u2 v3 (x2 + x3) M _ hx6) (cwV 3 hts gX1_measure_X1_shorten rfl rfl rfl (by decide +kernel) ⟨Nat.le_of_ble_eq_true rfl, Nat.le_of_ble_eq_true rfl⟩) (lt_X1 pb0) (at_X1 pb0) rfl rfl rfl rfl (Nat.le_of_ble_eq_true rfl) dX1_measure_72 ⟨Nat.zero_le _, Nat.zero_le _⟩ (fun H locs hM => ?_)
          refine lv_iinc (v := (v3 + 1)) (lv' := [(3, .int (v3 + 1)), (5, .int x3), (4, .int x2), (0, .ref (ad b0)), (1, .int u1), (2, .int u2)]) hx hb dX1_measure_75 hl (k := 5) rfl rfl (by decide) rfl (fun ls hl => ?_)
          refine lv_goto (tgt := 26) hx hb dX1_measure_78 (by decide) ?_
          exact ih _ _ h _ _ _ (lv_sub hl [3, 4, 5, 0] rfl) hM
set_option maxHeartbeats 4000000 in
set_option maxRecDepth 100000 in
theorem wX1_measure_16 {p : Program} {l : Launch} {e : Env} {s : State} {m : MethodId} {args : Array Value} {below : List Frame} {meth : Method} {c : Code} {D : va_G} {cI : ClassId} {ad : Nat → Nat} {X : State → Prop} (Z : mZ p s m args meth c cX1_measure 6 none wsX1_measure RX1 D [(cI, .int)] X) {aS : Nat → Nat} (hX0 : cX D ad aS X) (b0 : Nat) (pb0 : isL b0)  (u1 : Int32)  {K : Mem → Option Mem} (res : Mem) (hKc : ∀  (M1 : Mem), K  M1 = some res → ∀ (H : Heap) (locs : List Loc) (ls : Array Slot), lv_has ls 6 [(0, .ref (ad b0)), (1, .int u1)] → mH D ad 40 (Ec ad cI M1) s.heap H locs → W p l e { frames := 4, cells := 0, slots := 0, locals := 88 } s m args below meth c H locs 0 0 (MQ below (mQ D ad 40 none (Ec ad cI res)) args s 0 0 (mA ad 40)) (F0 m 87 ls [])) :
    ∀ (n : Nat) (v2 : Int32) (M : Mem), fX1_measure_16 b0 u1 K n v2 M = some res → ∀ (H : Heap) (locs : List Loc) (ls : Array Slot), lv_has ls 6 [(0, .ref (ad b0)), (1, .int u1), (2, .int v2)] → mH D ad 40 (Ec ad cI M) s.heap H locs → W p l e { frames := 4, cells := 0, slots := 0, locals := 88 } s m args below meth c H locs 0 0 (MQ below (mQ D ad 40 none (Ec ad cI res)) args s 0 0 (mA ad 40)) (F0 m 16 ls []) := by
  obtain ⟨hx, hb, hml, hr, hlocks, hts, hown, hKv, hXs⟩ := id Z
  have hXk := hX0.1
  have k0 := hts (Cond.fieldLink RX1 9 "NoonWalker$Land" "towns" "I") (List.mem_of_getElem? (i := 1) rfl)
  intro n
  induction n with
  | zero => intro _ _ h; exact absurd h (by unfold fX1_measure_16; exact fun h => by cases h)
  | succ n ih =>
    intro v2 M h H locs ls hl hM
    rw [fX1_measure_16] at h
    refine lv_iload_n hx hb dX1_measure_16 rfl (lv_at hl 2 rfl) ?_
    refine lv_aload_n hx hb dX1_measure_17 rfl (lv_at hl 0 rfl) ?_
    refine m_get hx hb hts hown hKv hM (fun _ h => List.mem_cons_of_mem _ (List.mem_append_right _ (h))) (lt_X1 pb0) (at_X1 pb0) rfl 0 (by decide) k0 (v := .int (M.1 b0 0)) rfl dX1_measure_18 ?_
    refine lv_icmp_ge (tgt := 87) hx hb dX1_measure_21 (by decide) (fun c1 => ?_) (fun c1 => ?_)
    · replace h := (if_pos c1).symm.trans h
      exact hKc _ h _ _ _ (lv_sub hl [0, 1] rfl) hM
    · replace h := (if_neg c1).symm.trans h
      refine lv_iconst (v := (0 : Int32)) hx hb dX1_measure_24 (by decide) ?_
      refine lv_istore_n (lv' := [(3, .int (0 : Int32)), (0, .ref (ad b0)), (1, .int u1), (2, .int v2)]) hx hb dX1_measure_25 rfl hl (by decide) rfl (fun ls hl => ?_)
      refine wX1_measure_26 Z hX0 b0 pb0 u1 v2 _ (fun M2 h H locs ls hl hM => ?_) _ _ _ h _ _ _ (lv_sub hl [1, 2, 3, 0] rfl) hM
      refine lv_iinc (v := (v2 + 1)) (lv' := [(2, .int (v2 + 1)), (0, .ref (ad b0)), (1, .int u1)]) hx hb dX1_measure_81 hl (k := 2) rfl rfl (by decide) rfl (fun ls hl => ?_)
      refine lv_goto (tgt := 16) hx hb dX1_measure_84 (by decide) ?_
      exact ih _ _ h _ _ _ (lv_sub hl [1, 2, 0] rfl) hM
set_option maxHeartbeats 4000000 in
set_option maxRecDepth 100000 in
theorem wX1_measure_6 {p : Program} {l : Launch} {e : Env} {s : State} {m : MethodId} {args : Array Value} {below : List Frame} {meth : Method} {c : Code} {D : va_G} {cI : ClassId} {ad : Nat → Nat} {X : State → Prop} (Z : mZ p s m args meth c cX1_measure 6 none wsX1_measure RX1 D [(cI, .int)] X) {aS : Nat → Nat} (hX0 : cX D ad aS X) (b0 : Nat) (pb0 : isL b0)    {K : Mem → Option Mem} (res : Mem) (hKc : ∀  (M1 : Mem), K  M1 = some res → ∀ (H : Heap) (locs : List Loc) (ls : Array Slot), lv_has ls 6 [(0, .ref (ad b0))] → mH D ad 40 (Ec ad cI M1) s.heap H locs → W p l e { frames := 4, cells := 0, slots := 0, locals := 88 } s m args below meth c H locs 0 0 (MQ below (mQ D ad 40 none (Ec ad cI res)) args s 0 0 (mA ad 40)) (F0 m 93 ls [])) :
    ∀ (n : Nat) (v1 : Int32) (M : Mem), fX1_measure_6 b0 K n v1 M = some res → ∀ (H : Heap) (locs : List Loc) (ls : Array Slot), lv_has ls 6 [(0, .ref (ad b0)), (1, .int v1)] → mH D ad 40 (Ec ad cI M) s.heap H locs → W p l e { frames := 4, cells := 0, slots := 0, locals := 88 } s m args below meth c H locs 0 0 (MQ below (mQ D ad 40 none (Ec ad cI res)) args s 0 0 (mA ad 40)) (F0 m 6 ls []) := by
  obtain ⟨hx, hb, hml, hr, hlocks, hts, hown, hKv, hXs⟩ := id Z
  have hXk := hX0.1
  have k0 := hts (Cond.fieldLink RX1 9 "NoonWalker$Land" "towns" "I") (List.mem_of_getElem? (i := 1) rfl)
  intro n
  induction n with
  | zero => intro _ _ h; exact absurd h (by unfold fX1_measure_6; exact fun h => by cases h)
  | succ n ih =>
    intro v1 M h H locs ls hl hM
    rw [fX1_measure_6] at h
    refine lv_iload_n hx hb dX1_measure_6 rfl (lv_at hl 1 rfl) ?_
    refine lv_aload_n hx hb dX1_measure_7 rfl (lv_at hl 0 rfl) ?_
    refine m_get hx hb hts hown hKv hM (fun _ h => List.mem_cons_of_mem _ (List.mem_append_right _ (h))) (lt_X1 pb0) (at_X1 pb0) rfl 0 (by decide) k0 (v := .int (M.1 b0 0)) rfl dX1_measure_8 ?_
    refine lv_icmp_ge (tgt := 93) hx hb dX1_measure_11 (by decide) (fun c1 => ?_) (fun c1 => ?_)
    · replace h := (if_pos c1).symm.trans h
      exact hKc _ h _ _ _ (lv_sub hl [0] rfl) hM
    · replace h := (if_neg c1).symm.trans h
      refine lv_iconst (v := (0 : Int32)) hx hb dX1_measure_14 (by decide) ?_
      refine lv_istore_n (lv' := [(2, .int (0 : Int32)), (0, .ref (ad b0)), (1, .int v1)]) hx hb dX1_measure_15 rfl hl (by decide) rfl (fun ls hl => ?_)
      refine wX1_measure_16 Z hX0 b0 pb0 v1 _ (fun M2 h H locs ls hl hM => ?_) _ _ _ h _ _ _ (lv_sub hl [1, 2, 0] rfl) hM
      refine lv_iinc (v := (v1 + 1)) (lv' := [(1, .int (v1 + 1)), (0, .ref (ad b0))]) hx hb dX1_measure_87 hl (k := 1) rfl rfl (by decide) rfl (fun ls hl => ?_)
      refine lv_goto (tgt := 6) hx hb dX1_measure_90 (by decide) ?_
      exact ih _ _ h _ _ _ (lv_sub hl [1, 0] rfl) hM
set_option maxHeartbeats 4000000 in
set_option maxRecDepth 100000 in
theorem kX1_measure (l : Launch) (D : va_G) (cI : ClassId) (ad : Nat → Nat) {X : State → Prop} {aS : Nat → Nat} (hX0 : cX D ad aS X) (b0 : Nat) (pb0 : isL b0) (M : Mem) (res : Mem) (h : fX1_measure b0 M = some res) : mC l yX1_measure wsX1_measure { frames := 4, cells := 0, slots := 0, locals := 88 } D [(cI, .int)] ad 40 X [.ref (ad b0)] (Ec ad cI M) none (Ec ad cI res) := by
  refine m_ofW (cc := cX1_measure) (maxL := 6) (ret := none) (by decide) rfl (Nat.le_of_ble_eq_true rfl) ?_
  intro p e s m args below meth c hx hb hml hr hlocks hts hown hKv hXs ls hl hM
  have hXk := hX0.1
  have Z : mZ p s m args meth c cX1_measure 6 none wsX1_measure RX1 D [(cI, .int)] X := ⟨hx, hb, hml, hr, hlocks, hts, hown, hKv, hXs⟩
  replace hown : s.vm.findClass RX1 = some m.cls := hown
  have hl : lv_has ls 6 [(0, .ref (ad b0))] := hl
  unfold fX1_measure at h
  refine lv_aload_n hx hb dX1_measure_0 rfl (lv_at hl 0 rfl) ?_
  obtain ⟨x1, hx1, h⟩ := Option.bind_eq_some_iff.mp h
  refine m_callV (As := []) (st1 := []) hx hb (hml.trans hl.1.symm) hown hts hKv hXs hXk hM (kX1_measureRoads l D cI ad hX0 b0 pb0 M _ hx1) (cwV 0 hts gX1_measure_X1_measureRoads rfl rfl rfl (by decide +kernel) ⟨Nat.le_of_ble_eq_true rfl, Nat.le_of_ble_eq_true rfl⟩) (lt_X1 pb0) (at_X1 pb0) rfl rfl rfl rfl (Nat.le_of_ble_eq_true rfl) dX1_measure_1 ⟨Nat.zero_le _, Nat.zero_le _⟩ (fun H locs hM => ?_)
  refine lv_iconst (v := (0 : Int32)) hx hb dX1_measure_4 (by decide) ?_
  refine lv_istore_n (lv' := [(1, .int (0 : Int32)), (0, .ref (ad b0))]) hx hb dX1_measure_5 rfl hl (by decide) rfl (fun ls hl => ?_)
  refine wX1_measure_6 Z hX0 b0 pb0 _ (fun M2 h H locs ls hl hM => ?_) _ _ _ h _ _ _ (lv_sub hl [1, 0] rfl) hM
  refine lv_aload_n hx hb dX1_measure_93 rfl (lv_at hl 0 rfl) ?_
  obtain ⟨x3, hx3, h⟩ := Option.bind_eq_some_iff.mp h
  refine m_callV (As := []) (st1 := []) hx hb (hml.trans hl.1.symm) hown hts hKv hXs hXk hM (kX1_listPlaces l D cI ad hX0 b0 pb0 M2 _ hx3) (cwV 0 hts gX1_measure_X1_listPlaces rfl rfl rfl (by decide +kernel) ⟨Nat.le_of_ble_eq_true rfl, Nat.le_of_ble_eq_true rfl⟩) (lt_X1 pb0) (at_X1 pb0) rfl rfl rfl rfl (Nat.le_of_ble_eq_true rfl) dX1_measure_94 ⟨Nat.zero_le _, Nat.zero_le _⟩ (fun H locs hM => ?_)
  exact m_vret hx hb hr hlocks hM (congrArg (a₁ := x3) (fun z => Ec ad cI z) (Option.some.inj h)) dX1_measure_97
set_option maxHeartbeats 4000000 in
set_option maxRecDepth 100000 in
theorem kX1_bidOf (l : Launch) (D : va_G) (cI : ClassId) (ad : Nat → Nat) {X : State → Prop} {aS : Nat → Nat} (hX0 : cX D ad aS X) (b0 : Nat) (pb0 : isL b0) (a1 : Int32) (M : Mem) (res : Int32) (h : fX1_bidOf b0 a1 M = some res) : mC l yX1_bidOf wsX1_bidOf { frames := 1, cells := 0, slots := 0, locals := 21 } D [(cI, .int)] ad 40 X [.ref (ad b0), .int a1] (Ec ad cI M) (some (.int res)) (Ec ad cI M) := by
  refine m_ofW (cc := cX1_bidOf) (maxL := 2) (ret := (some .int)) (by decide) rfl (Nat.le_of_ble_eq_true rfl) ?_
  intro p e s m args below meth c hx hb hml hr hlocks hts hown hKv hXs ls hl hM
  have hXk := hX0.1
  have Z : mZ p s m args meth c cX1_bidOf 2 (some .int) wsX1_bidOf RX1 D [(cI, .int)] X := ⟨hx, hb, hml, hr, hlocks, hts, hown, hKv, hXs⟩
  replace hown : s.vm.findClass RX1 = some m.cls := hown
  have hl : lv_has ls 2 [(0, .ref (ad b0)), (1, .int a1)] := hl
  have k0 := hts (Cond.fieldLink RX1 15 "NoonWalker$Land" "bids" "[I") (List.mem_of_getElem? (i := 1) rfl)
  unfold fX1_bidOf at h
  refine lv_aload_n hx hb dX1_bidOf_0 rfl (lv_at hl 0 rfl) ?_
  refine lv_iload_n hx hb dX1_bidOf_1 rfl (lv_at hl 1 rfl) ?_
  obtain ⟨x1, hx1, h⟩ := Option.bind_eq_some_iff.mp h
  refine m_callV (As := [.int a1]) (st1 := [.int x1]) hx hb (hml.trans hl.1.symm) hown hts hKv hXs hXk hM (kX1_isTown l D cI ad hX0 b0 pb0 a1 M _ hx1) (cwV 1 hts gX1_bidOf_X1_isTown rfl rfl rfl (by decide +kernel) ⟨Nat.le_of_ble_eq_true rfl, Nat.le_of_ble_eq_true rfl⟩) (lt_X1 pb0) (at_X1 pb0) rfl rfl rfl rfl (Nat.le_of_ble_eq_true rfl) dX1_bidOf_2 ⟨Nat.zero_le _, Nat.zero_le _⟩ (fun H locs hM => ?_)
  refine lv_if_eq (tgt := 17) hx hb dX1_bidOf_5 (by decide) (fun c2 => ?_) (fun c2 => ?_)
  · replace h := (if_pos c2).symm.trans h
    refine lv_iconst (v := (0 : Int32)) hx hb dX1_bidOf_17 (by decide) ?_
    exact m_iret hx hb hr hlocks hM (Option.some.inj h) rfl dX1_bidOf_18
  · replace h := (if_neg c2).symm.trans h
    refine lv_aload_n hx hb dX1_bidOf_8 rfl (lv_at hl 0 rfl) ?_
    refine m_get hx hb hts hown hKv hM (fun _ h => List.mem_cons_of_mem _ (List.mem_append_right _ (h))) (lt_X1 pb0) (at_X1 pb0) rfl 1 (by decide) k0 (v := .ref (ad (b0 + 1))) rfl dX1_bidOf_9 ?_
    refine lv_iload_n hx hb dX1_bidOf_12 rfl (lv_at hl 1 rfl) ?_
    obtain ⟨x3, hx3, h⟩ := Option.bind_eq_some_iff.mp h
    refine m_iald hx hb hKv hM (lt_X1_1 pb0) (at_X1_1 pb0) 0 rfl hx3 dX1_bidOf_13 ?_
    refine lv_goto (tgt := 18) hx hb dX1_bidOf_14 (by decide) ?_
    exact m_iret hx hb hr hlocks hM (Option.some.inj h) rfl dX1_bidOf_18
set_option maxHeartbeats 4000000 in
set_option maxRecDepth 100000 in
theorem wX1_roadsOf_4 {p : Program} {l : Launch} {e : Env} {s : State} {m : MethodId} {args : Array Value} {below : List Frame} {meth : Method} {c : Code} {D : va_G} {cI : ClassId} {ad : Nat → Nat} {X : State → Prop} (Z : mZ p s m args meth c cX1_roadsOf 4 (some .int) wsX1_roadsOf RX1 D [(cI, .int)] X) {aS : Nat → Nat} (hX0 : cX D ad aS X) (b0 : Nat) (pb0 : isL b0)  (u1 : Int32) (M : Mem) {K : Int32 → Option Int32} (res : Int32) (hKc : ∀ (y2 : Int32), K y2 = some res → ∀ (H : Heap) (locs : List Loc) (ls : Array Slot), lv_has ls 4 [(2, .int y2)] → mH D ad 40 (Ec ad cI M) s.heap H locs → W p l e { frames := 0, cells := 0, slots := 0, locals := 0 } s m args below meth c H locs 0 0 (MQ below (mQ D ad 40 (some (.int res)) (Ec ad cI M)) args s 0 0 (mA ad 40)) (F0 m 41 ls [])) :
    ∀ (n : Nat) (v2 : Int32) (v3 : Int32), fX1_roadsOf_4 b0 u1 M K n v2 v3 = some res → ∀ (H : Heap) (locs : List Loc) (ls : Array Slot), lv_has ls 4 [(0, .ref (ad b0)), (1, .int u1), (2, .int v2), (3, .int v3)] → mH D ad 40 (Ec ad cI M) s.heap H locs → W p l e { frames := 0, cells := 0, slots := 0, locals := 0 } s m args below meth c H locs 0 0 (MQ below (mQ D ad 40 (some (.int res)) (Ec ad cI M)) args s 0 0 (mA ad 40)) (F0 m 4 ls []) := by
  obtain ⟨hx, hb, hml, hr, hlocks, hts, hown, hKv, hXs⟩ := id Z
  have hXk := hX0.1
  have k0 := hts (Cond.fieldLink RX1 19 "NoonWalker$Land" "roads" "I") (List.mem_of_getElem? (i := 1) rfl)
  have k1 := hts (Cond.fieldLink RX1 22 "NoonWalker$Land" "roadA" "[I") (List.mem_of_getElem? (i := 2) rfl)
  have k2 := hts (Cond.fieldLink RX1 25 "NoonWalker$Land" "roadB" "[I") (List.mem_of_getElem? (i := 3) rfl)
  intro n
  induction n with
  | zero => intro _ _ h; exact absurd h (by unfold fX1_roadsOf_4; exact fun h => by cases h)
  | succ n ih =>
    intro v2 v3 h H locs ls hl hM
    rw [fX1_roadsOf_4] at h
    refine lv_iload_n hx hb dX1_roadsOf_4 rfl (lv_at hl 3 rfl) ?_
    refine lv_aload_n hx hb dX1_roadsOf_5 rfl (lv_at hl 0 rfl) ?_
    refine m_get hx hb hts hown hKv hM (fun _ h => List.mem_cons_of_mem _ (List.mem_append_right _ (h))) (lt_X1 pb0) (at_X1 pb0) rfl 2 (by decide) k0 (v := .int (M.1 b0 2)) rfl dX1_roadsOf_6 ?_
    refine lv_icmp_ge (tgt := 41) hx hb dX1_roadsOf_9 (by decide) (fun c1 => ?_) (fun c1 => ?_)
    · replace h := (if_pos c1).symm.trans h
      exact hKc _ h _ _ _ (lv_sub hl [2] rfl) hM
    · replace h := (if_neg c1).symm.trans h
      refine lv_aload_n hx hb dX1_roadsOf_12 rfl (lv_at hl 0 rfl) ?_
      refine m_get hx hb hts hown hKv hM (fun _ h => List.mem_cons_of_mem _ (List.mem_append_right _ (h))) (lt_X1 pb0) (at_X1 pb0) rfl 3 (by decide) k1 (v := .ref (ad (b0 + 2))) rfl dX1_roadsOf_13 ?_
      refine lv_iload_n hx hb dX1_roadsOf_16 rfl (lv_at hl 3 rfl) ?_
      obtain ⟨x2, hx2, h⟩ := Option.bind_eq_some_iff.mp h
      refine m_iald hx hb hKv hM (lt_X1_2 pb0) (at_X1_2 pb0) 0 rfl hx2 dX1_roadsOf_17 ?_
      refine lv_iload_n hx hb dX1_roadsOf_18 rfl (lv_at hl 1 rfl) ?_
      refine lv_icmp_eq (tgt := 32) hx hb dX1_roadsOf_19 (by decide) (fun c3 => ?_) (fun c3 => ?_)
      · replace h := (if_pos c3).symm.trans h
        refine lv_iinc (v := (v2 + 1)) (lv' := [(2, .int (v2 + 1)), (0, .ref (ad b0)), (1, .int u1), (3, .int v3)]) hx hb dX1_roadsOf_32 hl (k := 2) rfl rfl (by decide) rfl (fun ls hl => ?_)
        refine lv_iinc (v := (v3 + 1)) (lv' := [(3, .int (v3 + 1)), (2, .int (v2 + 1)), (0, .ref (ad b0)), (1, .int u1)]) hx hb dX1_roadsOf_35 hl (k := 3) rfl rfl (by decide) rfl (fun ls hl => ?_)
        refine lv_goto (tgt := 4) hx hb dX1_roadsOf_38 (by decide) ?_
        exact ih _ _ h _ _ _ (lv_sub hl [2, 3, 1, 0] rfl) hM
      · replace h := (if_neg c3).symm.trans h
        refine lv_aload_n hx hb dX1_roadsOf_22 rfl (lv_at hl 0 rfl) ?_
        refine m_get hx hb hts hown hKv hM (fun _ h => List.mem_cons_of_mem _ (List.mem_append_right _ (h))) (lt_X1 pb0) (at_X1 pb0) rfl 4 (by decide) k2 (v := .ref (ad (b0 + 3))) rfl dX1_roadsOf_23 ?_
        refine lv_iload_n hx hb dX1_roadsOf_26 rfl (lv_at hl 3 rfl) ?_
        obtain ⟨x4, hx4, h⟩ := Option.bind_eq_some_iff.mp h
        refine m_iald hx hb hKv hM (lt_X1_3 pb0) (at_X1_3 pb0) 0 rfl hx4 dX1_roadsOf_27 ?_
        refine lv_iload_n hx hb dX1_roadsOf_28 rfl (lv_at hl 1 rfl) ?_
        refine lv_icmp_ne (tgt := 35) hx hb dX1_roadsOf_29 (by decide) (fun c5 => ?_) (fun c5 => ?_)
        · replace h := (if_neg c5).symm.trans h
          refine lv_iinc (v := (v3 + 1)) (lv' := [(3, .int (v3 + 1)), (0, .ref (ad b0)), (1, .int u1), (2, .int v2)]) hx hb dX1_roadsOf_35 hl (k := 3) rfl rfl (by decide) rfl (fun ls hl => ?_)
          refine lv_goto (tgt := 4) hx hb dX1_roadsOf_38 (by decide) ?_
          exact ih _ _ h _ _ _ (lv_sub hl [1, 2, 3, 0] rfl) hM
        · replace h := (if_pos c5).symm.trans h
          refine lv_iinc (v := (v2 + 1)) (lv' := [(2, .int (v2 + 1)), (0, .ref (ad b0)), (1, .int u1), (3, .int v3)]) hx hb dX1_roadsOf_32 hl (k := 2) rfl rfl (by decide) rfl (fun ls hl => ?_)
          refine lv_iinc (v := (v3 + 1)) (lv' := [(3, .int (v3 + 1)), (2, .int (v2 + 1)), (0, .ref (ad b0)), (1, .int u1)]) hx hb dX1_roadsOf_35 hl (k := 3) rfl rfl (by decide) rfl (fun ls hl => ?_)
          refine lv_goto (tgt := 4) hx hb dX1_roadsOf_38 (by decide) ?_
          exact ih _ _ h _ _ _ (lv_sub hl [2, 3, 1, 0] rfl) hM
set_option maxHeartbeats 4000000 in
set_option maxRecDepth 100000 in
theorem kX1_roadsOf (l : Launch) (D : va_G) (cI : ClassId) (ad : Nat → Nat) {X : State → Prop} {aS : Nat → Nat} (hX0 : cX D ad aS X) (b0 : Nat) (pb0 : isL b0) (a1 : Int32) (M : Mem) (res : Int32) (h : fX1_roadsOf b0 a1 M = some res) : mC l yX1_roadsOf wsX1_roadsOf { frames := 0, cells := 0, slots := 0, locals := 0 } D [(cI, .int)] ad 40 X [.ref (ad b0), .int a1] (Ec ad cI M) (some (.int res)) (Ec ad cI M) := by
  refine m_ofW (cc := cX1_roadsOf) (maxL := 4) (ret := (some .int)) (by decide) rfl (Nat.le_of_ble_eq_true rfl) ?_
  intro p e s m args below meth c hx hb hml hr hlocks hts hown hKv hXs ls hl hM
  have hXk := hX0.1
  have Z : mZ p s m args meth c cX1_roadsOf 4 (some .int) wsX1_roadsOf RX1 D [(cI, .int)] X := ⟨hx, hb, hml, hr, hlocks, hts, hown, hKv, hXs⟩
  replace hown : s.vm.findClass RX1 = some m.cls := hown
  have hl : lv_has ls 4 [(0, .ref (ad b0)), (1, .int a1)] := hl
  unfold fX1_roadsOf at h
  refine lv_iconst (v := (0 : Int32)) hx hb dX1_roadsOf_0 (by decide) ?_
  refine lv_istore_n (lv' := [(2, .int (0 : Int32)), (0, .ref (ad b0)), (1, .int a1)]) hx hb dX1_roadsOf_1 rfl hl (by decide) rfl (fun ls hl => ?_)
  refine lv_iconst (v := (0 : Int32)) hx hb dX1_roadsOf_2 (by decide) ?_
  refine lv_istore_n (lv' := [(3, .int (0 : Int32)), (2, .int (0 : Int32)), (0, .ref (ad b0)), (1, .int a1)]) hx hb dX1_roadsOf_3 rfl hl (by decide) rfl (fun ls hl => ?_)
  refine wX1_roadsOf_4 Z hX0 b0 pb0 a1 M _ (fun y1 h H locs ls hl hM => ?_) _ _ _ h _ _ _ (lv_sub hl [2, 3, 1, 0] rfl) hM
  refine lv_iload_n hx hb dX1_roadsOf_41 rfl (lv_at hl 0 rfl) ?_
  exact m_iret hx hb hr hlocks hM (Option.some.inj h) rfl dX1_roadsOf_42
set_option maxHeartbeats 4000000 in
set_option maxRecDepth 100000 in
theorem wX1_stopsOf_4 {p : Program} {l : Launch} {e : Env} {s : State} {m : MethodId} {args : Array Value} {below : List Frame} {meth : Method} {c : Code} {D : va_G} {cI : ClassId} {ad : Nat → Nat} {X : State → Prop} (Z : mZ p s m args meth c cX1_stopsOf 4 (some .int) wsX1_stopsOf RX1 D [(cI, .int)] X) {aS : Nat → Nat} (hX0 : cX D ad aS X) (b0 : Nat) (pb0 : isL b0)  (u1 : Int32) (M : Mem) {K : Int32 → Option Int32} (res : Int32) (hKc : ∀ (y2 : Int32), K y2 = some res → ∀ (H : Heap) (locs : List Loc) (ls : Array Slot), lv_has ls 4 [(2, .int y2)] → mH D ad 40 (Ec ad cI M) s.heap H locs → W p l e { frames := 0, cells := 0, slots := 0, locals := 0 } s m args below meth c H locs 0 0 (MQ below (mQ D ad 40 (some (.int res)) (Ec ad cI M)) args s 0 0 (mA ad 40)) (F0 m 31 ls [])) :
    ∀ (n : Nat) (v2 : Int32) (v3 : Int32), fX1_stopsOf_4 b0 u1 M K n v2 v3 = some res → ∀ (H : Heap) (locs : List Loc) (ls : Array Slot), lv_has ls 4 [(0, .ref (ad b0)), (1, .int u1), (2, .int v2), (3, .int v3)] → mH D ad 40 (Ec ad cI M) s.heap H locs → W p l e { frames := 0, cells := 0, slots := 0, locals := 0 } s m args below meth c H locs 0 0 (MQ below (mQ D ad 40 (some (.int res)) (Ec ad cI M)) args s 0 0 (mA ad 40)) (F0 m 4 ls []) := by
  obtain ⟨hx, hb, hml, hr, hlocks, hts, hown, hKv, hXs⟩ := id Z
  have hXk := hX0.1
  have k0 := hts (Cond.fieldLink RX1 31 "NoonWalker$Land" "stops" "I") (List.mem_of_getElem? (i := 1) rfl)
  have k1 := hts (Cond.fieldLink RX1 34 "NoonWalker$Land" "stopTown" "[I") (List.mem_of_getElem? (i := 2) rfl)
  intro n
  induction n with
  | zero => intro _ _ h; exact absurd h (by unfold fX1_stopsOf_4; exact fun h => by cases h)
  | succ n ih =>
    intro v2 v3 h H locs ls hl hM
    rw [fX1_stopsOf_4] at h
    refine lv_iload_n hx hb dX1_stopsOf_4 rfl (lv_at hl 3 rfl) ?_
    refine lv_aload_n hx hb dX1_stopsOf_5 rfl (lv_at hl 0 rfl) ?_
    refine m_get hx hb hts hown hKv hM (fun _ h => List.mem_cons_of_mem _ (List.mem_append_right _ (h))) (lt_X1 pb0) (at_X1 pb0) rfl 6 (by decide) k0 (v := .int (M.1 b0 6)) rfl dX1_stopsOf_6 ?_
    refine lv_icmp_ge (tgt := 31) hx hb dX1_stopsOf_9 (by decide) (fun c1 => ?_) (fun c1 => ?_)
    · replace h := (if_pos c1).symm.trans h
      exact hKc _ h _ _ _ (lv_sub hl [2] rfl) hM
    · replace h := (if_neg c1).symm.trans h
      refine lv_aload_n hx hb dX1_stopsOf_12 rfl (lv_at hl 0 rfl) ?_
      refine m_get hx hb hts hown hKv hM (fun _ h => List.mem_cons_of_mem _ (List.mem_append_right _ (h))) (lt_X1 pb0) (at_X1 pb0) rfl 7 (by decide) k1 (v := .ref (ad (b0 + 5))) rfl dX1_stopsOf_13 ?_
      refine lv_iload_n hx hb dX1_stopsOf_16 rfl (lv_at hl 3 rfl) ?_
      obtain ⟨x2, hx2, h⟩ := Option.bind_eq_some_iff.mp h
      refine m_iald hx hb hKv hM (lt_X1_5 pb0) (at_X1_5 pb0) 0 rfl hx2 dX1_stopsOf_17 ?_
      refine lv_iload_n hx hb dX1_stopsOf_18 rfl (lv_at hl 1 rfl) ?_
      refine lv_icmp_ne (tgt := 25) hx hb dX1_stopsOf_19 (by decide) (fun c3 => ?_) (fun c3 => ?_)
      · replace h := (if_neg c3).symm.trans h
        refine lv_iinc (v := (v3 + 1)) (lv' := [(3, .int (v3 + 1)), (0, .ref (ad b0)), (1, .int u1), (2, .int v2)]) hx hb dX1_stopsOf_25 hl (k := 3) rfl rfl (by decide) rfl (fun ls hl => ?_)
        refine lv_goto (tgt := 4) hx hb dX1_stopsOf_28 (by decide) ?_
        exact ih _ _ h _ _ _ (lv_sub hl [1, 2, 3, 0] rfl) hM
      · replace h := (if_pos c3).symm.trans h
        refine lv_iinc (v := (v2 + 1)) (lv' := [(2, .int (v2 + 1)), (0, .ref (ad b0)), (1, .int u1), (3, .int v3)]) hx hb dX1_stopsOf_22 hl (k := 2) rfl rfl (by decide) rfl (fun ls hl => ?_)
        refine lv_iinc (v := (v3 + 1)) (lv' := [(3, .int (v3 + 1)), (2, .int (v2 + 1)), (0, .ref (ad b0)), (1, .int u1)]) hx hb dX1_stopsOf_25 hl (k := 3) rfl rfl (by decide) rfl (fun ls hl => ?_)
        refine lv_goto (tgt := 4) hx hb dX1_stopsOf_28 (by decide) ?_
        exact ih _ _ h _ _ _ (lv_sub hl [2, 3, 1, 0] rfl) hM
set_option maxHeartbeats 4000000 in
set_option maxRecDepth 100000 in
theorem kX1_stopsOf (l : Launch) (D : va_G) (cI : ClassId) (ad : Nat → Nat) {X : State → Prop} {aS : Nat → Nat} (hX0 : cX D ad aS X) (b0 : Nat) (pb0 : isL b0) (a1 : Int32) (M : Mem) (res : Int32) (h : fX1_stopsOf b0 a1 M = some res) : mC l yX1_stopsOf wsX1_stopsOf { frames := 0, cells := 0, slots := 0, locals := 0 } D [(cI, .int)] ad 40 X [.ref (ad b0), .int a1] (Ec ad cI M) (some (.int res)) (Ec ad cI M) := by
  refine m_ofW (cc := cX1_stopsOf) (maxL := 4) (ret := (some .int)) (by decide) rfl (Nat.le_of_ble_eq_true rfl) ?_
  intro p e s m args below meth c hx hb hml hr hlocks hts hown hKv hXs ls hl hM
  have hXk := hX0.1
  have Z : mZ p s m args meth c cX1_stopsOf 4 (some .int) wsX1_stopsOf RX1 D [(cI, .int)] X := ⟨hx, hb, hml, hr, hlocks, hts, hown, hKv, hXs⟩
  replace hown : s.vm.findClass RX1 = some m.cls := hown
  have hl : lv_has ls 4 [(0, .ref (ad b0)), (1, .int a1)] := hl
  unfold fX1_stopsOf at h
  refine lv_iconst (v := (0 : Int32)) hx hb dX1_stopsOf_0 (by decide) ?_
  refine lv_istore_n (lv' := [(2, .int (0 : Int32)), (0, .ref (ad b0)), (1, .int a1)]) hx hb dX1_stopsOf_1 rfl hl (by decide) rfl (fun ls hl => ?_)
  refine lv_iconst (v := (0 : Int32)) hx hb dX1_stopsOf_2 (by decide) ?_
  refine lv_istore_n (lv' := [(3, .int (0 : Int32)), (2, .int (0 : Int32)), (0, .ref (ad b0)), (1, .int a1)]) hx hb dX1_stopsOf_3 rfl hl (by decide) rfl (fun ls hl => ?_)
  refine wX1_stopsOf_4 Z hX0 b0 pb0 a1 M _ (fun y1 h H locs ls hl hM => ?_) _ _ _ h _ _ _ (lv_sub hl [2, 3, 1, 0] rfl) hM
  refine lv_iload_n hx hb dX1_stopsOf_31 rfl (lv_at hl 0 rfl) ?_
  exact m_iret hx hb hr hlocks hM (Option.some.inj h) rfl dX1_stopsOf_32
set_option maxHeartbeats 4000000 in
set_option maxRecDepth 100000 in
theorem kX1_distanceFromPlace (l : Launch) (D : va_G) (cI : ClassId) (ad : Nat → Nat) {X : State → Prop} {aS : Nat → Nat} (hX0 : cX D ad aS X) (b0 : Nat) (pb0 : isL b0) (a1 : Int32) (a2 : Int32) (M : Mem) (res : Int32) (h : fX1_distanceFromPlace b0 a1 a2 M = some res) : mC l yX1_distanceFromPlace wsX1_distanceFromPlace { frames := 2, cells := 0, slots := 0, locals := 43 } D [(cI, .int)] ad 40 X [.ref (ad b0), .int a1, .int a2] (Ec ad cI M) (some (.int res)) (Ec ad cI M) := by
  refine m_ofW (cc := cX1_distanceFromPlace) (maxL := 7) (ret := (some .int)) (by decide) rfl (Nat.le_of_ble_eq_true rfl) ?_
  intro p e s m args below meth c hx hb hml hr hlocks hts hown hKv hXs ls hl hM
  have hXk := hX0.1
  have Z : mZ p s m args meth c cX1_distanceFromPlace 7 (some .int) wsX1_distanceFromPlace RX1 D [(cI, .int)] X := ⟨hx, hb, hml, hr, hlocks, hts, hown, hKv, hXs⟩
  replace hown : s.vm.findClass RX1 = some m.cls := hown
  have hl : lv_has ls 7 [(0, .ref (ad b0)), (1, .int a1), (2, .int a2)] := hl
  have k0 := hts (Cond.fieldLink RX1 22 "NoonWalker$Land" "roadA" "[I") (List.mem_of_getElem? (i := 1) rfl)
  have k1 := hts (Cond.fieldLink RX1 25 "NoonWalker$Land" "roadB" "[I") (List.mem_of_getElem? (i := 2) rfl)
  have k2 := hts (Cond.fieldLink RX1 28 "NoonWalker$Land" "miles" "[I") (List.mem_of_getElem? (i := 3) rfl)
  have k3 := hts (Cond.methodLink RX1 90 Lib.Math.min.name) (List.mem_of_getElem? (i := 4) rfl)
  have k4 := hts (Cond.static Lib.Math.min.name) (List.mem_of_getElem? (i := 5) rfl)
  have k5 := hts (Cond.initialized "java/lang/Math") (List.mem_of_getElem? (i := 6) rfl)
  have k6 := hts (Cond.code Lib.Math.min.name Lib.Math.min.code 2 (some .int)) (List.mem_of_getElem? (i := 7) rfl)
  unfold fX1_distanceFromPlace at h
  refine lv_iload_n hx hb dX1_distanceFromPlace_0 rfl (lv_at hl 1 rfl) ?_
  refine lv_bipush (v := (100 : Int32)) hx hb dX1_distanceFromPlace_1 (by decide) ?_
  refine lv_icmp_ge (tgt := 13) hx hb dX1_distanceFromPlace_3 (by decide) (fun c1 => ?_) (fun c1 => ?_)
  · replace h := (if_pos c1).symm.trans h
    refine lv_iload_n hx hb dX1_distanceFromPlace_13 rfl (lv_at hl 1 rfl) ?_
    refine lv_bipush (v := (100 : Int32)) hx hb dX1_distanceFromPlace_14 (by decide) ?_
    obtain ⟨x2, hx2, h⟩ := Option.bind_eq_some_iff.mp h
    refine m_idiv hx hb hx2 dX1_distanceFromPlace_16 ?_
    refine lv_iconst (v := (1 : Int32)) hx hb dX1_distanceFromPlace_17 (by decide) ?_
    refine lv_isub hx hb dX1_distanceFromPlace_18 ?_
    refine lv_istore_n (lv' := [(3, .int (x2 - (1 : Int32))), (0, .ref (ad b0)), (1, .int a1), (2, .int a2)]) hx hb dX1_distanceFromPlace_19 rfl hl (by decide) rfl (fun ls hl => ?_)
    refine lv_aload_n hx hb dX1_distanceFromPlace_20 rfl (lv_at hl 1 rfl) ?_
    refine lv_iload_n hx hb dX1_distanceFromPlace_21 rfl (lv_at hl 0 rfl) ?_
    obtain ⟨x3, hx3, h⟩ := Option.bind_eq_some_iff.mp h
    refine m_callV (As := [.int (x2 - (1 : Int32))]) (st1 := [.int x3]) hx hb (hml.trans hl.1.symm) hown hts hKv hXs hXk hM (kX1_isRoad l D cI ad hX0 b0 pb0 (x2 - (1 : Int32)) M _ hx3) (cwV 1 hts gX1_distanceFromPlace_X1_isRoad rfl rfl rfl (by decide +kernel) ⟨Nat.le_of_ble_eq_true rfl, Nat.le_of_ble_eq_true rfl⟩) (lt_X1 pb0) (at_X1 pb0) rfl rfl rfl rfl (Nat.le_of_ble_eq_true rfl) dX1_distanceFromPlace_22 ⟨Nat.zero_le _, Nat.zero_le _⟩ (fun H locs hM => ?_)
    refine lv_if_ne (tgt := 31) hx hb dX1_distanceFromPlace_25 (by decide) (fun c4 => ?_) (fun c4 => ?_)
    · replace h := (if_neg c4).symm.trans h
      refine lv_iload_n hx hb dX1_distanceFromPlace_31 rfl (lv_at hl 2 rfl) ?_
      refine lv_bipush (v := (100 : Int32)) hx hb dX1_distanceFromPlace_32 (by decide) ?_
      obtain ⟨x5, hx5, h⟩ := Option.bind_eq_some_iff.mp h
      refine m_irem hx hb hx5 dX1_distanceFromPlace_34 ?_
      refine lv_istore (lv' := [(4, .int x5), (3, .int (x2 - (1 : Int32))), (0, .ref (ad b0)), (1, .int a1), (2, .int a2)]) hx hb dX1_distanceFromPlace_35 hl (by decide) rfl (fun ls hl => ?_)
      refine lv_aload_n hx hb dX1_distanceFromPlace_37 rfl (lv_at hl 2 rfl) ?_
      refine lv_aload_n hx hb dX1_distanceFromPlace_38 rfl (lv_at hl 2 rfl) ?_
      refine m_get hx hb hts hown hKv hM (fun _ h => List.mem_cons_of_mem _ (List.mem_append_right _ (h))) (lt_X1 pb0) (at_X1 pb0) rfl 3 (by decide) k0 (v := .ref (ad (b0 + 2))) rfl dX1_distanceFromPlace_39 ?_
      refine lv_iload_n hx hb dX1_distanceFromPlace_42 rfl (lv_at hl 1 rfl) ?_
      obtain ⟨x6, hx6, h⟩ := Option.bind_eq_some_iff.mp h
      refine m_iald hx hb hKv hM (lt_X1_2 pb0) (at_X1_2 pb0) 0 rfl hx6 dX1_distanceFromPlace_43 ?_
      refine lv_iload_n hx hb dX1_distanceFromPlace_44 rfl (lv_at hl 4 rfl) ?_
      obtain ⟨x7, hx7, h⟩ := Option.bind_eq_some_iff.mp h
      refine m_callV (As := [.int x6, .int a2]) (st1 := [.int x7]) hx hb (hml.trans hl.1.symm) hown hts hKv hXs hXk hM (kX1_distance l D cI ad hX0 b0 pb0 x6 a2 M _ hx7) (cwV 2 hts gX1_distanceFromPlace_X1_distance rfl rfl rfl (by decide +kernel) ⟨Nat.le_of_ble_eq_true rfl, Nat.le_of_ble_eq_true rfl⟩) (lt_X1 pb0) (at_X1 pb0) rfl rfl rfl rfl (Nat.le_of_ble_eq_true rfl) dX1_distanceFromPlace_45 ⟨Nat.zero_le _, Nat.zero_le _⟩ (fun H locs hM => ?_)
      refine lv_istore (lv' := [(5, .int x7), (4, .int x5), (3, .int (x2 - (1 : Int32))), (0, .ref (ad b0)), (1, .int a1), (2, .int a2)]) hx hb dX1_distanceFromPlace_48 hl (by decide) rfl (fun ls hl => ?_)
      refine lv_aload_n hx hb dX1_distanceFromPlace_50 rfl (lv_at hl 3 rfl) ?_
      refine lv_aload_n hx hb dX1_distanceFromPlace_51 rfl (lv_at hl 3 rfl) ?_
      refine m_get hx hb hts hown hKv hM (fun _ h => List.mem_cons_of_mem _ (List.mem_append_right _ (h))) (lt_X1 pb0) (at_X1 pb0) rfl 4 (by decide) k1 (v := .ref (ad (b0 + 3))) rfl dX1_distanceFromPlace_52 ?_
      refine lv_iload_n hx hb dX1_distanceFromPlace_55 rfl (lv_at hl 2 rfl) ?_
      obtain ⟨x8, hx8, h⟩ := Option.bind_eq_some_iff.mp h
      refine m_iald hx hb hKv hM (lt_X1_3 pb0) (at_X1_3 pb0) 0 rfl hx8 dX1_distanceFromPlace_56 ?_
      refine lv_iload_n hx hb dX1_distanceFromPlace_57 rfl (lv_at hl 5 rfl) ?_
      obtain ⟨x9, hx9, h⟩ := Option.bind_eq_some_iff.mp h
      refine m_callV (As := [.int x8, .int a2]) (st1 := [.int x9]) hx hb (hml.trans hl.1.symm) hown hts hKv hXs hXk hM (kX1_distance l D cI ad hX0 b0 pb0 x8 a2 M _ hx9) (cwV 2 hts gX1_distanceFromPlace_X1_distance rfl rfl rfl (by decide +kernel) ⟨Nat.le_of_ble_eq_true rfl, Nat.le_of_ble_eq_true rfl⟩) (lt_X1 pb0) (at_X1 pb0) rfl rfl rfl rfl (Nat.le_of_ble_eq_true rfl) dX1_distanceFromPlace_58 ⟨Nat.zero_le _, Nat.zero_le _⟩ (fun H locs hM => ?_)
      refine lv_istore (lv' := [(6, .int x9), (5, .int x7), (4, .int x5), (3, .int (x2 - (1 : Int32))), (0, .ref (ad b0)), (1, .int a1), (2, .int a2)]) hx hb dX1_distanceFromPlace_61 hl (by decide) rfl (fun ls hl => ?_)
      refine lv_iload hx hb dX1_distanceFromPlace_63 (lv_at hl 1 rfl) ?_
      refine lv_bipush (v := (-9 : Int32)) hx hb dX1_distanceFromPlace_65 (by decide) ?_
      refine lv_icmp_eq (tgt := 77) hx hb dX1_distanceFromPlace_67 (by decide) (fun c10 => ?_) (fun c10 => ?_)
      · replace h := (if_pos c10).symm.trans h
        refine lv_bipush (v := (-9 : Int32)) hx hb dX1_distanceFromPlace_77 (by decide) ?_
        exact m_iret hx hb hr hlocks hM (Option.some.inj h) rfl dX1_distanceFromPlace_79
      · replace h := (if_neg c10).symm.trans h
        refine lv_iload hx hb dX1_distanceFromPlace_70 (lv_at hl 0 rfl) ?_
        refine lv_bipush (v := (-9 : Int32)) hx hb dX1_distanceFromPlace_72 (by decide) ?_
        refine lv_icmp_ne (tgt := 80) hx hb dX1_distanceFromPlace_74 (by decide) (fun c11 => ?_) (fun c11 => ?_)
        · replace h := (if_neg c11).symm.trans h
          refine lv_iload hx hb dX1_distanceFromPlace_80 (lv_at hl 2 rfl) ?_
          refine lv_iload hx hb dX1_distanceFromPlace_82 (lv_at hl 1 rfl) ?_
          refine lv_iadd hx hb dX1_distanceFromPlace_84 ?_
          refine lv_aload_n hx hb dX1_distanceFromPlace_85 rfl (lv_at hl 4 rfl) ?_
          refine m_get hx hb hts hown hKv hM (fun _ h => List.mem_cons_of_mem _ (List.mem_append_right _ (h))) (lt_X1 pb0) (at_X1 pb0) rfl 5 (by decide) k2 (v := .ref (ad (b0 + 4))) rfl dX1_distanceFromPlace_86 ?_
          refine lv_iload_n hx hb dX1_distanceFromPlace_89 rfl (lv_at hl 3 rfl) ?_
          obtain ⟨x12, hx12, h⟩ := Option.bind_eq_some_iff.mp h
          refine m_iald hx hb hKv hM (lt_X1_4 pb0) (at_X1_4 pb0) 0 rfl hx12 dX1_distanceFromPlace_90 ?_
          refine lv_iload hx hb dX1_distanceFromPlace_91 (lv_at hl 2 rfl) ?_
          refine lv_isub hx hb dX1_distanceFromPlace_93 ?_
          refine lv_iload hx hb dX1_distanceFromPlace_94 (lv_at hl 0 rfl) ?_
          refine lv_iadd hx hb dX1_distanceFromPlace_96 ?_
          refine va_mmin hx hb (hml.trans hl.1.symm) hown k3 k4 k5 k6 (Nat.le_of_ble_eq_true rfl) (Nat.le_of_ble_eq_true rfl) (Nat.zero_le _) (Nat.zero_le _) dX1_distanceFromPlace_97 ?_
          exact m_iret hx hb hr hlocks hM (Option.some.inj h) rfl dX1_distanceFromPlace_100
        · replace h := (if_pos c11).symm.trans h
          refine lv_bipush (v := (-9 : Int32)) hx hb dX1_distanceFromPlace_77 (by decide) ?_
          exact m_iret hx hb hr hlocks hM (Option.some.inj h) rfl dX1_distanceFromPlace_79
    · replace h := (if_pos c4).symm.trans h
      refine lv_bipush (v := (-9 : Int32)) hx hb dX1_distanceFromPlace_28 (by decide) ?_
      exact m_iret hx hb hr hlocks hM (Option.some.inj h) rfl dX1_distanceFromPlace_30
  · replace h := (if_neg c1).symm.trans h
    refine lv_aload_n hx hb dX1_distanceFromPlace_6 rfl (lv_at hl 0 rfl) ?_
    refine lv_iload_n hx hb dX1_distanceFromPlace_7 rfl (lv_at hl 1 rfl) ?_
    refine lv_iload_n hx hb dX1_distanceFromPlace_8 rfl (lv_at hl 2 rfl) ?_
    obtain ⟨x13, hx13, h⟩ := Option.bind_eq_some_iff.mp h
    refine m_callV (As := [.int a1, .int a2]) (st1 := [.int x13]) hx hb (hml.trans hl.1.symm) hown hts hKv hXs hXk hM (kX1_distance l D cI ad hX0 b0 pb0 a1 a2 M _ hx13) (cwV 2 hts gX1_distanceFromPlace_X1_distance rfl rfl rfl (by decide +kernel) ⟨Nat.le_of_ble_eq_true rfl, Nat.le_of_ble_eq_true rfl⟩) (lt_X1 pb0) (at_X1 pb0) rfl rfl rfl rfl (Nat.le_of_ble_eq_true rfl) dX1_distanceFromPlace_9 ⟨Nat.zero_le _, Nat.zero_le _⟩ (fun H locs hM => ?_)
    exact m_iret hx hb hr hlocks hM (Option.some.inj h) rfl dX1_distanceFromPlace_12
set_option maxHeartbeats 4000000 in
set_option maxRecDepth 100000 in
theorem wX1_lastCome_4 {p : Program} {l : Launch} {e : Env} {s : State} {m : MethodId} {args : Array Value} {below : List Frame} {meth : Method} {c : Code} {D : va_G} {cI : ClassId} {ad : Nat → Nat} {X : State → Prop} (Z : mZ p s m args meth c cX1_lastCome 4 (some .int) wsX1_lastCome RX1 D [(cI, .int)] X) {aS : Nat → Nat} (hX0 : cX D ad aS X) (b0 : Nat) (pb0 : isL b0)  (u1 : Int32) (M : Mem) {K : Int32 → Option Int32} (res : Int32) (hKc : ∀ (y2 : Int32), K y2 = some res → ∀ (H : Heap) (locs : List Loc) (ls : Array Slot), lv_has ls 4 [(2, .int y2)] → mH D ad 40 (Ec ad cI M) s.heap H locs → W p l e { frames := 0, cells := 0, slots := 0, locals := 0 } s m args below meth c H locs 0 0 (MQ below (mQ D ad 40 (some (.int res)) (Ec ad cI M)) args s 0 0 (mA ad 40)) (F0 m 30 ls [])) :
    ∀ (n : Nat) (v2 : Int32) (v3 : Int32), fX1_lastCome_4 b0 u1 M K n v2 v3 = some res → ∀ (H : Heap) (locs : List Loc) (ls : Array Slot), lv_has ls 4 [(0, .ref (ad b0)), (1, .int u1), (2, .int v2), (3, .int v3)] → mH D ad 40 (Ec ad cI M) s.heap H locs → W p l e { frames := 0, cells := 0, slots := 0, locals := 0 } s m args below meth c H locs 0 0 (MQ below (mQ D ad 40 (some (.int res)) (Ec ad cI M)) args s 0 0 (mA ad 40)) (F0 m 4 ls []) := by
  obtain ⟨hx, hb, hml, hr, hlocks, hts, hown, hKv, hXs⟩ := id Z
  have hXk := hX0.1
  have k0 := hts (Cond.fieldLink RX1 31 "NoonWalker$Land" "stops" "I") (List.mem_of_getElem? (i := 1) rfl)
  have k1 := hts (Cond.fieldLink RX1 40 "NoonWalker$Land" "comes" "[I") (List.mem_of_getElem? (i := 2) rfl)
  intro n
  induction n with
  | zero => intro _ _ h; exact absurd h (by unfold fX1_lastCome_4; exact fun h => by cases h)
  | succ n ih =>
    intro v2 v3 h H locs ls hl hM
    rw [fX1_lastCome_4] at h
    refine lv_iload_n hx hb dX1_lastCome_4 rfl (lv_at hl 3 rfl) ?_
    refine lv_aload_n hx hb dX1_lastCome_5 rfl (lv_at hl 0 rfl) ?_
    refine m_get hx hb hts hown hKv hM (fun _ h => List.mem_cons_of_mem _ (List.mem_append_right _ (h))) (lt_X1 pb0) (at_X1 pb0) rfl 6 (by decide) k0 (v := .int (M.1 b0 6)) rfl dX1_lastCome_6 ?_
    refine lv_icmp_ge (tgt := 30) hx hb dX1_lastCome_9 (by decide) (fun c1 => ?_) (fun c1 => ?_)
    · replace h := (if_pos c1).symm.trans h
      exact hKc _ h _ _ _ (lv_sub hl [2] rfl) hM
    · replace h := (if_neg c1).symm.trans h
      refine lv_aload_n hx hb dX1_lastCome_12 rfl (lv_at hl 0 rfl) ?_
      refine m_get hx hb hts hown hKv hM (fun _ h => List.mem_cons_of_mem _ (List.mem_append_right _ (h))) (lt_X1 pb0) (at_X1 pb0) rfl 9 (by decide) k1 (v := .ref (ad (b0 + 7))) rfl dX1_lastCome_13 ?_
      refine lv_iload_n hx hb dX1_lastCome_16 rfl (lv_at hl 3 rfl) ?_
      obtain ⟨x2, hx2, h⟩ := Option.bind_eq_some_iff.mp h
      refine m_iald hx hb hKv hM (lt_X1_7 pb0) (at_X1_7 pb0) 0 rfl hx2 dX1_lastCome_17 ?_
      refine lv_iload_n hx hb dX1_lastCome_18 rfl (lv_at hl 1 rfl) ?_
      refine lv_icmp_gt (tgt := 24) hx hb dX1_lastCome_19 (by decide) (fun c3 => ?_) (fun c3 => ?_)
      · replace h := (if_pos c3).symm.trans h
        refine lv_iinc (v := (v3 + 1)) (lv' := [(3, .int (v3 + 1)), (0, .ref (ad b0)), (1, .int u1), (2, .int v2)]) hx hb dX1_lastCome_24 hl (k := 3) rfl rfl (by decide) rfl (fun ls hl => ?_)
        refine lv_goto (tgt := 4) hx hb dX1_lastCome_27 (by decide) ?_
        exact ih _ _ h _ _ _ (lv_sub hl [1, 2, 3, 0] rfl) hM
      · replace h := (if_neg c3).symm.trans h
        refine lv_iload_n hx hb dX1_lastCome_22 rfl (lv_at hl 3 rfl) ?_
        refine lv_istore_n (lv' := [(2, .int v3), (0, .ref (ad b0)), (1, .int u1), (3, .int v3)]) hx hb dX1_lastCome_23 rfl hl (by decide) rfl (fun ls hl => ?_)
        refine lv_iinc (v := (v3 + 1)) (lv' := [(3, .int (v3 + 1)), (2, .int v3), (0, .ref (ad b0)), (1, .int u1)]) hx hb dX1_lastCome_24 hl (k := 3) rfl rfl (by decide) rfl (fun ls hl => ?_)
        refine lv_goto (tgt := 4) hx hb dX1_lastCome_27 (by decide) ?_
        exact ih _ _ h _ _ _ (lv_sub hl [2, 3, 1, 0] rfl) hM
set_option maxHeartbeats 4000000 in
set_option maxRecDepth 100000 in
theorem kX1_lastCome (l : Launch) (D : va_G) (cI : ClassId) (ad : Nat → Nat) {X : State → Prop} {aS : Nat → Nat} (hX0 : cX D ad aS X) (b0 : Nat) (pb0 : isL b0) (a1 : Int32) (M : Mem) (res : Int32) (h : fX1_lastCome b0 a1 M = some res) : mC l yX1_lastCome wsX1_lastCome { frames := 0, cells := 0, slots := 0, locals := 0 } D [(cI, .int)] ad 40 X [.ref (ad b0), .int a1] (Ec ad cI M) (some (.int res)) (Ec ad cI M) := by
  refine m_ofW (cc := cX1_lastCome) (maxL := 4) (ret := (some .int)) (by decide) rfl (Nat.le_of_ble_eq_true rfl) ?_
  intro p e s m args below meth c hx hb hml hr hlocks hts hown hKv hXs ls hl hM
  have hXk := hX0.1
  have Z : mZ p s m args meth c cX1_lastCome 4 (some .int) wsX1_lastCome RX1 D [(cI, .int)] X := ⟨hx, hb, hml, hr, hlocks, hts, hown, hKv, hXs⟩
  replace hown : s.vm.findClass RX1 = some m.cls := hown
  have hl : lv_has ls 4 [(0, .ref (ad b0)), (1, .int a1)] := hl
  unfold fX1_lastCome at h
  refine lv_iconst (v := (-1 : Int32)) hx hb dX1_lastCome_0 (by decide) ?_
  refine lv_istore_n (lv' := [(2, .int (-1 : Int32)), (0, .ref (ad b0)), (1, .int a1)]) hx hb dX1_lastCome_1 rfl hl (by decide) rfl (fun ls hl => ?_)
  refine lv_iconst (v := (0 : Int32)) hx hb dX1_lastCome_2 (by decide) ?_
  refine lv_istore_n (lv' := [(3, .int (0 : Int32)), (2, .int (-1 : Int32)), (0, .ref (ad b0)), (1, .int a1)]) hx hb dX1_lastCome_3 rfl hl (by decide) rfl (fun ls hl => ?_)
  refine wX1_lastCome_4 Z hX0 b0 pb0 a1 M _ (fun y1 h H locs ls hl hM => ?_) _ _ _ h _ _ _ (lv_sub hl [2, 3, 1, 0] rfl) hM
  refine lv_iload_n hx hb dX1_lastCome_30 rfl (lv_at hl 0 rfl) ?_
  exact m_iret hx hb hr hlocks hM (Option.some.inj h) rfl dX1_lastCome_31
set_option maxHeartbeats 4000000 in
set_option maxRecDepth 100000 in
theorem kX1_placeAt (l : Launch) (D : va_G) (cI : ClassId) (ad : Nat → Nat) {X : State → Prop} {aS : Nat → Nat} (hX0 : cX D ad aS X) (b0 : Nat) (pb0 : isL b0) (a1 : Int32) (M : Mem) (res : Int32) (h : fX1_placeAt b0 a1 M = some res) : mC l yX1_placeAt wsX1_placeAt { frames := 2, cells := 0, slots := 0, locals := 42 } D [(cI, .int)] ad 40 X [.ref (ad b0), .int a1] (Ec ad cI M) (some (.int res)) (Ec ad cI M) := by
  refine m_ofW (cc := cX1_placeAt) (maxL := 6) (ret := (some .int)) (by decide) rfl (Nat.le_of_ble_eq_true rfl) ?_
  intro p e s m args below meth c hx hb hml hr hlocks hts hown hKv hXs ls hl hM
  have hXk := hX0.1
  have Z : mZ p s m args meth c cX1_placeAt 6 (some .int) wsX1_placeAt RX1 D [(cI, .int)] X := ⟨hx, hb, hml, hr, hlocks, hts, hown, hKv, hXs⟩
  replace hown : s.vm.findClass RX1 = some m.cls := hown
  have hl : lv_has ls 6 [(0, .ref (ad b0)), (1, .int a1)] := hl
  have k0 := hts (Cond.fieldLink RX1 34 "NoonWalker$Land" "stopTown" "[I") (List.mem_of_getElem? (i := 2) rfl)
  have k1 := hts (Cond.fieldLink RX1 22 "NoonWalker$Land" "roadA" "[I") (List.mem_of_getElem? (i := 3) rfl)
  have k2 := hts (Cond.fieldLink RX1 28 "NoonWalker$Land" "miles" "[I") (List.mem_of_getElem? (i := 4) rfl)
  have k3 := hts (Cond.fieldLink RX1 43 "NoonWalker$Land" "comesBy" "[I") (List.mem_of_getElem? (i := 1) rfl)
  unfold fX1_placeAt at h
  refine lv_aload_n hx hb dX1_placeAt_0 rfl (lv_at hl 0 rfl) ?_
  refine lv_iload_n hx hb dX1_placeAt_1 rfl (lv_at hl 1 rfl) ?_
  obtain ⟨x1, hx1, h⟩ := Option.bind_eq_some_iff.mp h
  refine m_callV (As := [.int a1]) (st1 := [.int x1]) hx hb (hml.trans hl.1.symm) hown hts hKv hXs hXk hM (kX1_lastCome l D cI ad hX0 b0 pb0 a1 M _ hx1) (cwV 1 hts gX1_placeAt_X1_lastCome rfl rfl rfl (by decide +kernel) ⟨Nat.le_of_ble_eq_true rfl, Nat.le_of_ble_eq_true rfl⟩) (lt_X1 pb0) (at_X1 pb0) rfl rfl rfl rfl (Nat.le_of_ble_eq_true rfl) dX1_placeAt_2 ⟨Nat.zero_le _, Nat.zero_le _⟩ (fun H locs hM => ?_)
  refine lv_istore_n (lv' := [(2, .int x1), (0, .ref (ad b0)), (1, .int a1)]) hx hb dX1_placeAt_5 rfl hl (by decide) rfl (fun ls hl => ?_)
  refine lv_aload_n hx hb dX1_placeAt_6 rfl (lv_at hl 1 rfl) ?_
  refine lv_iload_n hx hb dX1_placeAt_7 rfl (lv_at hl 0 rfl) ?_
  obtain ⟨x2, hx2, h⟩ := Option.bind_eq_some_iff.mp h
  refine m_callV (As := [.int x1]) (st1 := [.int x2]) hx hb (hml.trans hl.1.symm) hown hts hKv hXs hXk hM (kX1_isStop l D cI ad hX0 b0 pb0 x1 M _ hx2) (cwV 1 hts gX1_placeAt_X1_isStop rfl rfl rfl (by decide +kernel) ⟨Nat.le_of_ble_eq_true rfl, Nat.le_of_ble_eq_true rfl⟩) (lt_X1 pb0) (at_X1 pb0) rfl rfl rfl rfl (Nat.le_of_ble_eq_true rfl) dX1_placeAt_8 ⟨Nat.zero_le _, Nat.zero_le _⟩ (fun H locs hM => ?_)
  refine lv_if_ne (tgt := 17) hx hb dX1_placeAt_11 (by decide) (fun c3 => ?_) (fun c3 => ?_)
  · replace h := (if_neg c3).symm.trans h
    refine lv_iload_n hx hb dX1_placeAt_17 rfl (lv_at hl 2 rfl) ?_
    refine lv_aload_n hx hb dX1_placeAt_18 rfl (lv_at hl 1 rfl) ?_
    refine lv_iload_n hx hb dX1_placeAt_19 rfl (lv_at hl 0 rfl) ?_
    obtain ⟨x4, hx4, h⟩ := Option.bind_eq_some_iff.mp h
    refine m_callV (As := [.int x1]) (st1 := [.int x4, .int a1]) hx hb (hml.trans hl.1.symm) hown hts hKv hXs hXk hM (kX1_leaves l D cI ad hX0 b0 pb0 x1 M _ hx4) (cwV 1 hts gX1_placeAt_X1_leaves rfl rfl rfl (by decide +kernel) ⟨Nat.le_of_ble_eq_true rfl, Nat.le_of_ble_eq_true rfl⟩) (lt_X1 pb0) (at_X1 pb0) rfl rfl rfl rfl (Nat.le_of_ble_eq_true rfl) dX1_placeAt_20 ⟨Nat.zero_le _, Nat.zero_le _⟩ (fun H locs hM => ?_)
    refine lv_isub hx hb dX1_placeAt_23 ?_
    refine lv_istore_n (lv' := [(3, .int (a1 - x4)), (2, .int x1), (0, .ref (ad b0)), (1, .int a1)]) hx hb dX1_placeAt_24 rfl hl (by decide) rfl (fun ls hl => ?_)
    refine lv_aload_n hx hb dX1_placeAt_25 rfl (lv_at hl 2 rfl) ?_
    refine lv_iload_n hx hb dX1_placeAt_26 rfl (lv_at hl 1 rfl) ?_
    refine lv_iconst (v := (1 : Int32)) hx hb dX1_placeAt_27 (by decide) ?_
    refine lv_iadd hx hb dX1_placeAt_28 ?_
    obtain ⟨x5, hx5, h⟩ := Option.bind_eq_some_iff.mp h
    refine m_callV (As := [.int (x1 + (1 : Int32))]) (st1 := [.int x5]) hx hb (hml.trans hl.1.symm) hown hts hKv hXs hXk hM (kX1_isStop l D cI ad hX0 b0 pb0 (x1 + (1 : Int32)) M _ hx5) (cwV 1 hts gX1_placeAt_X1_isStop rfl rfl rfl (by decide +kernel) ⟨Nat.le_of_ble_eq_true rfl, Nat.le_of_ble_eq_true rfl⟩) (lt_X1 pb0) (at_X1 pb0) rfl rfl rfl rfl (Nat.le_of_ble_eq_true rfl) dX1_placeAt_29 ⟨Nat.zero_le _, Nat.zero_le _⟩ (fun H locs hM => ?_)
    refine lv_if_eq (tgt := 46) hx hb dX1_placeAt_32 (by decide) (fun c6 => ?_) (fun c6 => ?_)
    · replace h := (if_pos c6).symm.trans h
      refine lv_bipush (v := (-9 : Int32)) hx hb dX1_placeAt_46 (by decide) ?_
      refine lv_istore (lv' := [(4, .int (-9 : Int32)), (3, .int (a1 - x4)), (2, .int x1), (0, .ref (ad b0)), (1, .int a1)]) hx hb dX1_placeAt_48 hl (by decide) rfl (fun ls hl => ?_)
      refine lv_iload_n hx hb dX1_placeAt_50 rfl (lv_at hl 1 rfl) ?_
      refine lv_if_le (tgt := 63) hx hb dX1_placeAt_51 (by decide) (fun c7 => ?_) (fun c7 => ?_)
      · replace h := (if_pos c7).symm.trans h
        refine lv_aload_n hx hb dX1_placeAt_63 rfl (lv_at hl 3 rfl) ?_
        refine m_get hx hb hts hown hKv hM (fun _ h => List.mem_cons_of_mem _ (List.mem_append_right _ (h))) (lt_X1 pb0) (at_X1 pb0) rfl 7 (by decide) k0 (v := .ref (ad (b0 + 5))) rfl dX1_placeAt_64 ?_
        refine lv_iload_n hx hb dX1_placeAt_67 rfl (lv_at hl 2 rfl) ?_
        obtain ⟨x8, hx8, h⟩ := Option.bind_eq_some_iff.mp h
        refine m_iald hx hb hKv hM (lt_X1_5 pb0) (at_X1_5 pb0) 0 rfl hx8 dX1_placeAt_68 ?_
        exact m_iret hx hb hr hlocks hM (Option.some.inj h) rfl dX1_placeAt_69
      · replace h := (if_neg c7).symm.trans h
        refine lv_aload_n hx hb dX1_placeAt_54 rfl (lv_at hl 3 rfl) ?_
        refine lv_iload hx hb dX1_placeAt_55 (lv_at hl 0 rfl) ?_
        obtain ⟨x9, hx9, h⟩ := Option.bind_eq_some_iff.mp h
        refine m_callV (As := [.int (-9 : Int32)]) (st1 := [.int x9]) hx hb (hml.trans hl.1.symm) hown hts hKv hXs hXk hM (kX1_isRoad l D cI ad hX0 b0 pb0 (-9 : Int32) M _ hx9) (cwV 1 hts gX1_placeAt_X1_isRoad rfl rfl rfl (by decide +kernel) ⟨Nat.le_of_ble_eq_true rfl, Nat.le_of_ble_eq_true rfl⟩) (lt_X1 pb0) (at_X1 pb0) rfl rfl rfl rfl (Nat.le_of_ble_eq_true rfl) dX1_placeAt_57 ⟨Nat.zero_le _, Nat.zero_le _⟩ (fun H locs hM => ?_)
        refine lv_if_ne (tgt := 70) hx hb dX1_placeAt_60 (by decide) (fun c10 => ?_) (fun c10 => ?_)
        · replace h := (if_neg c10).symm.trans h
          refine lv_aload_n hx hb dX1_placeAt_70 rfl (lv_at hl 3 rfl) ?_
          refine m_get hx hb hts hown hKv hM (fun _ h => List.mem_cons_of_mem _ (List.mem_append_right _ (h))) (lt_X1 pb0) (at_X1 pb0) rfl 3 (by decide) k1 (v := .ref (ad (b0 + 2))) rfl dX1_placeAt_71 ?_
          refine lv_iload hx hb dX1_placeAt_74 (lv_at hl 0 rfl) ?_
          obtain ⟨x11, hx11, h⟩ := Option.bind_eq_some_iff.mp h
          refine m_iald hx hb hKv hM (lt_X1_2 pb0) (at_X1_2 pb0) 0 rfl hx11 dX1_placeAt_76 ?_
          refine lv_aload_n hx hb dX1_placeAt_77 rfl (lv_at hl 3 rfl) ?_
          refine m_get hx hb hts hown hKv hM (fun _ h => List.mem_cons_of_mem _ (List.mem_append_right _ (h))) (lt_X1 pb0) (at_X1 pb0) rfl 7 (by decide) k0 (v := .ref (ad (b0 + 5))) rfl dX1_placeAt_78 ?_
          refine lv_iload_n hx hb dX1_placeAt_81 rfl (lv_at hl 2 rfl) ?_
          obtain ⟨x12, hx12, h⟩ := Option.bind_eq_some_iff.mp h
          refine m_iald hx hb hKv hM (lt_X1_5 pb0) (at_X1_5 pb0) 0 rfl hx12 dX1_placeAt_82 ?_
          refine lv_icmp_ne (tgt := 90) hx hb dX1_placeAt_83 (by decide) (fun c13 => ?_) (fun c13 => ?_)
          · replace h := (if_neg c13).symm.trans h
            refine lv_aload_n hx hb dX1_placeAt_90 rfl (lv_at hl 3 rfl) ?_
            refine m_get hx hb hts hown hKv hM (fun _ h => List.mem_cons_of_mem _ (List.mem_append_right _ (h))) (lt_X1 pb0) (at_X1 pb0) rfl 5 (by decide) k2 (v := .ref (ad (b0 + 4))) rfl dX1_placeAt_91 ?_
            refine lv_iload hx hb dX1_placeAt_94 (lv_at hl 0 rfl) ?_
            obtain ⟨x14, hx14, h⟩ := Option.bind_eq_some_iff.mp h
            refine m_iald hx hb hKv hM (lt_X1_4 pb0) (at_X1_4 pb0) 0 rfl hx14 dX1_placeAt_96 ?_
            refine lv_iload_n hx hb dX1_placeAt_97 rfl (lv_at hl 1 rfl) ?_
            refine lv_isub hx hb dX1_placeAt_98 ?_
            refine lv_istore (lv' := [(5, .int (x14 - (a1 - x4))), (4, .int (-9 : Int32)), (3, .int (a1 - x4)), (2, .int x1), (0, .ref (ad b0)), (1, .int a1)]) hx hb dX1_placeAt_99 hl (by decide) rfl (fun ls hl => ?_)
            refine lv_bipush (v := (100 : Int32)) hx hb dX1_placeAt_101 (by decide) ?_
            refine lv_iload hx hb dX1_placeAt_103 (lv_at hl 1 rfl) ?_
            refine lv_iconst (v := (1 : Int32)) hx hb dX1_placeAt_105 (by decide) ?_
            refine lv_iadd hx hb dX1_placeAt_106 ?_
            refine lv_imul hx hb dX1_placeAt_107 ?_
            refine lv_iload hx hb dX1_placeAt_108 (lv_at hl 0 rfl) ?_
            refine lv_iadd hx hb dX1_placeAt_110 ?_
            exact m_iret hx hb hr hlocks hM (Option.some.inj h) rfl dX1_placeAt_111
          · replace h := (if_pos c13).symm.trans h
            refine lv_iload_n hx hb dX1_placeAt_86 rfl (lv_at hl 1 rfl) ?_
            refine lv_goto (tgt := 99) hx hb dX1_placeAt_87 (by decide) ?_
            refine lv_istore (lv' := [(5, .int (a1 - x4)), (4, .int (-9 : Int32)), (3, .int (a1 - x4)), (2, .int x1), (0, .ref (ad b0)), (1, .int a1)]) hx hb dX1_placeAt_99 hl (by decide) rfl (fun ls hl => ?_)
            refine lv_bipush (v := (100 : Int32)) hx hb dX1_placeAt_101 (by decide) ?_
            refine lv_iload hx hb dX1_placeAt_103 (lv_at hl 1 rfl) ?_
            refine lv_iconst (v := (1 : Int32)) hx hb dX1_placeAt_105 (by decide) ?_
            refine lv_iadd hx hb dX1_placeAt_106 ?_
            refine lv_imul hx hb dX1_placeAt_107 ?_
            refine lv_iload hx hb dX1_placeAt_108 (lv_at hl 0 rfl) ?_
            refine lv_iadd hx hb dX1_placeAt_110 ?_
            exact m_iret hx hb hr hlocks hM (Option.some.inj h) rfl dX1_placeAt_111
        · replace h := (if_pos c10).symm.trans h
          refine lv_aload_n hx hb dX1_placeAt_63 rfl (lv_at hl 3 rfl) ?_
          refine m_get hx hb hts hown hKv hM (fun _ h => List.mem_cons_of_mem _ (List.mem_append_right _ (h))) (lt_X1 pb0) (at_X1 pb0) rfl 7 (by decide) k0 (v := .ref (ad (b0 + 5))) rfl dX1_placeAt_64 ?_
          refine lv_iload_n hx hb dX1_placeAt_67 rfl (lv_at hl 2 rfl) ?_
          obtain ⟨x15, hx15, h⟩ := Option.bind_eq_some_iff.mp h
          refine m_iald hx hb hKv hM (lt_X1_5 pb0) (at_X1_5 pb0) 0 rfl hx15 dX1_placeAt_68 ?_
          exact m_iret hx hb hr hlocks hM (Option.some.inj h) rfl dX1_placeAt_69
    · replace h := (if_neg c6).symm.trans h
      refine lv_aload_n hx hb dX1_placeAt_35 rfl (lv_at hl 2 rfl) ?_
      refine m_get hx hb hts hown hKv hM (fun _ h => List.mem_cons_of_mem _ (List.mem_append_right _ (h))) (lt_X1 pb0) (at_X1 pb0) rfl 10 (by decide) k3 (v := .ref (ad (b0 + 8))) rfl dX1_placeAt_36 ?_
      refine lv_iload_n hx hb dX1_placeAt_39 rfl (lv_at hl 1 rfl) ?_
      refine lv_iconst (v := (1 : Int32)) hx hb dX1_placeAt_40 (by decide) ?_
      refine lv_iadd hx hb dX1_placeAt_41 ?_
      obtain ⟨x16, hx16, h⟩ := Option.bind_eq_some_iff.mp h
      refine m_iald hx hb hKv hM (lt_X1_8 pb0) (at_X1_8 pb0) 0 rfl hx16 dX1_placeAt_42 ?_
      refine lv_goto (tgt := 48) hx hb dX1_placeAt_43 (by decide) ?_
      refine lv_istore (lv' := [(4, .int x16), (3, .int (a1 - x4)), (2, .int x1), (0, .ref (ad b0)), (1, .int a1)]) hx hb dX1_placeAt_48 hl (by decide) rfl (fun ls hl => ?_)
      refine lv_iload_n hx hb dX1_placeAt_50 rfl (lv_at hl 1 rfl) ?_
      refine lv_if_le (tgt := 63) hx hb dX1_placeAt_51 (by decide) (fun c17 => ?_) (fun c17 => ?_)
      · replace h := (if_pos c17).symm.trans h
        refine lv_aload_n hx hb dX1_placeAt_63 rfl (lv_at hl 3 rfl) ?_
        refine m_get hx hb hts hown hKv hM (fun _ h => List.mem_cons_of_mem _ (List.mem_append_right _ (h))) (lt_X1 pb0) (at_X1 pb0) rfl 7 (by decide) k0 (v := .ref (ad (b0 + 5))) rfl dX1_placeAt_64 ?_
        refine lv_iload_n hx hb dX1_placeAt_67 rfl (lv_at hl 2 rfl) ?_
        obtain ⟨x18, hx18, h⟩ := Option.bind_eq_some_iff.mp h
        refine m_iald hx hb hKv hM (lt_X1_5 pb0) (at_X1_5 pb0) 0 rfl hx18 dX1_placeAt_68 ?_
        exact m_iret hx hb hr hlocks hM (Option.some.inj h) rfl dX1_placeAt_69
      · replace h := (if_neg c17).symm.trans h
        refine lv_aload_n hx hb dX1_placeAt_54 rfl (lv_at hl 3 rfl) ?_
        refine lv_iload hx hb dX1_placeAt_55 (lv_at hl 0 rfl) ?_
        obtain ⟨x19, hx19, h⟩ := Option.bind_eq_some_iff.mp h
        refine m_callV (As := [.int x16]) (st1 := [.int x19]) hx hb (hml.trans hl.1.symm) hown hts hKv hXs hXk hM (kX1_isRoad l D cI ad hX0 b0 pb0 x16 M _ hx19) (cwV 1 hts gX1_placeAt_X1_isRoad rfl rfl rfl (by decide +kernel) ⟨Nat.le_of_ble_eq_true rfl, Nat.le_of_ble_eq_true rfl⟩) (lt_X1 pb0) (at_X1 pb0) rfl rfl rfl rfl (Nat.le_of_ble_eq_true rfl) dX1_placeAt_57 ⟨Nat.zero_le _, Nat.zero_le _⟩ (fun H locs hM => ?_)
        refine lv_if_ne (tgt := 70) hx hb dX1_placeAt_60 (by decide) (fun c20 => ?_) (fun c20 => ?_)
        · replace h := (if_neg c20).symm.trans h
          refine lv_aload_n hx hb dX1_placeAt_70 rfl (lv_at hl 3 rfl) ?_
          refine m_get hx hb hts hown hKv hM (fun _ h => List.mem_cons_of_mem _ (List.mem_append_right _ (h))) (lt_X1 pb0) (at_X1 pb0) rfl 3 (by decide) k1 (v := .ref (ad (b0 + 2))) rfl dX1_placeAt_71 ?_
          refine lv_iload hx hb dX1_placeAt_74 (lv_at hl 0 rfl) ?_
          obtain ⟨x21, hx21, h⟩ := Option.bind_eq_some_iff.mp h
          refine m_iald hx hb hKv hM (lt_X1_2 pb0) (at_X1_2 pb0) 0 rfl hx21 dX1_placeAt_76 ?_
          refine lv_aload_n hx hb dX1_placeAt_77 rfl (lv_at hl 3 rfl) ?_
          refine m_get hx hb hts hown hKv hM (fun _ h => List.mem_cons_of_mem _ (List.mem_append_right _ (h))) (lt_X1 pb0) (at_X1 pb0) rfl 7 (by decide) k0 (v := .ref (ad (b0 + 5))) rfl dX1_placeAt_78 ?_
          refine lv_iload_n hx hb dX1_placeAt_81 rfl (lv_at hl 2 rfl) ?_
          obtain ⟨x22, hx22, h⟩ := Option.bind_eq_some_iff.mp h
          refine m_iald hx hb hKv hM (lt_X1_5 pb0) (at_X1_5 pb0) 0 rfl hx22 dX1_placeAt_82 ?_
          refine lv_icmp_ne (tgt := 90) hx hb dX1_placeAt_83 (by decide) (fun c23 => ?_) (fun c23 => ?_)
          · replace h := (if_neg c23).symm.trans h
            refine lv_aload_n hx hb dX1_placeAt_90 rfl (lv_at hl 3 rfl) ?_
            refine m_get hx hb hts hown hKv hM (fun _ h => List.mem_cons_of_mem _ (List.mem_append_right _ (h))) (lt_X1 pb0) (at_X1 pb0) rfl 5 (by decide) k2 (v := .ref (ad (b0 + 4))) rfl dX1_placeAt_91 ?_
            refine lv_iload hx hb dX1_placeAt_94 (lv_at hl 0 rfl) ?_
            obtain ⟨x24, hx24, h⟩ := Option.bind_eq_some_iff.mp h
            refine m_iald hx hb hKv hM (lt_X1_4 pb0) (at_X1_4 pb0) 0 rfl hx24 dX1_placeAt_96 ?_
            refine lv_iload_n hx hb dX1_placeAt_97 rfl (lv_at hl 1 rfl) ?_
            refine lv_isub hx hb dX1_placeAt_98 ?_
            refine lv_istore (lv' := [(5, .int (x24 - (a1 - x4))), (4, .int x16), (3, .int (a1 - x4)), (2, .int x1), (0, .ref (ad b0)), (1, .int a1)]) hx hb dX1_placeAt_99 hl (by decide) rfl (fun ls hl => ?_)
            refine lv_bipush (v := (100 : Int32)) hx hb dX1_placeAt_101 (by decide) ?_
            refine lv_iload hx hb dX1_placeAt_103 (lv_at hl 1 rfl) ?_
            refine lv_iconst (v := (1 : Int32)) hx hb dX1_placeAt_105 (by decide) ?_
            refine lv_iadd hx hb dX1_placeAt_106 ?_
            refine lv_imul hx hb dX1_placeAt_107 ?_
            refine lv_iload hx hb dX1_placeAt_108 (lv_at hl 0 rfl) ?_
            refine lv_iadd hx hb dX1_placeAt_110 ?_
            exact m_iret hx hb hr hlocks hM (Option.some.inj h) rfl dX1_placeAt_111
          · replace h := (if_pos c23).symm.trans h
            refine lv_iload_n hx hb dX1_placeAt_86 rfl (lv_at hl 1 rfl) ?_
            refine lv_goto (tgt := 99) hx hb dX1_placeAt_87 (by decide) ?_
            refine lv_istore (lv' := [(5, .int (a1 - x4)), (4, .int x16), (3, .int (a1 - x4)), (2, .int x1), (0, .ref (ad b0)), (1, .int a1)]) hx hb dX1_placeAt_99 hl (by decide) rfl (fun ls hl => ?_)
            refine lv_bipush (v := (100 : Int32)) hx hb dX1_placeAt_101 (by decide) ?_
            refine lv_iload hx hb dX1_placeAt_103 (lv_at hl 1 rfl) ?_
            refine lv_iconst (v := (1 : Int32)) hx hb dX1_placeAt_105 (by decide) ?_
            refine lv_iadd hx hb dX1_placeAt_106 ?_
            refine lv_imul hx hb dX1_placeAt_107 ?_
            refine lv_iload hx hb dX1_placeAt_108 (lv_at hl 0 rfl) ?_
            refine lv_iadd hx hb dX1_placeAt_110 ?_
            exact m_iret hx hb hr hlocks hM (Option.some.inj h) rfl dX1_placeAt_111
        · replace h := (if_pos c20).symm.trans h
          refine lv_aload_n hx hb dX1_placeAt_63 rfl (lv_at hl 3 rfl) ?_
          refine m_get hx hb hts hown hKv hM (fun _ h => List.mem_cons_of_mem _ (List.mem_append_right _ (h))) (lt_X1 pb0) (at_X1 pb0) rfl 7 (by decide) k0 (v := .ref (ad (b0 + 5))) rfl dX1_placeAt_64 ?_
          refine lv_iload_n hx hb dX1_placeAt_67 rfl (lv_at hl 2 rfl) ?_
          obtain ⟨x25, hx25, h⟩ := Option.bind_eq_some_iff.mp h
          refine m_iald hx hb hKv hM (lt_X1_5 pb0) (at_X1_5 pb0) 0 rfl hx25 dX1_placeAt_68 ?_
          exact m_iret hx hb hr hlocks hM (Option.some.inj h) rfl dX1_placeAt_69
  · replace h := (if_pos c3).symm.trans h
    refine lv_bipush (v := (-9 : Int32)) hx hb dX1_placeAt_14 (by decide) ?_
    exact m_iret hx hb hr hlocks hM (Option.some.inj h) rfl dX1_placeAt_16
set_option maxHeartbeats 4000000 in
set_option maxRecDepth 100000 in
theorem kX1_townAt (l : Launch) (D : va_G) (cI : ClassId) (ad : Nat → Nat) {X : State → Prop} {aS : Nat → Nat} (hX0 : cX D ad aS X) (b0 : Nat) (pb0 : isL b0) (a1 : Int32) (M : Mem) (res : Int32) (h : fX1_townAt b0 a1 M = some res) : mC l yX1_townAt wsX1_townAt { frames := 3, cells := 0, slots := 0, locals := 67 } D [(cI, .int)] ad 40 X [.ref (ad b0), .int a1] (Ec ad cI M) (some (.int res)) (Ec ad cI M) := by
  refine m_ofW (cc := cX1_townAt) (maxL := 3) (ret := (some .int)) (by decide) rfl (Nat.le_of_ble_eq_true rfl) ?_
  intro p e s m args below meth c hx hb hml hr hlocks hts hown hKv hXs ls hl hM
  have hXk := hX0.1
  have Z : mZ p s m args meth c cX1_townAt 3 (some .int) wsX1_townAt RX1 D [(cI, .int)] X := ⟨hx, hb, hml, hr, hlocks, hts, hown, hKv, hXs⟩
  replace hown : s.vm.findClass RX1 = some m.cls := hown
  have hl : lv_has ls 3 [(0, .ref (ad b0)), (1, .int a1)] := hl
  unfold fX1_townAt at h
  refine lv_aload_n hx hb dX1_townAt_0 rfl (lv_at hl 0 rfl) ?_
  refine lv_iload_n hx hb dX1_townAt_1 rfl (lv_at hl 1 rfl) ?_
  obtain ⟨x1, hx1, h⟩ := Option.bind_eq_some_iff.mp h
  refine m_callV (As := [.int a1]) (st1 := [.int x1]) hx hb (hml.trans hl.1.symm) hown hts hKv hXs hXk hM (kX1_placeAt l D cI ad hX0 b0 pb0 a1 M _ hx1) (cwV 1 hts gX1_townAt_X1_placeAt rfl rfl rfl (by decide +kernel) ⟨Nat.le_of_ble_eq_true rfl, Nat.le_of_ble_eq_true rfl⟩) (lt_X1 pb0) (at_X1 pb0) rfl rfl rfl rfl (Nat.le_of_ble_eq_true rfl) dX1_townAt_2 ⟨Nat.zero_le _, Nat.zero_le _⟩ (fun H locs hM => ?_)
  refine lv_istore_n (lv' := [(2, .int x1), (0, .ref (ad b0)), (1, .int a1)]) hx hb dX1_townAt_5 rfl hl (by decide) rfl (fun ls hl => ?_)
  refine lv_iload_n hx hb dX1_townAt_6 rfl (lv_at hl 0 rfl) ?_
  refine lv_bipush (v := (100 : Int32)) hx hb dX1_townAt_7 (by decide) ?_
  refine lv_icmp_ge (tgt := 16) hx hb dX1_townAt_9 (by decide) (fun c2 => ?_) (fun c2 => ?_)
  · replace h := (if_pos c2).symm.trans h
    refine lv_bipush (v := (-9 : Int32)) hx hb dX1_townAt_16 (by decide) ?_
    exact m_iret hx hb hr hlocks hM (Option.some.inj h) rfl dX1_townAt_18
  · replace h := (if_neg c2).symm.trans h
    refine lv_iload_n hx hb dX1_townAt_12 rfl (lv_at hl 0 rfl) ?_
    refine lv_goto (tgt := 18) hx hb dX1_townAt_13 (by decide) ?_
    exact m_iret hx hb hr hlocks hM (Option.some.inj h) rfl dX1_townAt_18
set_option maxHeartbeats 4000000 in
set_option maxRecDepth 100000 in
theorem kX1_roadAt (l : Launch) (D : va_G) (cI : ClassId) (ad : Nat → Nat) {X : State → Prop} {aS : Nat → Nat} (hX0 : cX D ad aS X) (b0 : Nat) (pb0 : isL b0) (a1 : Int32) (M : Mem) (res : Int32) (h : fX1_roadAt b0 a1 M = some res) : mC l yX1_roadAt wsX1_roadAt { frames := 3, cells := 0, slots := 0, locals := 67 } D [(cI, .int)] ad 40 X [.ref (ad b0), .int a1] (Ec ad cI M) (some (.int res)) (Ec ad cI M) := by
  refine m_ofW (cc := cX1_roadAt) (maxL := 3) (ret := (some .int)) (by decide) rfl (Nat.le_of_ble_eq_true rfl) ?_
  intro p e s m args below meth c hx hb hml hr hlocks hts hown hKv hXs ls hl hM
  have hXk := hX0.1
  have Z : mZ p s m args meth c cX1_roadAt 3 (some .int) wsX1_roadAt RX1 D [(cI, .int)] X := ⟨hx, hb, hml, hr, hlocks, hts, hown, hKv, hXs⟩
  replace hown : s.vm.findClass RX1 = some m.cls := hown
  have hl : lv_has ls 3 [(0, .ref (ad b0)), (1, .int a1)] := hl
  unfold fX1_roadAt at h
  refine lv_aload_n hx hb dX1_roadAt_0 rfl (lv_at hl 0 rfl) ?_
  refine lv_iload_n hx hb dX1_roadAt_1 rfl (lv_at hl 1 rfl) ?_
  obtain ⟨x1, hx1, h⟩ := Option.bind_eq_some_iff.mp h
  refine m_callV (As := [.int a1]) (st1 := [.int x1]) hx hb (hml.trans hl.1.symm) hown hts hKv hXs hXk hM (kX1_placeAt l D cI ad hX0 b0 pb0 a1 M _ hx1) (cwV 1 hts gX1_roadAt_X1_placeAt rfl rfl rfl (by decide +kernel) ⟨Nat.le_of_ble_eq_true rfl, Nat.le_of_ble_eq_true rfl⟩) (lt_X1 pb0) (at_X1 pb0) rfl rfl rfl rfl (Nat.le_of_ble_eq_true rfl) dX1_roadAt_2 ⟨Nat.zero_le _, Nat.zero_le _⟩ (fun H locs hM => ?_)
  refine lv_istore_n (lv' := [(2, .int x1), (0, .ref (ad b0)), (1, .int a1)]) hx hb dX1_roadAt_5 rfl hl (by decide) rfl (fun ls hl => ?_)
  refine lv_iload_n hx hb dX1_roadAt_6 rfl (lv_at hl 0 rfl) ?_
  refine lv_bipush (v := (100 : Int32)) hx hb dX1_roadAt_7 (by decide) ?_
  refine lv_icmp_ge (tgt := 17) hx hb dX1_roadAt_9 (by decide) (fun c2 => ?_) (fun c2 => ?_)
  · replace h := (if_pos c2).symm.trans h
    refine lv_iload_n hx hb dX1_roadAt_17 rfl (lv_at hl 0 rfl) ?_
    refine lv_bipush (v := (100 : Int32)) hx hb dX1_roadAt_18 (by decide) ?_
    obtain ⟨x3, hx3, h⟩ := Option.bind_eq_some_iff.mp h
    refine m_idiv hx hb hx3 dX1_roadAt_20 ?_
    refine lv_iconst (v := (1 : Int32)) hx hb dX1_roadAt_21 (by decide) ?_
    refine lv_isub hx hb dX1_roadAt_22 ?_
    exact m_iret hx hb hr hlocks hM (Option.some.inj h) rfl dX1_roadAt_23
  · replace h := (if_neg c2).symm.trans h
    refine lv_bipush (v := (-9 : Int32)) hx hb dX1_roadAt_12 (by decide) ?_
    refine lv_goto (tgt := 23) hx hb dX1_roadAt_14 (by decide) ?_
    exact m_iret hx hb hr hlocks hM (Option.some.inj h) rfl dX1_roadAt_23
set_option maxHeartbeats 4000000 in
set_option maxRecDepth 100000 in
theorem kX1_goneAt (l : Launch) (D : va_G) (cI : ClassId) (ad : Nat → Nat) {X : State → Prop} {aS : Nat → Nat} (hX0 : cX D ad aS X) (b0 : Nat) (pb0 : isL b0) (a1 : Int32) (M : Mem) (res : Int32) (h : fX1_goneAt b0 a1 M = some res) : mC l yX1_goneAt wsX1_goneAt { frames := 3, cells := 0, slots := 0, locals := 67 } D [(cI, .int)] ad 40 X [.ref (ad b0), .int a1] (Ec ad cI M) (some (.int res)) (Ec ad cI M) := by
  refine m_ofW (cc := cX1_goneAt) (maxL := 2) (ret := (some .int)) (by decide) rfl (Nat.le_of_ble_eq_true rfl) ?_
  intro p e s m args below meth c hx hb hml hr hlocks hts hown hKv hXs ls hl hM
  have hXk := hX0.1
  have Z : mZ p s m args meth c cX1_goneAt 2 (some .int) wsX1_goneAt RX1 D [(cI, .int)] X := ⟨hx, hb, hml, hr, hlocks, hts, hown, hKv, hXs⟩
  replace hown : s.vm.findClass RX1 = some m.cls := hown
  have hl : lv_has ls 2 [(0, .ref (ad b0)), (1, .int a1)] := hl
  unfold fX1_goneAt at h
  refine lv_aload_n hx hb dX1_goneAt_0 rfl (lv_at hl 0 rfl) ?_
  refine lv_iload_n hx hb dX1_goneAt_1 rfl (lv_at hl 1 rfl) ?_
  obtain ⟨x1, hx1, h⟩ := Option.bind_eq_some_iff.mp h
  refine m_callV (As := [.int a1]) (st1 := [.int x1]) hx hb (hml.trans hl.1.symm) hown hts hKv hXs hXk hM (kX1_placeAt l D cI ad hX0 b0 pb0 a1 M _ hx1) (cwV 1 hts gX1_goneAt_X1_placeAt rfl rfl rfl (by decide +kernel) ⟨Nat.le_of_ble_eq_true rfl, Nat.le_of_ble_eq_true rfl⟩) (lt_X1 pb0) (at_X1 pb0) rfl rfl rfl rfl (Nat.le_of_ble_eq_true rfl) dX1_goneAt_2 ⟨Nat.zero_le _, Nat.zero_le _⟩ (fun H locs hM => ?_)
  refine lv_bipush (v := (100 : Int32)) hx hb dX1_goneAt_5 (by decide) ?_
  refine lv_icmp_ge (tgt := 14) hx hb dX1_goneAt_7 (by decide) (fun c2 => ?_) (fun c2 => ?_)
  · replace h := (if_pos c2).symm.trans h
    refine lv_iload_n hx hb dX1_goneAt_14 rfl (lv_at hl 1 rfl) ?_
    refine lv_aload_n hx hb dX1_goneAt_15 rfl (lv_at hl 0 rfl) ?_
    refine lv_aload_n hx hb dX1_goneAt_16 rfl (lv_at hl 0 rfl) ?_
    refine lv_iload_n hx hb dX1_goneAt_17 rfl (lv_at hl 1 rfl) ?_
    obtain ⟨x3, hx3, h⟩ := Option.bind_eq_some_iff.mp h
    refine m_callV (As := [.int a1]) (st1 := [.int x3, .ref (ad b0), .int a1]) hx hb (hml.trans hl.1.symm) hown hts hKv hXs hXk hM (kX1_lastCome l D cI ad hX0 b0 pb0 a1 M _ hx3) (cwV 1 hts gX1_goneAt_X1_lastCome rfl rfl rfl (by decide +kernel) ⟨Nat.le_of_ble_eq_true rfl, Nat.le_of_ble_eq_true rfl⟩) (lt_X1 pb0) (at_X1 pb0) rfl rfl rfl rfl (Nat.le_of_ble_eq_true rfl) dX1_goneAt_18 ⟨Nat.zero_le _, Nat.zero_le _⟩ (fun H locs hM => ?_)
    obtain ⟨x4, hx4, h⟩ := Option.bind_eq_some_iff.mp h
    refine m_callV (As := [.int x3]) (st1 := [.int x4, .int a1]) hx hb (hml.trans hl.1.symm) hown hts hKv hXs hXk hM (kX1_leaves l D cI ad hX0 b0 pb0 x3 M _ hx4) (cwV 1 hts gX1_goneAt_X1_leaves rfl rfl rfl (by decide +kernel) ⟨Nat.le_of_ble_eq_true rfl, Nat.le_of_ble_eq_true rfl⟩) (lt_X1 pb0) (at_X1 pb0) rfl rfl rfl rfl (Nat.le_of_ble_eq_true rfl) dX1_goneAt_21 ⟨Nat.zero_le _, Nat.zero_le _⟩ (fun H locs hM => ?_)
    refine lv_isub hx hb dX1_goneAt_24 ?_
    exact m_iret hx hb hr hlocks hM (Option.some.inj h) rfl dX1_goneAt_25
  · replace h := (if_neg c2).symm.trans h
    refine lv_iconst (v := (0 : Int32)) hx hb dX1_goneAt_10 (by decide) ?_
    refine lv_goto (tgt := 25) hx hb dX1_goneAt_11 (by decide) ?_
    exact m_iret hx hb hr hlocks hM (Option.some.inj h) rfl dX1_goneAt_25
set_option maxHeartbeats 4000000 in
set_option maxRecDepth 100000 in
theorem kX1_distanceAt (l : Launch) (D : va_G) (cI : ClassId) (ad : Nat → Nat) {X : State → Prop} {aS : Nat → Nat} (hX0 : cX D ad aS X) (b0 : Nat) (pb0 : isL b0) (a1 : Int32) (a2 : Int32) (M : Mem) (res : Int32) (h : fX1_distanceAt b0 a1 a2 M = some res) : mC l yX1_distanceAt wsX1_distanceAt { frames := 3, cells := 0, slots := 0, locals := 69 } D [(cI, .int)] ad 40 X [.ref (ad b0), .int a1, .int a2] (Ec ad cI M) (some (.int res)) (Ec ad cI M) := by
  refine m_ofW (cc := cX1_distanceAt) (maxL := 3) (ret := (some .int)) (by decide) rfl (Nat.le_of_ble_eq_true rfl) ?_
  intro p e s m args below meth c hx hb hml hr hlocks hts hown hKv hXs ls hl hM
  have hXk := hX0.1
  have Z : mZ p s m args meth c cX1_distanceAt 3 (some .int) wsX1_distanceAt RX1 D [(cI, .int)] X := ⟨hx, hb, hml, hr, hlocks, hts, hown, hKv, hXs⟩
  replace hown : s.vm.findClass RX1 = some m.cls := hown
  have hl : lv_has ls 3 [(0, .ref (ad b0)), (1, .int a1), (2, .int a2)] := hl
  unfold fX1_distanceAt at h
  refine lv_aload_n hx hb dX1_distanceAt_0 rfl (lv_at hl 0 rfl) ?_
  refine lv_aload_n hx hb dX1_distanceAt_1 rfl (lv_at hl 0 rfl) ?_
  refine lv_iload_n hx hb dX1_distanceAt_2 rfl (lv_at hl 2 rfl) ?_
  obtain ⟨x1, hx1, h⟩ := Option.bind_eq_some_iff.mp h
  refine m_callV (As := [.int a2]) (st1 := [.int x1, .ref (ad b0)]) hx hb (hml.trans hl.1.symm) hown hts hKv hXs hXk hM (kX1_placeAt l D cI ad hX0 b0 pb0 a2 M _ hx1) (cwV 1 hts gX1_distanceAt_X1_placeAt rfl rfl rfl (by decide +kernel) ⟨Nat.le_of_ble_eq_true rfl, Nat.le_of_ble_eq_true rfl⟩) (lt_X1 pb0) (at_X1 pb0) rfl rfl rfl rfl (Nat.le_of_ble_eq_true rfl) dX1_distanceAt_3 ⟨Nat.zero_le _, Nat.zero_le _⟩ (fun H locs hM => ?_)
  refine lv_iload_n hx hb dX1_distanceAt_6 rfl (lv_at hl 1 rfl) ?_
  obtain ⟨x2, hx2, h⟩ := Option.bind_eq_some_iff.mp h
  refine m_callV (As := [.int x1, .int a1]) (st1 := [.int x2]) hx hb (hml.trans hl.1.symm) hown hts hKv hXs hXk hM (kX1_distanceFromPlace l D cI ad hX0 b0 pb0 x1 a1 M _ hx2) (cwV 2 hts gX1_distanceAt_X1_distanceFromPlace rfl rfl rfl (by decide +kernel) ⟨Nat.le_of_ble_eq_true rfl, Nat.le_of_ble_eq_true rfl⟩) (lt_X1 pb0) (at_X1 pb0) rfl rfl rfl rfl (Nat.le_of_ble_eq_true rfl) dX1_distanceAt_7 ⟨Nat.zero_le _, Nat.zero_le _⟩ (fun H locs hM => ?_)
  exact m_iret hx hb hr hlocks hM (Option.some.inj h) rfl dX1_distanceAt_10
set_option maxHeartbeats 4000000 in
set_option maxRecDepth 100000 in
theorem kX4_clockFor (l : Launch) (D : va_G) (cI : ClassId) (ad : Nat → Nat) {X : State → Prop} {aS : Nat → Nat} (hX0 : cX D ad aS X) (a0 : Int32) (M : Mem) (res : Int32) (h : fX4_clockFor a0 = some res) : mC l yX4_clockFor wsX4_clockFor { frames := 0, cells := 0, slots := 0, locals := 0 } D [(cI, .int)] ad 40 X [.int a0] (Ec ad cI M) (some (.int res)) (Ec ad cI M) := by
  refine m_ofW (cc := cX4_clockFor) (maxL := 1) (ret := (some .int)) (by decide) rfl (Nat.le_of_ble_eq_true rfl) ?_
  intro p e s m args below meth c hx hb hml hr hlocks hts hown hKv hXs ls hl hM
  have hXk := hX0.1
  have Z : mZ p s m args meth c cX4_clockFor 1 (some .int) wsX4_clockFor RX4 D [(cI, .int)] X := ⟨hx, hb, hml, hr, hlocks, hts, hown, hKv, hXs⟩
  replace hown : s.vm.findClass RX4 = some m.cls := hown
  have hl : lv_has ls 1 [(0, .int a0)] := hl
  unfold fX4_clockFor at h
  refine lv_iload_n hx hb dX4_clockFor_0 rfl (lv_at hl 0 rfl) ?_
  refine lv_bipush (v := (-9 : Int32)) hx hb dX4_clockFor_1 (by decide) ?_
  refine lv_icmp_ne (tgt := 11) hx hb dX4_clockFor_3 (by decide) (fun c1 => ?_) (fun c1 => ?_)
  · replace h := (if_neg c1).symm.trans h
    refine lv_bipush (v := (12 : Int32)) hx hb dX4_clockFor_11 (by decide) ?_
    refine lv_iload_n hx hb dX4_clockFor_13 rfl (lv_at hl 0 rfl) ?_
    refine lv_iadd hx hb dX4_clockFor_14 ?_
    refine lv_bipush (v := (24 : Int32)) hx hb dX4_clockFor_15 (by decide) ?_
    obtain ⟨x2, hx2, h⟩ := Option.bind_eq_some_iff.mp h
    refine m_irem hx hb hx2 dX4_clockFor_17 ?_
    exact m_iret hx hb hr hlocks hM (Option.some.inj h) rfl dX4_clockFor_18
  · replace h := (if_pos c1).symm.trans h
    refine lv_bipush (v := (-9 : Int32)) hx hb dX4_clockFor_6 (by decide) ?_
    refine lv_goto (tgt := 18) hx hb dX4_clockFor_8 (by decide) ?_
    exact m_iret hx hb hr hlocks hM (Option.some.inj h) rfl dX4_clockFor_18
set_option maxHeartbeats 4000000 in
set_option maxRecDepth 100000 in
theorem kX1_clockAt (l : Launch) (D : va_G) (cI : ClassId) (ad : Nat → Nat) {X : State → Prop} {aS : Nat → Nat} (hX0 : cX D ad aS X) (b0 : Nat) (pb0 : isL b0) (a1 : Int32) (a2 : Int32) (M : Mem) (res : Int32) (h : fX1_clockAt b0 a1 a2 M = some res) : mC l yX1_clockAt wsX1_clockAt { frames := 4, cells := 0, slots := 0, locals := 91 } D [(cI, .int)] ad 40 X [.ref (ad b0), .int a1, .int a2] (Ec ad cI M) (some (.int res)) (Ec ad cI M) := by
  refine m_ofW (cc := cX1_clockAt) (maxL := 3) (ret := (some .int)) (by decide) rfl (Nat.le_of_ble_eq_true rfl) ?_
  intro p e s m args below meth c hx hb hml hr hlocks hts hown hKv hXs ls hl hM
  have hXk := hX0.1
  have Z : mZ p s m args meth c cX1_clockAt 3 (some .int) wsX1_clockAt RX1 D [(cI, .int)] X := ⟨hx, hb, hml, hr, hlocks, hts, hown, hKv, hXs⟩
  replace hown : s.vm.findClass RX1 = some m.cls := hown
  have hl : lv_has ls 3 [(0, .ref (ad b0)), (1, .int a1), (2, .int a2)] := hl
  have k0 := hts (Cond.initialized RX4) (List.mem_of_getElem? (i := 54) rfl)
  have k1 := hts (Cond.static yX4_clockFor) (List.mem_of_getElem? (i := 53) rfl)
  unfold fX1_clockAt at h
  refine lv_aload_n hx hb dX1_clockAt_0 rfl (lv_at hl 0 rfl) ?_
  refine lv_iload_n hx hb dX1_clockAt_1 rfl (lv_at hl 1 rfl) ?_
  refine lv_iload_n hx hb dX1_clockAt_2 rfl (lv_at hl 2 rfl) ?_
  obtain ⟨x1, hx1, h⟩ := Option.bind_eq_some_iff.mp h
  refine m_callV (As := [.int a1, .int a2]) (st1 := [.int x1]) hx hb (hml.trans hl.1.symm) hown hts hKv hXs hXk hM (kX1_distanceAt l D cI ad hX0 b0 pb0 a1 a2 M _ hx1) (cwV 2 hts gX1_clockAt_X1_distanceAt rfl rfl rfl (by decide +kernel) ⟨Nat.le_of_ble_eq_true rfl, Nat.le_of_ble_eq_true rfl⟩) (lt_X1 pb0) (at_X1 pb0) rfl rfl rfl rfl (Nat.le_of_ble_eq_true rfl) dX1_clockAt_3 ⟨Nat.zero_le _, Nat.zero_le _⟩ (fun H locs hM => ?_)
  obtain ⟨x2, hx2, h⟩ := Option.bind_eq_some_iff.mp h
  refine m_callSN (As := [.int x1]) (st1 := [.int x2]) hx hb (hml.trans hl.1.symm) hown hts hKv hXs hXk hM (kX4_clockFor l D cI ad hX0 x1 M _ hx2) ⟨va_cnB 1 hts gX1_clockAt_X4_clockFor_n107 rfl rfl rfl (hX0.2.1 s hXs) k0 (by decide +kernel) ⟨Nat.le_of_ble_eq_true rfl, Nat.le_of_ble_eq_true rfl⟩, k1, trivial⟩ rfl rfl rfl (Nat.le_of_ble_eq_true rfl) dX1_clockAt_6 ⟨Nat.zero_le _, Nat.zero_le _⟩ (fun H locs hM => ?_)
  exact m_iret hx hb hr hlocks hM (Option.some.inj h) rfl dX1_clockAt_9
set_option maxHeartbeats 4000000 in
set_option maxRecDepth 100000 in
theorem wX1_midnightsOf_25 {p : Program} {l : Launch} {e : Env} {s : State} {m : MethodId} {args : Array Value} {below : List Frame} {meth : Method} {c : Code} {D : va_G} {cI : ClassId} {ad : Nat → Nat} {X : State → Prop} (Z : mZ p s m args meth c cX1_midnightsOf 8 (some .int) wsX1_midnightsOf RX1 D [(cI, .int)] X) {aS : Nat → Nat} (hX0 : cX D ad aS X) (b0 : Nat) (pb0 : isL b0)  (u1 : Int32) (u3 : Int32) (M : Mem) {K : Int32 → Option Int32} (res : Int32) (hKc : ∀ (y4 : Int32), K y4 = some res → ∀ (H : Heap) (locs : List Loc) (ls : Array Slot), lv_has ls 8 [(4, .int y4)] → mH D ad 40 (Ec ad cI M) s.heap H locs → W p l e { frames := 5, cells := 0, slots := 0, locals := 113 } s m args below meth c H locs 0 0 (MQ below (mQ D ad 40 (some (.int res)) (Ec ad cI M)) args s 0 0 (mA ad 40)) (F0 m 63 ls [])) :
    ∀ (n : Nat) (v4 : Int32) (v5 : Int32) (v6 : Int32), fX1_midnightsOf_25 b0 u1 u3 M K n v4 v5 v6 = some res → ∀ (H : Heap) (locs : List Loc) (ls : Array Slot), lv_has ls 8 [(0, .ref (ad b0)), (1, .int u1), (3, .int u3), (4, .int v4), (5, .int v5), (6, .int v6)] → mH D ad 40 (Ec ad cI M) s.heap H locs → W p l e { frames := 5, cells := 0, slots := 0, locals := 113 } s m args below meth c H locs 0 0 (MQ below (mQ D ad 40 (some (.int res)) (Ec ad cI M)) args s 0 0 (mA ad 40)) (F0 m 25 ls []) := by
  obtain ⟨hx, hb, hml, hr, hlocks, hts, hown, hKv, hXs⟩ := id Z
  have hXk := hX0.1
  intro n
  induction n with
  | zero => intro _ _ _ h; exact absurd h (by unfold fX1_midnightsOf_25; exact fun h => by cases h)
  | succ n ih =>
    intro v4 v5 v6 h H locs ls hl hM
    rw [fX1_midnightsOf_25] at h
    refine lv_iload hx hb dX1_midnightsOf_25 (lv_at hl 5 rfl) ?_
    refine lv_iload_n hx hb dX1_midnightsOf_27 rfl (lv_at hl 2 rfl) ?_
    refine lv_icmp_ge (tgt := 63) hx hb dX1_midnightsOf_28 (by decide) (fun c1 => ?_) (fun c1 => ?_)
    · replace h := (if_pos c1).symm.trans h
      exact hKc _ h _ _ _ (lv_sub hl [3] rfl) hM
    · replace h := (if_neg c1).symm.trans h
      refine lv_aload_n hx hb dX1_midnightsOf_31 rfl (lv_at hl 0 rfl) ?_
      refine lv_iload_n hx hb dX1_midnightsOf_32 rfl (lv_at hl 1 rfl) ?_
      refine lv_iload hx hb dX1_midnightsOf_33 (lv_at hl 5 rfl) ?_
      obtain ⟨x2, hx2, h⟩ := Option.bind_eq_some_iff.mp h
      refine m_callV (As := [.int u1, .int v6]) (st1 := [.int x2]) hx hb (hml.trans hl.1.symm) hown hts hKv hXs hXk hM (kX1_clockAt l D cI ad hX0 b0 pb0 u1 v6 M _ hx2) (cwV 2 hts gX1_midnightsOf_X1_clockAt rfl rfl rfl (by decide +kernel) ⟨Nat.le_of_ble_eq_true rfl, Nat.le_of_ble_eq_true rfl⟩) (lt_X1 pb0) (at_X1 pb0) rfl rfl rfl rfl (Nat.le_of_ble_eq_true rfl) dX1_midnightsOf_35 ⟨Nat.zero_le _, Nat.zero_le _⟩ (fun H locs hM => ?_)
      refine lv_istore (lv' := [(7, .int x2), (0, .ref (ad b0)), (1, .int u1), (3, .int u3), (4, .int v4), (5, .int v5), (6, .int v6)]) hx hb dX1_midnightsOf_38 hl (by decide) rfl (fun ls hl => ?_)
      refine lv_iload hx hb dX1_midnightsOf_40 (lv_at hl 0 rfl) ?_
      refine lv_if_ne (tgt := 53) hx hb dX1_midnightsOf_42 (by decide) (fun c3 => ?_) (fun c3 => ?_)
      · replace h := (if_neg c3).symm.trans h
        refine lv_iload hx hb dX1_midnightsOf_53 (lv_at hl 0 rfl) ?_
        refine lv_istore (lv' := [(5, .int x2), (7, .int x2), (0, .ref (ad b0)), (1, .int u1), (3, .int u3), (4, .int v4), (6, .int v6)]) hx hb dX1_midnightsOf_55 hl (by decide) rfl (fun ls hl => ?_)
        refine lv_iinc (v := (v6 + 1)) (lv' := [(6, .int (v6 + 1)), (5, .int x2), (7, .int x2), (0, .ref (ad b0)), (1, .int u1), (3, .int u3), (4, .int v4)]) hx hb dX1_midnightsOf_57 hl (k := 6) rfl rfl (by decide) rfl (fun ls hl => ?_)
        refine lv_goto (tgt := 25) hx hb dX1_midnightsOf_60 (by decide) ?_
        exact ih _ _ _ h _ _ _ (lv_sub hl [3, 4, 5, 6, 1, 0] rfl) hM
      · replace h := (if_pos c3).symm.trans h
        refine lv_iload hx hb dX1_midnightsOf_45 (lv_at hl 5 rfl) ?_
        refine lv_if_eq (tgt := 53) hx hb dX1_midnightsOf_47 (by decide) (fun c4 => ?_) (fun c4 => ?_)
        · replace h := (if_pos c4).symm.trans h
          refine lv_iload hx hb dX1_midnightsOf_53 (lv_at hl 0 rfl) ?_
          refine lv_istore (lv' := [(5, .int x2), (7, .int x2), (0, .ref (ad b0)), (1, .int u1), (3, .int u3), (4, .int v4), (6, .int v6)]) hx hb dX1_midnightsOf_55 hl (by decide) rfl (fun ls hl => ?_)
          refine lv_iinc (v := (v6 + 1)) (lv' := [(6, .int (v6 + 1)), (5, .int x2), (7, .int x2), (0, .ref (ad b0)), (1, .int u1), (3, .int u3), (4, .int v4)]) hx hb dX1_midnightsOf_57 hl (k := 6) rfl rfl (by decide) rfl (fun ls hl => ?_)
          refine lv_goto (tgt := 25) hx hb dX1_midnightsOf_60 (by decide) ?_
          exact ih _ _ _ h _ _ _ (lv_sub hl [3, 4, 5, 6, 1, 0] rfl) hM
        · replace h := (if_neg c4).symm.trans h
          refine lv_iinc (v := (v4 + 1)) (lv' := [(4, .int (v4 + 1)), (7, .int x2), (0, .ref (ad b0)), (1, .int u1), (3, .int u3), (5, .int v5), (6, .int v6)]) hx hb dX1_midnightsOf_50 hl (k := 4) rfl rfl (by decide) rfl (fun ls hl => ?_)
          refine lv_iload hx hb dX1_midnightsOf_53 (lv_at hl 1 rfl) ?_
          refine lv_istore (lv' := [(5, .int x2), (4, .int (v4 + 1)), (7, .int x2), (0, .ref (ad b0)), (1, .int u1), (3, .int u3), (6, .int v6)]) hx hb dX1_midnightsOf_55 hl (by decide) rfl (fun ls hl => ?_)
          refine lv_iinc (v := (v6 + 1)) (lv' := [(6, .int (v6 + 1)), (5, .int x2), (4, .int (v4 + 1)), (7, .int x2), (0, .ref (ad b0)), (1, .int u1), (3, .int u3)]) hx hb dX1_midnightsOf_57 hl (k := 6) rfl rfl (by decide) rfl (fun ls hl => ?_)
          refine lv_goto (tgt := 25) hx hb dX1_midnightsOf_60 (by decide) ?_
          exact ih _ _ _ h _ _ _ (lv_sub hl [4, 5, 6, 2, 1, 0] rfl) hM
set_option maxHeartbeats 4000000 in
set_option maxRecDepth 100000 in
theorem kX1_midnightsOf (l : Launch) (D : va_G) (cI : ClassId) (ad : Nat → Nat) {X : State → Prop} {aS : Nat → Nat} (hX0 : cX D ad aS X) (b0 : Nat) (pb0 : isL b0) (a1 : Int32) (a2 : Int32) (a3 : Int32) (M : Mem) (res : Int32) (h : fX1_midnightsOf b0 a1 a2 a3 M = some res) : mC l yX1_midnightsOf wsX1_midnightsOf { frames := 5, cells := 0, slots := 0, locals := 113 } D [(cI, .int)] ad 40 X [.ref (ad b0), .int a1, .int a2, .int a3] (Ec ad cI M) (some (.int res)) (Ec ad cI M) := by
  refine m_ofW (cc := cX1_midnightsOf) (maxL := 8) (ret := (some .int)) (by decide) rfl (Nat.le_of_ble_eq_true rfl) ?_
  intro p e s m args below meth c hx hb hml hr hlocks hts hown hKv hXs ls hl hM
  have hXk := hX0.1
  have Z : mZ p s m args meth c cX1_midnightsOf 8 (some .int) wsX1_midnightsOf RX1 D [(cI, .int)] X := ⟨hx, hb, hml, hr, hlocks, hts, hown, hKv, hXs⟩
  replace hown : s.vm.findClass RX1 = some m.cls := hown
  have hl : lv_has ls 8 [(0, .ref (ad b0)), (1, .int a1), (2, .int a2), (3, .int a3)] := hl
  unfold fX1_midnightsOf at h
  refine lv_iconst (v := (0 : Int32)) hx hb dX1_midnightsOf_0 (by decide) ?_
  refine lv_istore (lv' := [(4, .int (0 : Int32)), (0, .ref (ad b0)), (1, .int a1), (2, .int a2), (3, .int a3)]) hx hb dX1_midnightsOf_1 hl (by decide) rfl (fun ls hl => ?_)
  refine lv_iload_n hx hb dX1_midnightsOf_3 rfl (lv_at hl 3 rfl) ?_
  refine lv_if_le (tgt := 18) hx hb dX1_midnightsOf_4 (by decide) (fun c1 => ?_) (fun c1 => ?_)
  · replace h := (if_pos c1).symm.trans h
    refine lv_bipush (v := (-9 : Int32)) hx hb dX1_midnightsOf_18 (by decide) ?_
    refine lv_istore (lv' := [(5, .int (-9 : Int32)), (4, .int (0 : Int32)), (0, .ref (ad b0)), (1, .int a1), (2, .int a2), (3, .int a3)]) hx hb dX1_midnightsOf_20 hl (by decide) rfl (fun ls hl => ?_)
    refine lv_iload_n hx hb dX1_midnightsOf_22 rfl (lv_at hl 4 rfl) ?_
    refine lv_istore (lv' := [(6, .int a2), (5, .int (-9 : Int32)), (4, .int (0 : Int32)), (0, .ref (ad b0)), (1, .int a1), (2, .int a2), (3, .int a3)]) hx hb dX1_midnightsOf_23 hl (by decide) rfl (fun ls hl => ?_)
    refine wX1_midnightsOf_25 Z hX0 b0 pb0 a1 a3 M _ (fun y2 h H locs ls hl hM => ?_) _ _ _ _ h _ _ _ (lv_sub hl [3, 4, 6, 2, 1, 0] rfl) hM
    refine lv_iload hx hb dX1_midnightsOf_63 (lv_at hl 0 rfl) ?_
    exact m_iret hx hb hr hlocks hM (Option.some.inj h) rfl dX1_midnightsOf_65
  · replace h := (if_neg c1).symm.trans h
    refine lv_aload_n hx hb dX1_midnightsOf_7 rfl (lv_at hl 1 rfl) ?_
    refine lv_iload_n hx hb dX1_midnightsOf_8 rfl (lv_at hl 2 rfl) ?_
    refine lv_iload_n hx hb dX1_midnightsOf_9 rfl (lv_at hl 3 rfl) ?_
    refine lv_iconst (v := (1 : Int32)) hx hb dX1_midnightsOf_10 (by decide) ?_
    refine lv_isub hx hb dX1_midnightsOf_11 ?_
    obtain ⟨x3, hx3, h⟩ := Option.bind_eq_some_iff.mp h
    refine m_callV (As := [.int a1, .int (a2 - (1 : Int32))]) (st1 := [.int x3]) hx hb (hml.trans hl.1.symm) hown hts hKv hXs hXk hM (kX1_clockAt l D cI ad hX0 b0 pb0 a1 (a2 - (1 : Int32)) M _ hx3) (cwV 2 hts gX1_midnightsOf_X1_clockAt rfl rfl rfl (by decide +kernel) ⟨Nat.le_of_ble_eq_true rfl, Nat.le_of_ble_eq_true rfl⟩) (lt_X1 pb0) (at_X1 pb0) rfl rfl rfl rfl (Nat.le_of_ble_eq_true rfl) dX1_midnightsOf_12 ⟨Nat.zero_le _, Nat.zero_le _⟩ (fun H locs hM => ?_)
    refine lv_goto (tgt := 20) hx hb dX1_midnightsOf_15 (by decide) ?_
    refine lv_istore (lv' := [(5, .int x3), (4, .int (0 : Int32)), (0, .ref (ad b0)), (1, .int a1), (2, .int a2), (3, .int a3)]) hx hb dX1_midnightsOf_20 hl (by decide) rfl (fun ls hl => ?_)
    refine lv_iload_n hx hb dX1_midnightsOf_22 rfl (lv_at hl 4 rfl) ?_
    refine lv_istore (lv' := [(6, .int a2), (5, .int x3), (4, .int (0 : Int32)), (0, .ref (ad b0)), (1, .int a1), (2, .int a2), (3, .int a3)]) hx hb dX1_midnightsOf_23 hl (by decide) rfl (fun ls hl => ?_)
    refine wX1_midnightsOf_25 Z hX0 b0 pb0 a1 a3 M _ (fun y4 h H locs ls hl hM => ?_) _ _ _ _ h _ _ _ (lv_sub hl [3, 4, 6, 2, 1, 0] rfl) hM
    refine lv_iload hx hb dX1_midnightsOf_63 (lv_at hl 0 rfl) ?_
    exact m_iret hx hb hr hlocks hM (Option.some.inj h) rfl dX1_midnightsOf_65
