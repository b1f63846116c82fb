/-! contracts -/
theorem imageOf_M {a1 : Int32} {M : Mem} {r : Nat} (h : fX4_imageOf a1 M = some r) : isM r := by
  unfold fX4_imageOf at h
  split at h
  · cases h; exact isM_32
  · cases h; exact isM_36
set_option maxHeartbeats 4000000 in
set_option maxRecDepth 100000 in
theorem wX4_type_36 {p : Program} {l : Launch} {e : Env} {s : State} {m : MethodId} {args : Array Value} {below : List Frame} {meth : Method} {c : Code} {D : va_G} {cI : ClassId} {ad : Nat → Nat} {X : State → Prop} (Z : mZ p s m args meth c cX4_type 5 (some .int) wsX4_type RX4 D [(cI, .int)] X) {aS : Nat → Nat} (hX0 : cX D ad aS X)   (u1 : Int64)  {K : Mem → Option (Int32 × Mem)} (res : (Int32 × Mem)) (hKc : ∀  (M1 : Mem), K  M1 = some res → ∀ (H : Heap) (locs : List Loc) (ls : Array Slot), lv_has ls 5 [(0, .ref (ad 0))] → mH D ad 40 (Ec ad cI M1) s.heap H locs → W p l e { frames := 1, cells := 0, slots := 0, locals := 21 } s m args below meth c H locs 0 0 (MQ below (mQ D ad 40 (some (.int res.1)) (Ec ad cI res.2)) args s 0 0 (mA ad 40)) (F0 m 66 ls [])) :
    ∀ (n : Nat) (v4 : Int32) (M : Mem), fX4_type_36 u1 K n v4 M = some res → ∀ (H : Heap) (locs : List Loc) (ls : Array Slot), lv_has ls 5 [(0, .ref (ad 0)), (1, .long u1), (4, .int v4)] → mH D ad 40 (Ec ad cI M) s.heap H locs → W p l e { frames := 1, cells := 0, slots := 0, locals := 21 } s m args below meth c H locs 0 0 (MQ below (mQ D ad 40 (some (.int res.1)) (Ec ad cI res.2)) args s 0 0 (mA ad 40)) (F0 m 36 ls []) := by
  obtain ⟨hx, hb, hml, hr, hlocks, hts, hown, hKv, hXs⟩ := id Z
  have hXk := hX0.1
  have k0 := hts (Cond.fieldLink RX4 12 "NoonWalker" "reader" "LNoonWalker$Reader;") (List.mem_of_getElem? (i := 1) rfl)
  intro n
  induction n with
  | zero => intro _ _ h; exact absurd h (by unfold fX4_type_36; exact fun h => by cases h)
  | succ n ih =>
    intro v4 M h H locs ls hl hM
    rw [fX4_type_36] at h
    refine lv_iload hx hb dX4_type_36 (lv_at hl 2 rfl) ?_
    refine lv_if_lt (tgt := 66) hx hb dX4_type_38 (by decide) (fun c1 => ?_) (fun c1 => ?_)
    · replace h := (if_pos c1).symm.trans h
      exact hKc _ h _ _ _ (lv_sub hl [0] rfl) hM
    · replace h := (if_neg c1).symm.trans h
      refine lv_aload_n hx hb dX4_type_41 rfl (lv_at hl 0 rfl) ?_
      refine m_get hx hb hts hown hKv hM (fun _ h => List.mem_cons_of_mem _ (List.mem_append_left _ (List.mem_append_right _ (h)))) (by decide) at_X4 rfl 0 (by decide) k0 (v := .ref (ad 1)) rfl dX4_type_42 ?_
      refine lv_lload_n hx hb dX4_type_45 rfl (lv_at hl 1 rfl) ?_
      refine lv_bipush (v := (8 : Int32)) hx hb dX4_type_46 (by decide) ?_
      refine lv_iload hx hb dX4_type_48 (lv_at hl 2 rfl) ?_
      refine lv_imul hx hb dX4_type_50 ?_
      refine lv_lushr (v := ((Int64.toUInt64 u1 >>> ((Int32.toInt64 ((8 : Int32) * v4)).toUInt64 &&& Int64.toUInt64 63)).toInt64)) hx hb dX4_type_51 rfl ?_
      refine lv_l2i (v := (Int64.toInt32 ((Int64.toUInt64 u1 >>> ((Int32.toInt64 ((8 : Int32) * v4)).toUInt64 &&& Int64.toUInt64 63)).toInt64))) hx hb dX4_type_52 rfl ?_
      refine lv_sipush (v := (255 : Int32)) hx hb dX4_type_53 (by decide) ?_
      refine lv_iand hx hb dX4_type_56 ?_
      obtain ⟨x2, hx2, h⟩ := Option.bind_eq_some_iff.mp h
      refine m_callV (As := [.int ((Int64.toInt32 ((Int64.toUInt64 u1 >>> ((Int32.toInt64 ((8 : Int32) * v4)).toUInt64 &&& Int64.toUInt64 63)).toInt64)) &&& (255 : Int32))]) (st1 := []) hx hb (hml.trans hl.1.symm) hown hts hKv hXs hXk hM (kX3_append l D cI ad hX0 ((Int64.toInt32 ((Int64.toUInt64 u1 >>> ((Int32.toInt64 ((8 : Int32) * v4)).toUInt64 &&& Int64.toUInt64 63)).toInt64)) &&& (255 : Int32)) M _ hx2) (cwV 1 hts gX4_type_X3_append rfl rfl rfl (by decide +kernel) ⟨Nat.le_of_ble_eq_true rfl, Nat.le_of_ble_eq_true rfl⟩) (by decide) at_X3 rfl rfl rfl rfl (Nat.le_of_ble_eq_true rfl) dX4_type_57 ⟨Nat.zero_le _, Nat.zero_le _⟩ (fun H locs hM => ?_)
      refine lv_iinc (v := (v4 + (-1))) (lv' := [(4, .int (v4 + (-1))), (0, .ref (ad 0)), (1, .long u1)]) hx hb dX4_type_60 hl (k := 2) rfl rfl (by decide) rfl (fun ls hl => ?_)
      refine lv_goto (tgt := 36) hx hb dX4_type_63 (by decide) ?_
      exact ih _ _ h _ _ _ (lv_sub hl [1, 2, 0] rfl) hM
set_option maxHeartbeats 4000000 in
set_option maxRecDepth 100000 in
theorem kX4_type (l : Launch) (D : va_G) (cI : ClassId) (ad : Nat → Nat) {X : State → Prop} {aS : Nat → Nat} (hX0 : cX D ad aS X) (a1 : Int64) (a3 : Int32) (M : Mem) (res : (Int32 × Mem)) (h : fX4_type a1 a3 M = some res) : mC l yX4_type wsX4_type { frames := 1, cells := 0, slots := 0, locals := 21 } D [(cI, .int)] ad 40 X [.ref (ad 0), .long a1, .int a3] (Ec ad cI M) (some (.int res.1)) (Ec ad cI res.2) := by
  refine m_ofW (cc := cX4_type) (maxL := 5) (ret := (some .int)) (by decide) rfl (Nat.le_of_ble_eq_true rfl) ?_
  intro p e s m args below meth c hx hb hml hr hlocks hts hown hKv hXs ls hl hM
  have hXk := hX0.1
  have Z : mZ p s m args meth c cX4_type 5 (some .int) wsX4_type RX4 D [(cI, .int)] X := ⟨hx, hb, hml, hr, hlocks, hts, hown, hKv, hXs⟩
  replace hown : s.vm.findClass RX4 = some m.cls := hown
  have hl : lv_has ls 5 [(0, .ref (ad 0)), (1, .long a1), (3, .int a3)] := hl
  have k0 := hts (Cond.fieldLink RX4 12 "NoonWalker" "reader" "LNoonWalker$Reader;") (List.mem_of_getElem? (i := 1) rfl)
  have k1 := hts (Cond.fieldLink RX4 50 "NoonWalker$Reader" "length" "I") (List.mem_of_getElem? (i := 2) rfl)
  unfold fX4_type at h
  refine lv_iload_n hx hb dX4_type_0 rfl (lv_at hl 2 rfl) ?_
  refine lv_iconst (v := (1 : Int32)) hx hb dX4_type_1 (by decide) ?_
  refine lv_icmp_lt (tgt := 11) hx hb dX4_type_2 (by decide) (fun c1 => ?_) (fun c1 => ?_)
  · replace h := (if_pos c1).symm.trans h
    refine lv_iconst (v := (-1 : Int32)) hx hb dX4_type_11 (by decide) ?_
    exact m_iret hx hb hr hlocks hM (congrArg (a₁ := ((-1 : Int32), M)) Prod.fst (Option.some.inj h)) (congrArg (a₁ := ((-1 : Int32), M)) (fun z => Ec ad cI z.2) (Option.some.inj h)) dX4_type_12
  · replace h := (if_neg c1).symm.trans h
    refine lv_iload_n hx hb dX4_type_5 rfl (lv_at hl 2 rfl) ?_
    refine lv_bipush (v := (8 : Int32)) hx hb dX4_type_6 (by decide) ?_
    refine lv_icmp_le (tgt := 13) hx hb dX4_type_8 (by decide) (fun c2 => ?_) (fun c2 => ?_)
    · replace h := (if_pos c2).symm.trans h
      refine lv_aload_n hx hb dX4_type_13 rfl (lv_at hl 0 rfl) ?_
      refine m_get hx hb hts hown hKv hM (fun _ h => List.mem_cons_of_mem _ (List.mem_append_left _ (List.mem_append_right _ (h)))) (by decide) at_X4 rfl 0 (by decide) k0 (v := .ref (ad 1)) rfl dX4_type_14 ?_
      refine m_get hx hb hts hown hKv hM (fun _ h => List.mem_cons_of_mem _ (List.mem_append_right _ (h))) (by decide) at_X3 rfl 1 (by decide) k1 (v := .int (M.1 1 1)) rfl dX4_type_17 ?_
      refine lv_iload_n hx hb dX4_type_20 rfl (lv_at hl 2 rfl) ?_
      refine lv_iadd hx hb dX4_type_21 ?_
      refine lv_sipush (v := (300 : Int32)) hx hb dX4_type_22 (by decide) ?_
      refine lv_icmp_le (tgt := 31) hx hb dX4_type_25 (by decide) (fun c3 => ?_) (fun c3 => ?_)
      · replace h := (if_pos c3).symm.trans h
        refine lv_iload_n hx hb dX4_type_31 rfl (lv_at hl 2 rfl) ?_
        refine lv_iconst (v := (1 : Int32)) hx hb dX4_type_32 (by decide) ?_
        refine lv_isub hx hb dX4_type_33 ?_
        refine lv_istore (lv' := [(4, .int (a3 - (1 : Int32))), (0, .ref (ad 0)), (1, .long a1), (3, .int a3)]) hx hb dX4_type_34 hl (by decide) rfl (fun ls hl => ?_)
        refine wX4_type_36 Z hX0 a1 _ (fun M4 h H locs ls hl hM => ?_) _ _ _ h _ _ _ (lv_sub hl [1, 2, 0] rfl) hM
        refine lv_aload_n hx hb dX4_type_66 rfl (lv_at hl 0 rfl) ?_
        refine m_get hx hb hts hown hKv hM (fun _ h => List.mem_cons_of_mem _ (List.mem_append_left _ (List.mem_append_right _ (h)))) (by decide) at_X4 rfl 0 (by decide) k0 (v := .ref (ad 1)) rfl dX4_type_67 ?_
        refine m_get hx hb hts hown hKv hM (fun _ h => List.mem_cons_of_mem _ (List.mem_append_right _ (h))) (by decide) at_X3 rfl 1 (by decide) k1 (v := .int (M4.1 1 1)) rfl dX4_type_70 ?_
        exact m_iret hx hb hr hlocks hM (congrArg (a₁ := ((M4.1 1 1), M4)) Prod.fst (Option.some.inj h)) (congrArg (a₁ := ((M4.1 1 1), M4)) (fun z => Ec ad cI z.2) (Option.some.inj h)) dX4_type_73
      · replace h := (if_neg c3).symm.trans h
        refine lv_bipush (v := (-3 : Int32)) hx hb dX4_type_28 (by decide) ?_
        exact m_iret hx hb hr hlocks hM (congrArg (a₁ := ((-3 : Int32), M)) Prod.fst (Option.some.inj h)) (congrArg (a₁ := ((-3 : Int32), M)) (fun z => Ec ad cI z.2) (Option.some.inj h)) dX4_type_30
    · replace h := (if_neg c2).symm.trans h
      refine lv_iconst (v := (-1 : Int32)) hx hb dX4_type_11 (by decide) ?_
      exact m_iret hx hb hr hlocks hM (congrArg (a₁ := ((-1 : Int32), M)) Prod.fst (Option.some.inj h)) (congrArg (a₁ := ((-1 : Int32), M)) (fun z => Ec ad cI z.2) (Option.some.inj h)) dX4_type_12
set_option maxHeartbeats 4000000 in
set_option maxRecDepth 100000 in
theorem kX4_clear (l : Launch) (D : va_G) (cI : ClassId) (ad : Nat → Nat) {X : State → Prop} {aS : Nat → Nat} (hX0 : cX D ad aS X)  (M : Mem) (res : (Int32 × Mem)) (h : fX4_clear M = some res) : mC l yX4_clear wsX4_clear { frames := 0, cells := 0, slots := 0, locals := 0 } D [(cI, .int)] ad 40 X [.ref (ad 0)] (Ec ad cI M) (some (.int res.1)) (Ec ad cI res.2) := by
  refine m_ofW (cc := cX4_clear) (maxL := 2) (ret := (some .int)) (by decide) rfl (Nat.le_of_ble_eq_true rfl) ?_
  intro p e s m args below meth c hx hb hml hr hlocks hts hown hKv hXs ls hl hM
  have hXk := hX0.1
  have Z : mZ p s m args meth c cX4_clear 2 (some .int) wsX4_clear RX4 D [(cI, .int)] X := ⟨hx, hb, hml, hr, hlocks, hts, hown, hKv, hXs⟩
  replace hown : s.vm.findClass RX4 = some m.cls := hown
  have hl : lv_has ls 2 [(0, .ref (ad 0))] := hl
  have k0 := hts (Cond.fieldLink RX4 12 "NoonWalker" "reader" "LNoonWalker$Reader;") (List.mem_of_getElem? (i := 1) rfl)
  have k1 := hts (Cond.fieldLink RX4 50 "NoonWalker$Reader" "length" "I") (List.mem_of_getElem? (i := 2) rfl)
  unfold fX4_clear at h
  refine lv_aload_n hx hb dX4_clear_0 rfl (lv_at hl 0 rfl) ?_
  refine m_get hx hb hts hown hKv hM (fun _ h => List.mem_cons_of_mem _ (List.mem_append_left _ (List.mem_append_right _ (h)))) (by decide) at_X4 rfl 0 (by decide) k0 (v := .ref (ad 1)) rfl dX4_clear_1 ?_
  refine m_get hx hb hts hown hKv hM (fun _ h => List.mem_cons_of_mem _ (List.mem_append_right _ (h))) (by decide) at_X3 rfl 1 (by decide) k1 (v := .int (M.1 1 1)) rfl dX4_clear_4 ?_
  refine lv_istore_n (lv' := [(1, .int (M.1 1 1)), (0, .ref (ad 0))]) hx hb dX4_clear_7 rfl hl (by decide) rfl (fun ls hl => ?_)
  refine lv_aload_n hx hb dX4_clear_8 rfl (lv_at hl 1 rfl) ?_
  refine m_get hx hb hts hown hKv hM (fun _ h => List.mem_cons_of_mem _ (List.mem_append_left _ (List.mem_append_right _ (h)))) (by decide) at_X4 rfl 0 (by decide) k0 (v := .ref (ad 1)) rfl dX4_clear_9 ?_
  refine lv_iconst (v := (0 : Int32)) hx hb dX4_clear_12 (by decide) ?_
  obtain ⟨M1, hM1, h⟩ := Option.bind_eq_some_iff.mp h
  refine m_put hx hb hts hown hKv hM (fun _ h => List.mem_cons_of_mem _ (List.mem_append_right _ (h))) tyX3 tyX3_ok nmX3 (by decide) at_X3 rfl 1 (by decide) k1 rfl rfl rfl (Nat.le_of_ble_eq_true rfl) (pt_X3_1 (Option.some.inj hM1)) dX4_clear_13 (fun H locs hM => ?_)
  refine lv_iload_n hx hb dX4_clear_16 rfl (lv_at hl 0 rfl) ?_
  exact m_iret hx hb hr hlocks hM (congrArg (a₁ := ((M.1 1 1), M1)) Prod.fst (Option.some.inj h)) (congrArg (a₁ := ((M.1 1 1), M1)) (fun z => Ec ad cI z.2) (Option.some.inj h)) dX4_clear_17
set_option maxHeartbeats 4000000 in
set_option maxRecDepth 100000 in
theorem kX4_land (l : Launch) (D : va_G) (cI : ClassId) (ad : Nat → Nat) {X : State → Prop} {aS : Nat → Nat} (hX0 : cX D ad aS X)  (M : Mem) (res : (Int32 × Mem)) (h : fX4_land M = some res) : mC l yX4_land wsX4_land { frames := 12, cells := 0, slots := 0, locals := 292 } D [(cI, .int)] ad 40 X [.ref (ad 0)] (Ec ad cI M) (some (.int res.1)) (Ec ad cI res.2) := by
  refine m_ofW (cc := cX4_land) (maxL := 3) (ret := (some .int)) (by decide) rfl (Nat.le_of_ble_eq_true rfl) ?_
  intro p e s m args below meth c hx hb hml hr hlocks hts hown hKv hXs ls hl hM
  have hXk := hX0.1
  have Z : mZ p s m args meth c cX4_land 3 (some .int) wsX4_land RX4 D [(cI, .int)] X := ⟨hx, hb, hml, hr, hlocks, hts, hown, hKv, hXs⟩
  replace hown : s.vm.findClass RX4 = some m.cls := hown
  have hl : lv_has ls 3 [(0, .ref (ad 0))] := hl
  have k0 := hts (Cond.fieldLink RX4 12 "NoonWalker" "reader" "LNoonWalker$Reader;") (List.mem_of_getElem? (i := 1) rfl)
  have k1 := hts (Cond.fieldLink RX4 23 "NoonWalker" "draft" "LNoonWalker$Land;") (List.mem_of_getElem? (i := 2) rfl)
  have k2 := hts (Cond.fieldLink RX4 19 "NoonWalker" "told" "LNoonWalker$Land;") (List.mem_of_getElem? (i := 4) rfl)
  have k3 := hts (Cond.fieldLink RX4 50 "NoonWalker$Reader" "length" "I") (List.mem_of_getElem? (i := 5) rfl)
  have k4 := hts (Cond.fieldLink RX4 36 "NoonWalker" "present" "LNoonWalker$Memory;") (List.mem_of_getElem? (i := 6) rfl)
  have k5 := hts (Cond.fieldLink RX4 40 "NoonWalker" "image0" "LNoonWalker$Memory;") (List.mem_of_getElem? (i := 7) rfl)
  have k6 := hts (Cond.fieldLink RX4 43 "NoonWalker" "image1" "LNoonWalker$Memory;") (List.mem_of_getElem? (i := 8) rfl)
  have k7 := hts (Cond.fieldLink RX4 62 "NoonWalker$Reader" "begin" "I") (List.mem_of_getElem? (i := 3) rfl)
  unfold fX4_land at h
  refine lv_aload_n hx hb dX4_land_0 rfl (lv_at hl 0 rfl) ?_
  refine m_get hx hb hts hown hKv hM (fun _ h => List.mem_cons_of_mem _ (List.mem_append_left _ (List.mem_append_left _ (List.mem_append_left _ (List.mem_append_right _ (h)))))) (by decide) at_X4 rfl 0 (by decide) k0 (v := .ref (ad 1)) rfl dX4_land_1 ?_
  refine lv_aload_n hx hb dX4_land_4 rfl (lv_at hl 0 rfl) ?_
  refine m_get hx hb hts hown hKv hM (fun _ h => List.mem_cons_of_mem _ (List.mem_append_left _ (List.mem_append_left _ (List.mem_append_left _ (List.mem_append_right _ (h)))))) (by decide) at_X4 rfl 2 (by decide) k1 (v := .ref (ad (lp (M.1 0 2)))) rfl dX4_land_5 ?_
  obtain ⟨x1, hx1, h⟩ := Option.bind_eq_some_iff.mp h
  refine m_callV (As := [.ref (ad (lp (M.1 0 2)))]) (st1 := [.int x1.1]) hx hb (hml.trans hl.1.symm) hown hts hKv hXs hXk hM (kX3_readAll l D cI ad hX0 (lp (M.1 0 2)) (lp_ok _) M _ hx1) (cwV 1 hts gX4_land_X3_readAll rfl rfl rfl (by decide +kernel) ⟨Nat.le_of_ble_eq_true rfl, Nat.le_of_ble_eq_true rfl⟩) (by decide) at_X3 rfl rfl rfl rfl (Nat.le_of_ble_eq_true rfl) dX4_land_8 ⟨Nat.zero_le _, Nat.zero_le _⟩ (fun H locs hM => ?_)
  refine lv_istore_n (lv' := [(1, .int x1.1), (0, .ref (ad 0))]) hx hb dX4_land_11 rfl hl (by decide) rfl (fun ls hl => ?_)
  refine lv_iload_n hx hb dX4_land_12 rfl (lv_at hl 0 rfl) ?_
  refine lv_bipush (v := (-9 : Int32)) hx hb dX4_land_13 (by decide) ?_
  refine lv_icmp_ne (tgt := 29) hx hb dX4_land_15 (by decide) (fun c2 => ?_) (fun c2 => ?_)
  · replace h := (if_neg c2).symm.trans h
    refine lv_aload_n hx hb dX4_land_29 rfl (lv_at hl 1 rfl) ?_
    refine m_get hx hb hts hown hKv hM (fun _ h => List.mem_cons_of_mem _ (List.mem_append_left _ (List.mem_append_left _ (List.mem_append_left _ (List.mem_append_right _ (h)))))) (by decide) at_X4 rfl 1 (by decide) k2 (v := .ref (ad (lp (x1.2.1 0 1)))) rfl dX4_land_30 ?_
    refine lv_astore_n (lv' := [(2, .ref (ad (lp (x1.2.1 0 1)))), (1, .int x1.1), (0, .ref (ad 0))]) hx hb dX4_land_33 rfl hl (by decide) rfl (fun ls hl => ?_)
    refine lv_aload_n hx hb dX4_land_34 rfl (lv_at hl 2 rfl) ?_
    refine lv_aload_n hx hb dX4_land_35 rfl (lv_at hl 2 rfl) ?_
    refine m_get hx hb hts hown hKv hM (fun _ h => List.mem_cons_of_mem _ (List.mem_append_left _ (List.mem_append_left _ (List.mem_append_left _ (List.mem_append_right _ (h)))))) (by decide) at_X4 rfl 2 (by decide) k1 (v := .ref (ad (lp (x1.2.1 0 2)))) rfl dX4_land_36 ?_
    obtain ⟨M3, hM3, h⟩ := Option.bind_eq_some_iff.mp h
    refine m_put hx hb hts hown hKv hM (fun _ h => List.mem_cons_of_mem _ (List.mem_append_left _ (List.mem_append_left _ (List.mem_append_left _ (List.mem_append_right _ (h)))))) tyX4 tyX4_ok nmX4 (by decide) at_X4 rfl 1 (by decide) k2 rfl rfl rfl (Nat.le_of_ble_eq_true rfl) (pt_X4_1 (Option.some.inj hM3)) dX4_land_39 (fun H locs hM => ?_)
    refine lv_aload_n hx hb dX4_land_42 rfl (lv_at hl 2 rfl) ?_
    refine lv_aload_n hx hb dX4_land_43 rfl (lv_at hl 0 rfl) ?_
    obtain ⟨M4, hM4, h⟩ := Option.bind_eq_some_iff.mp h
    refine m_put hx hb hts hown hKv hM (fun _ h => List.mem_cons_of_mem _ (List.mem_append_left _ (List.mem_append_left _ (List.mem_append_left _ (List.mem_append_right _ (h)))))) tyX4 tyX4_ok nmX4 (by decide) at_X4 rfl 2 (by decide) k1 rfl rfl rfl (Nat.le_of_ble_eq_true rfl) (pt_X4_2 (Option.some.inj hM4)) dX4_land_44 (fun H locs hM => ?_)
    refine lv_aload_n hx hb dX4_land_47 rfl (lv_at hl 2 rfl) ?_
    refine m_get hx hb hts hown hKv hM (fun _ h => List.mem_cons_of_mem _ (List.mem_append_left _ (List.mem_append_left _ (List.mem_append_left _ (List.mem_append_right _ (h)))))) (by decide) at_X4 rfl 1 (by decide) k2 (v := .ref (ad (lp (M4.1 0 1)))) rfl dX4_land_48 ?_
    obtain ⟨x5, hx5, h⟩ := Option.bind_eq_some_iff.mp h
    refine m_callV (As := []) (st1 := []) hx hb (hml.trans hl.1.symm) hown hts hKv hXs hXk hM (kX1_measure l D cI ad hX0 (lp (M4.1 0 1)) (lp_ok _) M4 _ hx5) (cwV 0 hts gX4_land_X1_measure rfl rfl rfl (by decide +kernel) ⟨Nat.le_of_ble_eq_true rfl, Nat.le_of_ble_eq_true rfl⟩) (lt_X1 (lp_ok _)) (at_X1 (lp_ok _)) rfl rfl rfl rfl (Nat.le_of_ble_eq_true rfl) dX4_land_51 ⟨Nat.zero_le _, Nat.zero_le _⟩ (fun H locs hM => ?_)
    refine lv_aload_n hx hb dX4_land_54 rfl (lv_at hl 2 rfl) ?_
    refine m_get hx hb hts hown hKv hM (fun _ h => List.mem_cons_of_mem _ (List.mem_append_left _ (List.mem_append_left _ (List.mem_append_left _ (List.mem_append_right _ (h)))))) (by decide) at_X4 rfl 0 (by decide) k0 (v := .ref (ad 1)) rfl dX4_land_55 ?_
    refine lv_iconst (v := (0 : Int32)) hx hb dX4_land_58 (by decide) ?_
    obtain ⟨M6, hM6, h⟩ := Option.bind_eq_some_iff.mp h
    refine m_put hx hb hts hown hKv hM (fun _ h => List.mem_cons_of_mem _ (List.mem_append_left _ (List.mem_append_left _ (List.mem_append_right _ (h))))) tyX3 tyX3_ok nmX3 (by decide) at_X3 rfl 1 (by decide) k3 rfl rfl rfl (Nat.le_of_ble_eq_true rfl) (pt_X3_1 (Option.some.inj hM6)) dX4_land_59 (fun H locs hM => ?_)
    refine lv_aload_n hx hb dX4_land_62 rfl (lv_at hl 2 rfl) ?_
    refine m_get hx hb hts hown hKv hM (fun _ h => List.mem_cons_of_mem _ (List.mem_append_left _ (List.mem_append_left _ (List.mem_append_left _ (List.mem_append_right _ (h)))))) (by decide) at_X4 rfl 4 (by decide) k4 (v := .ref (ad 28)) rfl dX4_land_63 ?_
    obtain ⟨x7, hx7, h⟩ := Option.bind_eq_some_iff.mp h
    refine m_callV (As := []) (st1 := []) hx hb (hml.trans hl.1.symm) hown hts hKv hXs hXk hM (kX2_reset l D cI ad hX0 28 isM_28 M6 _ hx7) (cwV 0 hts gX4_land_X2_reset rfl rfl rfl (by decide +kernel) ⟨Nat.le_of_ble_eq_true rfl, Nat.le_of_ble_eq_true rfl⟩) (lt_X2 isM_28) (at_X2 isM_28) rfl rfl rfl rfl (Nat.le_of_ble_eq_true rfl) dX4_land_66 ⟨Nat.zero_le _, Nat.zero_le _⟩ (fun H locs hM => ?_)
    refine lv_aload_n hx hb dX4_land_69 rfl (lv_at hl 2 rfl) ?_
    refine m_get hx hb hts hown hKv hM (fun _ h => List.mem_cons_of_mem _ (List.mem_append_left _ (List.mem_append_left _ (List.mem_append_left _ (List.mem_append_right _ (h)))))) (by decide) at_X4 rfl 5 (by decide) k5 (v := .ref (ad 32)) rfl dX4_land_70 ?_
    obtain ⟨x8, hx8, h⟩ := Option.bind_eq_some_iff.mp h
    refine m_callV (As := []) (st1 := []) hx hb (hml.trans hl.1.symm) hown hts hKv hXs hXk hM (kX2_reset l D cI ad hX0 32 isM_32 x7 _ hx8) (cwV 0 hts gX4_land_X2_reset rfl rfl rfl (by decide +kernel) ⟨Nat.le_of_ble_eq_true rfl, Nat.le_of_ble_eq_true rfl⟩) (lt_X2 isM_32) (at_X2 isM_32) rfl rfl rfl rfl (Nat.le_of_ble_eq_true rfl) dX4_land_73 ⟨Nat.zero_le _, Nat.zero_le _⟩ (fun H locs hM => ?_)
    refine lv_aload_n hx hb dX4_land_76 rfl (lv_at hl 2 rfl) ?_
    refine m_get hx hb hts hown hKv hM (fun _ h => List.mem_cons_of_mem _ (List.mem_append_left _ (List.mem_append_left _ (List.mem_append_left _ (List.mem_append_right _ (h)))))) (by decide) at_X4 rfl 6 (by decide) k6 (v := .ref (ad 36)) rfl dX4_land_77 ?_
    obtain ⟨x9, hx9, h⟩ := Option.bind_eq_some_iff.mp h
    refine m_callV (As := []) (st1 := []) hx hb (hml.trans hl.1.symm) hown hts hKv hXs hXk hM (kX2_reset l D cI ad hX0 36 isM_36 x8 _ hx9) (cwV 0 hts gX4_land_X2_reset rfl rfl rfl (by decide +kernel) ⟨Nat.le_of_ble_eq_true rfl, Nat.le_of_ble_eq_true rfl⟩) (lt_X2 isM_36) (at_X2 isM_36) rfl rfl rfl rfl (Nat.le_of_ble_eq_true rfl) dX4_land_80 ⟨Nat.zero_le _, Nat.zero_le _⟩ (fun H locs hM => ?_)
    refine lv_iload_n hx hb dX4_land_83 rfl (lv_at hl 1 rfl) ?_
    exact m_iret hx hb hr hlocks hM (congrArg (a₁ := (x1.1, x9)) Prod.fst (Option.some.inj h)) (congrArg (a₁ := (x1.1, x9)) (fun z => Ec ad cI z.2) (Option.some.inj h)) dX4_land_84
  · replace h := (if_pos c2).symm.trans h
    refine lv_bipush (v := (-10 : Int32)) hx hb dX4_land_18 (by decide) ?_
    refine lv_aload_n hx hb dX4_land_20 rfl (lv_at hl 1 rfl) ?_
    refine m_get hx hb hts hown hKv hM (fun _ h => List.mem_cons_of_mem _ (List.mem_append_left _ (List.mem_append_left _ (List.mem_append_left _ (List.mem_append_right _ (h)))))) (by decide) at_X4 rfl 0 (by decide) k0 (v := .ref (ad 1)) rfl dX4_land_21 ?_
    refine m_get hx hb hts hown hKv hM (fun _ h => List.mem_cons_of_mem _ (List.mem_append_left _ (List.mem_append_left _ (List.mem_append_right _ (h))))) (by decide) at_X3 rfl 4 (by decide) k7 (v := .int (x1.2.1 1 4)) rfl dX4_land_24 ?_
    refine lv_isub hx hb dX4_land_27 ?_
    exact m_iret hx hb hr hlocks hM (congrArg (a₁ := (((-10 : Int32) - (x1.2.1 1 4)), x1.2)) Prod.fst (Option.some.inj h)) (congrArg (a₁ := (((-10 : Int32) - (x1.2.1 1 4)), x1.2)) (fun z => Ec ad cI z.2) (Option.some.inj h)) dX4_land_28
set_option maxHeartbeats 4000000 in
set_option maxRecDepth 100000 in
theorem kX4_town (l : Launch) (D : va_G) (cI : ClassId) (ad : Nat → Nat) {X : State → Prop} {aS : Nat → Nat} (hX0 : cX D ad aS X) (a1 : Int32) (a2 : Int32) (M : Mem) (res : Int32) (h : fX4_town a1 a2 M = some res) : mC l yX4_town wsX4_town { frames := 2, cells := 0, slots := 0, locals := 42 } D [(cI, .int)] ad 40 X [.ref (ad 0), .int a1, .int a2] (Ec ad cI M) (some (.int res)) (Ec ad cI M) := by
  refine m_ofW (cc := cX4_town) (maxL := 3) (ret := (some .int)) (by decide) rfl (Nat.le_of_ble_eq_true rfl) ?_
  intro p e s m args below meth c hx hb hml hr hlocks hts hown hKv hXs ls hl hM
  have hXk := hX0.1
  have Z : mZ p s m args meth c cX4_town 3 (some .int) wsX4_town RX4 D [(cI, .int)] X := ⟨hx, hb, hml, hr, hlocks, hts, hown, hKv, hXs⟩
  replace hown : s.vm.findClass RX4 = some m.cls := hown
  have hl : lv_has ls 3 [(0, .ref (ad 0)), (1, .int a1), (2, .int a2)] := hl
  have k0 := hts (Cond.fieldLink RX4 19 "NoonWalker" "told" "LNoonWalker$Land;") (List.mem_of_getElem? (i := 1) rfl)
  unfold fX4_town at h
  refine lv_aload_n hx hb dX4_town_0 rfl (lv_at hl 0 rfl) ?_
  refine m_get hx hb hts hown hKv hM (fun _ h => List.mem_cons_of_mem _ (List.mem_append_left _ (List.mem_append_right _ (h)))) (by decide) at_X4 rfl 1 (by decide) k0 (v := .ref (ad (lp (M.1 0 1)))) rfl dX4_town_1 ?_
  refine lv_iload_n hx hb dX4_town_4 rfl (lv_at hl 1 rfl) ?_
  obtain ⟨x1, hx1, h⟩ := Option.bind_eq_some_iff.mp h
  refine m_callV (As := [.int a1]) (st1 := [.int x1]) hx hb (hml.trans hl.1.symm) hown hts hKv hXs hXk hM (kX1_isTown l D cI ad hX0 (lp (M.1 0 1)) (lp_ok _) a1 M _ hx1) (cwV 1 hts gX4_town_X1_isTown rfl rfl rfl (by decide +kernel) ⟨Nat.le_of_ble_eq_true rfl, Nat.le_of_ble_eq_true rfl⟩) (lt_X1 (lp_ok _)) (at_X1 (lp_ok _)) rfl rfl rfl rfl (Nat.le_of_ble_eq_true rfl) dX4_town_5 ⟨Nat.zero_le _, Nat.zero_le _⟩ (fun H locs hM => ?_)
  refine lv_if_ne (tgt := 13) hx hb dX4_town_8 (by decide) (fun c2 => ?_) (fun c2 => ?_)
  · replace h := (if_neg c2).symm.trans h
    refine lv_iload_n hx hb dX4_town_13 rfl (lv_at hl 2 rfl) ?_
    by_cases c3 : a2 = (0 : Int32)
    · replace h := (if_pos c3).symm.trans h
      refine lv_tableIn (off := 26) (tgt := 40) hx hb dX4_town_14 (by rw [c3]; decide) (by rw [c3]; decide) (by rw [c3]; rfl) (by decide) ?_
      refine lv_aload_n hx hb dX4_town_40 rfl (lv_at hl 0 rfl) ?_
      refine m_get hx hb hts hown hKv hM (fun _ h => List.mem_cons_of_mem _ (List.mem_append_left _ (List.mem_append_right _ (h)))) (by decide) at_X4 rfl 1 (by decide) k0 (v := .ref (ad (lp (M.1 0 1)))) rfl dX4_town_41 ?_
      refine lv_iload_n hx hb dX4_town_44 rfl (lv_at hl 1 rfl) ?_
      obtain ⟨x4, hx4, h⟩ := Option.bind_eq_some_iff.mp h
      refine m_callV (As := [.int a1]) (st1 := [.int x4]) hx hb (hml.trans hl.1.symm) hown hts hKv hXs hXk hM (kX1_bidOf l D cI ad hX0 (lp (M.1 0 1)) (lp_ok _) a1 M _ hx4) (cwV 1 hts gX4_town_X1_bidOf rfl rfl rfl (by decide +kernel) ⟨Nat.le_of_ble_eq_true rfl, Nat.le_of_ble_eq_true rfl⟩) (lt_X1 (lp_ok _)) (at_X1 (lp_ok _)) rfl rfl rfl rfl (Nat.le_of_ble_eq_true rfl) dX4_town_45 ⟨Nat.zero_le _, Nat.zero_le _⟩ (fun H locs hM => ?_)
      exact m_iret hx hb hr hlocks hM (Option.some.inj h) rfl dX4_town_48
    replace h := (if_neg c3).symm.trans h
    by_cases c5 : a2 = (1 : Int32)
    · replace h := (if_pos c5).symm.trans h
      refine lv_tableIn (off := 35) (tgt := 49) hx hb dX4_town_14 (by rw [c5]; decide) (by rw [c5]; decide) (by rw [c5]; rfl) (by decide) ?_
      refine lv_aload_n hx hb dX4_town_49 rfl (lv_at hl 0 rfl) ?_
      refine m_get hx hb hts hown hKv hM (fun _ h => List.mem_cons_of_mem _ (List.mem_append_left _ (List.mem_append_right _ (h)))) (by decide) at_X4 rfl 1 (by decide) k0 (v := .ref (ad (lp (M.1 0 1)))) rfl dX4_town_50 ?_
      refine lv_iload_n hx hb dX4_town_53 rfl (lv_at hl 1 rfl) ?_
      obtain ⟨x6, hx6, h⟩ := Option.bind_eq_some_iff.mp h
      refine m_callV (As := [.int a1]) (st1 := [.int x6]) hx hb (hml.trans hl.1.symm) hown hts hKv hXs hXk hM (kX1_roadsOf l D cI ad hX0 (lp (M.1 0 1)) (lp_ok _) a1 M _ hx6) (cwV 1 hts gX4_town_X1_roadsOf rfl rfl rfl (by decide +kernel) ⟨Nat.le_of_ble_eq_true rfl, Nat.le_of_ble_eq_true rfl⟩) (lt_X1 (lp_ok _)) (at_X1 (lp_ok _)) rfl rfl rfl rfl (Nat.le_of_ble_eq_true rfl) dX4_town_54 ⟨Nat.zero_le _, Nat.zero_le _⟩ (fun H locs hM => ?_)
      exact m_iret hx hb hr hlocks hM (Option.some.inj h) rfl dX4_town_57
    replace h := (if_neg c5).symm.trans h
    by_cases c7 : a2 = (2 : Int32)
    · replace h := (if_pos c7).symm.trans h
      refine lv_tableIn (off := 44) (tgt := 58) hx hb dX4_town_14 (by rw [c7]; decide) (by rw [c7]; decide) (by rw [c7]; rfl) (by decide) ?_
      refine lv_aload_n hx hb dX4_town_58 rfl (lv_at hl 0 rfl) ?_
      refine m_get hx hb hts hown hKv hM (fun _ h => List.mem_cons_of_mem _ (List.mem_append_left _ (List.mem_append_right _ (h)))) (by decide) at_X4 rfl 1 (by decide) k0 (v := .ref (ad (lp (M.1 0 1)))) rfl dX4_town_59 ?_
      refine lv_iload_n hx hb dX4_town_62 rfl (lv_at hl 1 rfl) ?_
      obtain ⟨x8, hx8, h⟩ := Option.bind_eq_some_iff.mp h
      refine m_callV (As := [.int a1]) (st1 := [.int x8]) hx hb (hml.trans hl.1.symm) hown hts hKv hXs hXk hM (kX1_stopsOf l D cI ad hX0 (lp (M.1 0 1)) (lp_ok _) a1 M _ hx8) (cwV 1 hts gX4_town_X1_stopsOf rfl rfl rfl (by decide +kernel) ⟨Nat.le_of_ble_eq_true rfl, Nat.le_of_ble_eq_true rfl⟩) (lt_X1 (lp_ok _)) (at_X1 (lp_ok _)) rfl rfl rfl rfl (Nat.le_of_ble_eq_true rfl) dX4_town_63 ⟨Nat.zero_le _, Nat.zero_le _⟩ (fun H locs hM => ?_)
      exact m_iret hx hb hr hlocks hM (Option.some.inj h) rfl dX4_town_66
    replace h := (if_neg c7).symm.trans h
    refine lv_tableOut (tgt := 67) hx hb dX4_town_14 (by have e0 := lv_neT c3 (a := 0) rfl; have e1 := lv_neT c5 (a := 1) rfl; have e2 := lv_neT c7 (a := 2) rfl; omega) (by decide) ?_
    refine lv_iconst (v := (-1 : Int32)) hx hb dX4_town_67 (by decide) ?_
    exact m_iret hx hb hr hlocks hM (Option.some.inj h) rfl dX4_town_68
  · replace h := (if_pos c2).symm.trans h
    refine lv_iconst (v := (-1 : Int32)) hx hb dX4_town_11 (by decide) ?_
    exact m_iret hx hb hr hlocks hM (Option.some.inj h) rfl dX4_town_12
set_option maxHeartbeats 4000000 in
set_option maxRecDepth 100000 in
theorem kX4_road (l : Launch) (D : va_G) (cI : ClassId) (ad : Nat → Nat) {X : State → Prop} {aS : Nat → Nat} (hX0 : cX D ad aS X) (a1 : Int32) (a2 : Int32) (M : Mem) (res : Int32) (h : fX4_road a1 a2 M = some res) : mC l yX4_road wsX4_road { frames := 1, cells := 0, slots := 0, locals := 21 } D [(cI, .int)] ad 40 X [.ref (ad 0), .int a1, .int a2] (Ec ad cI M) (some (.int res)) (Ec ad cI M) := by
  refine m_ofW (cc := cX4_road) (maxL := 3) (ret := (some .int)) (by decide) rfl (Nat.le_of_ble_eq_true rfl) ?_
  intro p e s m args below meth c hx hb hml hr hlocks hts hown hKv hXs ls hl hM
  have hXk := hX0.1
  have Z : mZ p s m args meth c cX4_road 3 (some .int) wsX4_road RX4 D [(cI, .int)] X := ⟨hx, hb, hml, hr, hlocks, hts, hown, hKv, hXs⟩
  replace hown : s.vm.findClass RX4 = some m.cls := hown
  have hl : lv_has ls 3 [(0, .ref (ad 0)), (1, .int a1), (2, .int a2)] := hl
  have k0 := hts (Cond.fieldLink RX4 19 "NoonWalker" "told" "LNoonWalker$Land;") (List.mem_of_getElem? (i := 1) rfl)
  have k1 := hts (Cond.fieldLink RX4 88 "NoonWalker$Land" "roadA" "[I") (List.mem_of_getElem? (i := 2) rfl)
  have k2 := hts (Cond.fieldLink RX4 92 "NoonWalker$Land" "roadB" "[I") (List.mem_of_getElem? (i := 3) rfl)
  have k3 := hts (Cond.fieldLink RX4 95 "NoonWalker$Land" "miles" "[I") (List.mem_of_getElem? (i := 4) rfl)
  unfold fX4_road at h
  refine lv_aload_n hx hb dX4_road_0 rfl (lv_at hl 0 rfl) ?_
  refine m_get hx hb hts hown hKv hM (fun _ h => List.mem_cons_of_mem _ (List.mem_append_left _ (List.mem_append_right _ (h)))) (by decide) at_X4 rfl 1 (by decide) k0 (v := .ref (ad (lp (M.1 0 1)))) rfl dX4_road_1 ?_
  refine lv_iload_n hx hb dX4_road_4 rfl (lv_at hl 1 rfl) ?_
  obtain ⟨x1, hx1, h⟩ := Option.bind_eq_some_iff.mp h
  refine m_callV (As := [.int a1]) (st1 := [.int x1]) hx hb (hml.trans hl.1.symm) hown hts hKv hXs hXk hM (kX1_isRoad l D cI ad hX0 (lp (M.1 0 1)) (lp_ok _) a1 M _ hx1) (cwV 1 hts gX4_road_X1_isRoad rfl rfl rfl (by decide +kernel) ⟨Nat.le_of_ble_eq_true rfl, Nat.le_of_ble_eq_true rfl⟩) (lt_X1 (lp_ok _)) (at_X1 (lp_ok _)) rfl rfl rfl rfl (Nat.le_of_ble_eq_true rfl) dX4_road_5 ⟨Nat.zero_le _, Nat.zero_le _⟩ (fun H locs hM => ?_)
  refine lv_if_ne (tgt := 13) hx hb dX4_road_8 (by decide) (fun c2 => ?_) (fun c2 => ?_)
  · replace h := (if_neg c2).symm.trans h
    refine lv_iload_n hx hb dX4_road_13 rfl (lv_at hl 2 rfl) ?_
    by_cases c3 : a2 = (0 : Int32)
    · replace h := (if_pos c3).symm.trans h
      refine lv_tableIn (off := 26) (tgt := 40) hx hb dX4_road_14 (by rw [c3]; decide) (by rw [c3]; decide) (by rw [c3]; rfl) (by decide) ?_
      refine lv_aload_n hx hb dX4_road_40 rfl (lv_at hl 0 rfl) ?_
      refine m_get hx hb hts hown hKv hM (fun _ h => List.mem_cons_of_mem _ (List.mem_append_left _ (List.mem_append_right _ (h)))) (by decide) at_X4 rfl 1 (by decide) k0 (v := .ref (ad (lp (M.1 0 1)))) rfl dX4_road_41 ?_
      refine m_get hx hb hts hown hKv hM (fun _ h => List.mem_cons_of_mem _ (List.mem_append_right _ (h))) (lt_X1 (lp_ok _)) (at_X1 (lp_ok _)) rfl 3 (by decide) k1 (v := .ref (ad ((lp (M.1 0 1)) + 2))) rfl dX4_road_44 ?_
      refine lv_iload_n hx hb dX4_road_47 rfl (lv_at hl 1 rfl) ?_
      obtain ⟨x4, hx4, h⟩ := Option.bind_eq_some_iff.mp h
      refine m_iald hx hb hKv hM (lt_X1_2 (lp_ok _)) (at_X1_2 (lp_ok _)) 0 rfl hx4 dX4_road_48 ?_
      exact m_iret hx hb hr hlocks hM (Option.some.inj h) rfl dX4_road_49
    replace h := (if_neg c3).symm.trans h
    by_cases c5 : a2 = (1 : Int32)
    · replace h := (if_pos c5).symm.trans h
      refine lv_tableIn (off := 36) (tgt := 50) hx hb dX4_road_14 (by rw [c5]; decide) (by rw [c5]; decide) (by rw [c5]; rfl) (by decide) ?_
      refine lv_aload_n hx hb dX4_road_50 rfl (lv_at hl 0 rfl) ?_
      refine m_get hx hb hts hown hKv hM (fun _ h => List.mem_cons_of_mem _ (List.mem_append_left _ (List.mem_append_right _ (h)))) (by decide) at_X4 rfl 1 (by decide) k0 (v := .ref (ad (lp (M.1 0 1)))) rfl dX4_road_51 ?_
      refine m_get hx hb hts hown hKv hM (fun _ h => List.mem_cons_of_mem _ (List.mem_append_right _ (h))) (lt_X1 (lp_ok _)) (at_X1 (lp_ok _)) rfl 4 (by decide) k2 (v := .ref (ad ((lp (M.1 0 1)) + 3))) rfl dX4_road_54 ?_
      refine lv_iload_n hx hb dX4_road_57 rfl (lv_at hl 1 rfl) ?_
      obtain ⟨x6, hx6, h⟩ := Option.bind_eq_some_iff.mp h
      refine m_iald hx hb hKv hM (lt_X1_3 (lp_ok _)) (at_X1_3 (lp_ok _)) 0 rfl hx6 dX4_road_58 ?_
      exact m_iret hx hb hr hlocks hM (Option.some.inj h) rfl dX4_road_59
    replace h := (if_neg c5).symm.trans h
    by_cases c7 : a2 = (2 : Int32)
    · replace h := (if_pos c7).symm.trans h
      refine lv_tableIn (off := 46) (tgt := 60) hx hb dX4_road_14 (by rw [c7]; decide) (by rw [c7]; decide) (by rw [c7]; rfl) (by decide) ?_
      refine lv_aload_n hx hb dX4_road_60 rfl (lv_at hl 0 rfl) ?_
      refine m_get hx hb hts hown hKv hM (fun _ h => List.mem_cons_of_mem _ (List.mem_append_left _ (List.mem_append_right _ (h)))) (by decide) at_X4 rfl 1 (by decide) k0 (v := .ref (ad (lp (M.1 0 1)))) rfl dX4_road_61 ?_
      refine m_get hx hb hts hown hKv hM (fun _ h => List.mem_cons_of_mem _ (List.mem_append_right _ (h))) (lt_X1 (lp_ok _)) (at_X1 (lp_ok _)) rfl 5 (by decide) k3 (v := .ref (ad ((lp (M.1 0 1)) + 4))) rfl dX4_road_64 ?_
      refine lv_iload_n hx hb dX4_road_67 rfl (lv_at hl 1 rfl) ?_
      obtain ⟨x8, hx8, h⟩ := Option.bind_eq_some_iff.mp h
      refine m_iald hx hb hKv hM (lt_X1_4 (lp_ok _)) (at_X1_4 (lp_ok _)) 0 rfl hx8 dX4_road_68 ?_
      exact m_iret hx hb hr hlocks hM (Option.some.inj h) rfl dX4_road_69
    replace h := (if_neg c7).symm.trans h
    refine lv_tableOut (tgt := 70) hx hb dX4_road_14 (by have e0 := lv_neT c3 (a := 0) rfl; have e1 := lv_neT c5 (a := 1) rfl; have e2 := lv_neT c7 (a := 2) rfl; omega) (by decide) ?_
    refine lv_iconst (v := (-1 : Int32)) hx hb dX4_road_70 (by decide) ?_
    exact m_iret hx hb hr hlocks hM (Option.some.inj h) rfl dX4_road_71
  · replace h := (if_pos c2).symm.trans h
    refine lv_iconst (v := (-1 : Int32)) hx hb dX4_road_11 (by decide) ?_
    exact m_iret hx hb hr hlocks hM (Option.some.inj h) rfl dX4_road_12
set_option maxHeartbeats 4000000 in
set_option maxRecDepth 100000 in
theorem kX4_stop (l : Launch) (D : va_G) (cI : ClassId) (ad : Nat → Nat) {X : State → Prop} {aS : Nat → Nat} (hX0 : cX D ad aS X) (a1 : Int32) (a2 : Int32) (M : Mem) (res : Int32) (h : fX4_stop a1 a2 M = some res) : mC l yX4_stop wsX4_stop { frames := 2, cells := 0, slots := 0, locals := 42 } D [(cI, .int)] ad 40 X [.ref (ad 0), .int a1, .int a2] (Ec ad cI M) (some (.int res)) (Ec ad cI M) := by
  refine m_ofW (cc := cX4_stop) (maxL := 3) (ret := (some .int)) (by decide) rfl (Nat.le_of_ble_eq_true rfl) ?_
  intro p e s m args below meth c hx hb hml hr hlocks hts hown hKv hXs ls hl hM
  have hXk := hX0.1
  have Z : mZ p s m args meth c cX4_stop 3 (some .int) wsX4_stop RX4 D [(cI, .int)] X := ⟨hx, hb, hml, hr, hlocks, hts, hown, hKv, hXs⟩
  replace hown : s.vm.findClass RX4 = some m.cls := hown
  have hl : lv_has ls 3 [(0, .ref (ad 0)), (1, .int a1), (2, .int a2)] := hl
  have k0 := hts (Cond.fieldLink RX4 19 "NoonWalker" "told" "LNoonWalker$Land;") (List.mem_of_getElem? (i := 1) rfl)
  have k1 := hts (Cond.fieldLink RX4 101 "NoonWalker$Land" "stopTown" "[I") (List.mem_of_getElem? (i := 2) rfl)
  have k2 := hts (Cond.fieldLink RX4 104 "NoonWalker$Land" "rest" "[I") (List.mem_of_getElem? (i := 3) rfl)
  have k3 := hts (Cond.fieldLink RX4 107 "NoonWalker$Land" "comes" "[I") (List.mem_of_getElem? (i := 4) rfl)
  unfold fX4_stop at h
  refine lv_aload_n hx hb dX4_stop_0 rfl (lv_at hl 0 rfl) ?_
  refine m_get hx hb hts hown hKv hM (fun _ h => List.mem_cons_of_mem _ (List.mem_append_left _ (List.mem_append_right _ (h)))) (by decide) at_X4 rfl 1 (by decide) k0 (v := .ref (ad (lp (M.1 0 1)))) rfl dX4_stop_1 ?_
  refine lv_iload_n hx hb dX4_stop_4 rfl (lv_at hl 1 rfl) ?_
  obtain ⟨x1, hx1, h⟩ := Option.bind_eq_some_iff.mp h
  refine m_callV (As := [.int a1]) (st1 := [.int x1]) hx hb (hml.trans hl.1.symm) hown hts hKv hXs hXk hM (kX1_isStop l D cI ad hX0 (lp (M.1 0 1)) (lp_ok _) a1 M _ hx1) (cwV 1 hts gX4_stop_X1_isStop rfl rfl rfl (by decide +kernel) ⟨Nat.le_of_ble_eq_true rfl, Nat.le_of_ble_eq_true rfl⟩) (lt_X1 (lp_ok _)) (at_X1 (lp_ok _)) rfl rfl rfl rfl (Nat.le_of_ble_eq_true rfl) dX4_stop_5 ⟨Nat.zero_le _, Nat.zero_le _⟩ (fun H locs hM => ?_)
  refine lv_if_ne (tgt := 13) hx hb dX4_stop_8 (by decide) (fun c2 => ?_) (fun c2 => ?_)
  · replace h := (if_neg c2).symm.trans h
    refine lv_iload_n hx hb dX4_stop_13 rfl (lv_at hl 2 rfl) ?_
    by_cases c3 : a2 = (0 : Int32)
    · replace h := (if_pos c3).symm.trans h
      refine lv_tableIn (off := 30) (tgt := 44) hx hb dX4_stop_14 (by rw [c3]; decide) (by rw [c3]; decide) (by rw [c3]; rfl) (by decide) ?_
      refine lv_aload_n hx hb dX4_stop_44 rfl (lv_at hl 0 rfl) ?_
      refine m_get hx hb hts hown hKv hM (fun _ h => List.mem_cons_of_mem _ (List.mem_append_left _ (List.mem_append_right _ (h)))) (by decide) at_X4 rfl 1 (by decide) k0 (v := .ref (ad (lp (M.1 0 1)))) rfl dX4_stop_45 ?_
      refine m_get hx hb hts hown hKv hM (fun _ h => List.mem_cons_of_mem _ (List.mem_append_right _ (h))) (lt_X1 (lp_ok _)) (at_X1 (lp_ok _)) rfl 7 (by decide) k1 (v := .ref (ad ((lp (M.1 0 1)) + 5))) rfl dX4_stop_48 ?_
      refine lv_iload_n hx hb dX4_stop_51 rfl (lv_at hl 1 rfl) ?_
      obtain ⟨x4, hx4, h⟩ := Option.bind_eq_some_iff.mp h
      refine m_iald hx hb hKv hM (lt_X1_5 (lp_ok _)) (at_X1_5 (lp_ok _)) 0 rfl hx4 dX4_stop_52 ?_
      exact m_iret hx hb hr hlocks hM (Option.some.inj h) rfl dX4_stop_53
    replace h := (if_neg c3).symm.trans h
    by_cases c5 : a2 = (1 : Int32)
    · replace h := (if_pos c5).symm.trans h
      refine lv_tableIn (off := 40) (tgt := 54) hx hb dX4_stop_14 (by rw [c5]; decide) (by rw [c5]; decide) (by rw [c5]; rfl) (by decide) ?_
      refine lv_aload_n hx hb dX4_stop_54 rfl (lv_at hl 0 rfl) ?_
      refine m_get hx hb hts hown hKv hM (fun _ h => List.mem_cons_of_mem _ (List.mem_append_left _ (List.mem_append_right _ (h)))) (by decide) at_X4 rfl 1 (by decide) k0 (v := .ref (ad (lp (M.1 0 1)))) rfl dX4_stop_55 ?_
      refine m_get hx hb hts hown hKv hM (fun _ h => List.mem_cons_of_mem _ (List.mem_append_right _ (h))) (lt_X1 (lp_ok _)) (at_X1 (lp_ok _)) rfl 8 (by decide) k2 (v := .ref (ad ((lp (M.1 0 1)) + 6))) rfl dX4_stop_58 ?_
      refine lv_iload_n hx hb dX4_stop_61 rfl (lv_at hl 1 rfl) ?_
      obtain ⟨x6, hx6, h⟩ := Option.bind_eq_some_iff.mp h
      refine m_iald hx hb hKv hM (lt_X1_6 (lp_ok _)) (at_X1_6 (lp_ok _)) 0 rfl hx6 dX4_stop_62 ?_
      exact m_iret hx hb hr hlocks hM (Option.some.inj h) rfl dX4_stop_63
    replace h := (if_neg c5).symm.trans h
    by_cases c7 : a2 = (2 : Int32)
    · replace h := (if_pos c7).symm.trans h
      refine lv_tableIn (off := 50) (tgt := 64) hx hb dX4_stop_14 (by rw [c7]; decide) (by rw [c7]; decide) (by rw [c7]; rfl) (by decide) ?_
      refine lv_aload_n hx hb dX4_stop_64 rfl (lv_at hl 0 rfl) ?_
      refine m_get hx hb hts hown hKv hM (fun _ h => List.mem_cons_of_mem _ (List.mem_append_left _ (List.mem_append_right _ (h)))) (by decide) at_X4 rfl 1 (by decide) k0 (v := .ref (ad (lp (M.1 0 1)))) rfl dX4_stop_65 ?_
      refine m_get hx hb hts hown hKv hM (fun _ h => List.mem_cons_of_mem _ (List.mem_append_right _ (h))) (lt_X1 (lp_ok _)) (at_X1 (lp_ok _)) rfl 9 (by decide) k3 (v := .ref (ad ((lp (M.1 0 1)) + 7))) rfl dX4_stop_68 ?_
      refine lv_iload_n hx hb dX4_stop_71 rfl (lv_at hl 1 rfl) ?_
      obtain ⟨x8, hx8, h⟩ := Option.bind_eq_some_iff.mp h
      refine m_iald hx hb hKv hM (lt_X1_7 (lp_ok _)) (at_X1_7 (lp_ok _)) 0 rfl hx8 dX4_stop_72 ?_
      exact m_iret hx hb hr hlocks hM (Option.some.inj h) rfl dX4_stop_73
    replace h := (if_neg c7).symm.trans h
    by_cases c9 : a2 = (3 : Int32)
    · replace h := (if_pos c9).symm.trans h
      refine lv_tableIn (off := 60) (tgt := 74) hx hb dX4_stop_14 (by rw [c9]; decide) (by rw [c9]; decide) (by rw [c9]; rfl) (by decide) ?_
      refine lv_aload_n hx hb dX4_stop_74 rfl (lv_at hl 0 rfl) ?_
      refine m_get hx hb hts hown hKv hM (fun _ h => List.mem_cons_of_mem _ (List.mem_append_left _ (List.mem_append_right _ (h)))) (by decide) at_X4 rfl 1 (by decide) k0 (v := .ref (ad (lp (M.1 0 1)))) rfl dX4_stop_75 ?_
      refine lv_iload_n hx hb dX4_stop_78 rfl (lv_at hl 1 rfl) ?_
      obtain ⟨x10, hx10, h⟩ := Option.bind_eq_some_iff.mp h
      refine m_callV (As := [.int a1]) (st1 := [.int x10]) hx hb (hml.trans hl.1.symm) hown hts hKv hXs hXk hM (kX1_leaves l D cI ad hX0 (lp (M.1 0 1)) (lp_ok _) a1 M _ hx10) (cwV 1 hts gX4_stop_X1_leaves rfl rfl rfl (by decide +kernel) ⟨Nat.le_of_ble_eq_true rfl, Nat.le_of_ble_eq_true rfl⟩) (lt_X1 (lp_ok _)) (at_X1 (lp_ok _)) rfl rfl rfl rfl (Nat.le_of_ble_eq_true rfl) dX4_stop_79 ⟨Nat.zero_le _, Nat.zero_le _⟩ (fun H locs hM => ?_)
      exact m_iret hx hb hr hlocks hM (Option.some.inj h) rfl dX4_stop_82
    replace h := (if_neg c9).symm.trans h
    refine lv_tableOut (tgt := 83) hx hb dX4_stop_14 (by have e0 := lv_neT c3 (a := 0) rfl; have e1 := lv_neT c5 (a := 1) rfl; have e2 := lv_neT c7 (a := 2) rfl; have e3 := lv_neT c9 (a := 3) rfl; omega) (by decide) ?_
    refine lv_iconst (v := (-1 : Int32)) hx hb dX4_stop_83 (by decide) ?_
    exact m_iret hx hb hr hlocks hM (Option.some.inj h) rfl dX4_stop_84
  · replace h := (if_pos c2).symm.trans h
    refine lv_iconst (v := (-1 : Int32)) hx hb dX4_stop_11 (by decide) ?_
    exact m_iret hx hb hr hlocks hM (Option.some.inj h) rfl dX4_stop_12
set_option maxHeartbeats 4000000 in
set_option maxRecDepth 100000 in
theorem kX4_far (l : Launch) (D : va_G) (cI : ClassId) (ad : Nat → Nat) {X : State → Prop} {aS : Nat → Nat} (hX0 : cX D ad aS X) (a1 : Int32) (a2 : Int32) (M : Mem) (res : Int32) (h : fX4_far a1 a2 M = some res) : mC l yX4_far wsX4_far { frames := 2, cells := 0, slots := 0, locals := 43 } D [(cI, .int)] ad 40 X [.ref (ad 0), .int a1, .int a2] (Ec ad cI M) (some (.int res)) (Ec ad cI M) := by
  refine m_ofW (cc := cX4_far) (maxL := 3) (ret := (some .int)) (by decide) rfl (Nat.le_of_ble_eq_true rfl) ?_
  intro p e s m args below meth c hx hb hml hr hlocks hts hown hKv hXs ls hl hM
  have hXk := hX0.1
  have Z : mZ p s m args meth c cX4_far 3 (some .int) wsX4_far RX4 D [(cI, .int)] X := ⟨hx, hb, hml, hr, hlocks, hts, hown, hKv, hXs⟩
  replace hown : s.vm.findClass RX4 = some m.cls := hown
  have hl : lv_has ls 3 [(0, .ref (ad 0)), (1, .int a1), (2, .int a2)] := hl
  have k0 := hts (Cond.fieldLink RX4 19 "NoonWalker" "told" "LNoonWalker$Land;") (List.mem_of_getElem? (i := 1) rfl)
  unfold fX4_far at h
  refine lv_aload_n hx hb dX4_far_0 rfl (lv_at hl 0 rfl) ?_
  refine m_get hx hb hts hown hKv hM (fun _ h => List.mem_cons_of_mem _ (List.mem_append_left _ (List.mem_append_right _ (h)))) (by decide) at_X4 rfl 1 (by decide) k0 (v := .ref (ad (lp (M.1 0 1)))) rfl dX4_far_1 ?_
  refine lv_iload_n hx hb dX4_far_4 rfl (lv_at hl 1 rfl) ?_
  obtain ⟨x1, hx1, h⟩ := Option.bind_eq_some_iff.mp h
  refine m_callV (As := [.int a1]) (st1 := [.int x1]) hx hb (hml.trans hl.1.symm) hown hts hKv hXs hXk hM (kX1_isTown l D cI ad hX0 (lp (M.1 0 1)) (lp_ok _) a1 M _ hx1) (cwV 1 hts gX4_far_X1_isTown rfl rfl rfl (by decide +kernel) ⟨Nat.le_of_ble_eq_true rfl, Nat.le_of_ble_eq_true rfl⟩) (lt_X1 (lp_ok _)) (at_X1 (lp_ok _)) rfl rfl rfl rfl (Nat.le_of_ble_eq_true rfl) dX4_far_5 ⟨Nat.zero_le _, Nat.zero_le _⟩ (fun H locs hM => ?_)
  refine lv_if_eq (tgt := 22) hx hb dX4_far_8 (by decide) (fun c2 => ?_) (fun c2 => ?_)
  · replace h := (if_pos c2).symm.trans h
    refine lv_iconst (v := (-1 : Int32)) hx hb dX4_far_22 (by decide) ?_
    exact m_iret hx hb hr hlocks hM (Option.some.inj h) rfl dX4_far_23
  · replace h := (if_neg c2).symm.trans h
    refine lv_aload_n hx hb dX4_far_11 rfl (lv_at hl 0 rfl) ?_
    refine m_get hx hb hts hown hKv hM (fun _ h => List.mem_cons_of_mem _ (List.mem_append_left _ (List.mem_append_right _ (h)))) (by decide) at_X4 rfl 1 (by decide) k0 (v := .ref (ad (lp (M.1 0 1)))) rfl dX4_far_12 ?_
    refine lv_iload_n hx hb dX4_far_15 rfl (lv_at hl 2 rfl) ?_
    obtain ⟨x3, hx3, h⟩ := Option.bind_eq_some_iff.mp h
    refine m_callV (As := [.int a2]) (st1 := [.int x3]) hx hb (hml.trans hl.1.symm) hown hts hKv hXs hXk hM (kX1_isTown l D cI ad hX0 (lp (M.1 0 1)) (lp_ok _) a2 M _ hx3) (cwV 1 hts gX4_far_X1_isTown rfl rfl rfl (by decide +kernel) ⟨Nat.le_of_ble_eq_true rfl, Nat.le_of_ble_eq_true rfl⟩) (lt_X1 (lp_ok _)) (at_X1 (lp_ok _)) rfl rfl rfl rfl (Nat.le_of_ble_eq_true rfl) dX4_far_16 ⟨Nat.zero_le _, Nat.zero_le _⟩ (fun H locs hM => ?_)
    refine lv_if_ne (tgt := 24) hx hb dX4_far_19 (by decide) (fun c4 => ?_) (fun c4 => ?_)
    · replace h := (if_neg c4).symm.trans h
      refine lv_aload_n hx hb dX4_far_24 rfl (lv_at hl 0 rfl) ?_
      refine m_get hx hb hts hown hKv hM (fun _ h => List.mem_cons_of_mem _ (List.mem_append_left _ (List.mem_append_right _ (h)))) (by decide) at_X4 rfl 1 (by decide) k0 (v := .ref (ad (lp (M.1 0 1)))) rfl dX4_far_25 ?_
      refine lv_iload_n hx hb dX4_far_28 rfl (lv_at hl 1 rfl) ?_
      refine lv_iload_n hx hb dX4_far_29 rfl (lv_at hl 2 rfl) ?_
      obtain ⟨x5, hx5, h⟩ := Option.bind_eq_some_iff.mp h
      refine m_callV (As := [.int a1, .int a2]) (st1 := [.int x5]) hx hb (hml.trans hl.1.symm) hown hts hKv hXs hXk hM (kX1_distance l D cI ad hX0 (lp (M.1 0 1)) (lp_ok _) a1 a2 M _ hx5) (cwV 2 hts gX4_far_X1_distance rfl rfl rfl (by decide +kernel) ⟨Nat.le_of_ble_eq_true rfl, Nat.le_of_ble_eq_true rfl⟩) (lt_X1 (lp_ok _)) (at_X1 (lp_ok _)) rfl rfl rfl rfl (Nat.le_of_ble_eq_true rfl) dX4_far_30 ⟨Nat.zero_le _, Nat.zero_le _⟩ (fun H locs hM => ?_)
      exact m_iret hx hb hr hlocks hM (Option.some.inj h) rfl dX4_far_33
    · replace h := (if_pos c4).symm.trans h
      refine lv_iconst (v := (-1 : Int32)) hx hb dX4_far_22 (by decide) ?_
      exact m_iret hx hb hr hlocks hM (Option.some.inj h) rfl dX4_far_23
set_option maxHeartbeats 4000000 in
set_option maxRecDepth 100000 in
theorem kX4_isHour (l : Launch) (D : va_G) (cI : ClassId) (ad : Nat → Nat) {X : State → Prop} {aS : Nat → Nat} (hX0 : cX D ad aS X) (a0 : Int32) (M : Mem) (res : Int32) (h : fX4_isHour a0 = some res) : mC l yX4_isHour wsX4_isHour { frames := 0, cells := 0, slots := 0, locals := 0 } D [(cI, .int)] ad 40 X [.int a0] (Ec ad cI M) (some (.int res)) (Ec ad cI M) := by
  refine m_ofW (cc := cX4_isHour) (maxL := 1) (ret := (some .boolean)) (by decide) rfl (Nat.le_of_ble_eq_true rfl) ?_
  intro p e s m args below meth c hx hb hml hr hlocks hts hown hKv hXs ls hl hM
  have hXk := hX0.1
  have Z : mZ p s m args meth c cX4_isHour 1 (some .boolean) wsX4_isHour RX4 D [(cI, .int)] X := ⟨hx, hb, hml, hr, hlocks, hts, hown, hKv, hXs⟩
  replace hown : s.vm.findClass RX4 = some m.cls := hown
  have hl : lv_has ls 1 [(0, .int a0)] := hl
  unfold fX4_isHour at h
  refine lv_iload_n hx hb dX4_isHour_0 rfl (lv_at hl 0 rfl) ?_
  refine lv_if_lt (tgt := 15) hx hb dX4_isHour_1 (by decide) (fun c1 => ?_) (fun c1 => ?_)
  · replace h := (if_pos c1).symm.trans h
    refine lv_iconst (v := (0 : Int32)) hx hb dX4_isHour_15 (by decide) ?_
    exact m_zret hx hb hr hlocks hM (Option.some.inj h) rfl rfl dX4_isHour_16
  · replace h := (if_neg c1).symm.trans h
    refine lv_iload_n hx hb dX4_isHour_4 rfl (lv_at hl 0 rfl) ?_
    refine lv_sipush (v := (999 : Int32)) hx hb dX4_isHour_5 (by decide) ?_
    refine lv_icmp_gt (tgt := 15) hx hb dX4_isHour_8 (by decide) (fun c2 => ?_) (fun c2 => ?_)
    · replace h := (if_pos c2).symm.trans h
      refine lv_iconst (v := (0 : Int32)) hx hb dX4_isHour_15 (by decide) ?_
      exact m_zret hx hb hr hlocks hM (Option.some.inj h) rfl rfl dX4_isHour_16
    · replace h := (if_neg c2).symm.trans h
      refine lv_iconst (v := (1 : Int32)) hx hb dX4_isHour_11 (by decide) ?_
      refine lv_goto (tgt := 16) hx hb dX4_isHour_12 (by decide) ?_
      exact m_zret hx hb hr hlocks hM (Option.some.inj h) rfl rfl dX4_isHour_16
set_option maxHeartbeats 4000000 in
set_option maxRecDepth 100000 in
theorem kX4_where (l : Launch) (D : va_G) (cI : ClassId) (ad : Nat → Nat) {X : State → Prop} {aS : Nat → Nat} (hX0 : cX D ad aS X) (a1 : Int32) (a2 : Int32) (M : Mem) (res : Int32) (h : fX4_where a1 a2 M = some res) : mC l yX4_where wsX4_where { frames := 4, cells := 0, slots := 0, locals := 89 } D [(cI, .int)] ad 40 X [.ref (ad 0), .int a1, .int a2] (Ec ad cI M) (some (.int res)) (Ec ad cI M) := by
  refine m_ofW (cc := cX4_where) (maxL := 3) (ret := (some .int)) (by decide) rfl (Nat.le_of_ble_eq_true rfl) ?_
  intro p e s m args below meth c hx hb hml hr hlocks hts hown hKv hXs ls hl hM
  have hXk := hX0.1
  have Z : mZ p s m args meth c cX4_where 3 (some .int) wsX4_where RX4 D [(cI, .int)] X := ⟨hx, hb, hml, hr, hlocks, hts, hown, hKv, hXs⟩
  replace hown : s.vm.findClass RX4 = some m.cls := hown
  have hl : lv_has ls 3 [(0, .ref (ad 0)), (1, .int a1), (2, .int a2)] := hl
  have k0 := hts (Cond.fieldLink RX4 19 "NoonWalker" "told" "LNoonWalker$Land;") (List.mem_of_getElem? (i := 1) rfl)
  unfold fX4_where at h
  refine lv_iload_n hx hb dX4_where_0 rfl (lv_at hl 1 rfl) ?_
  obtain ⟨x1, hx1, h⟩ := Option.bind_eq_some_iff.mp h
  refine m_callS (As := [.int a1]) (st1 := [.int x1]) hx hb (hml.trans hl.1.symm) hown hts hKv hXs hXk hM (kX4_isHour l D cI ad hX0 a1 M _ hx1) (va_cwS 1 hts gX4_where_X4_isHour rfl rfl rfl (by decide +kernel) ⟨Nat.le_of_ble_eq_true rfl, Nat.le_of_ble_eq_true rfl⟩) rfl rfl rfl (Nat.le_of_ble_eq_true rfl) dX4_where_1 ⟨Nat.zero_le _, Nat.zero_le _⟩ (fun H locs hM => ?_)
  refine lv_if_ne (tgt := 9) hx hb dX4_where_4 (by decide) (fun c2 => ?_) (fun c2 => ?_)
  · replace h := (if_neg c2).symm.trans h
    refine lv_iload_n hx hb dX4_where_9 rfl (lv_at hl 2 rfl) ?_
    by_cases c3 : a2 = (0 : Int32)
    · replace h := (if_pos c3).symm.trans h
      refine lv_tableIn (off := 30) (tgt := 40) hx hb dX4_where_10 (by rw [c3]; decide) (by rw [c3]; decide) (by rw [c3]; rfl) (by decide) ?_
      refine lv_aload_n hx hb dX4_where_40 rfl (lv_at hl 0 rfl) ?_
      refine m_get hx hb hts hown hKv hM (fun _ h => List.mem_cons_of_mem _ (List.mem_append_left _ (List.mem_append_right _ (h)))) (by decide) at_X4 rfl 1 (by decide) k0 (v := .ref (ad (lp (M.1 0 1)))) rfl dX4_where_41 ?_
      refine lv_iload_n hx hb dX4_where_44 rfl (lv_at hl 1 rfl) ?_
      obtain ⟨x4, hx4, h⟩ := Option.bind_eq_some_iff.mp h
      refine m_callV (As := [.int a1]) (st1 := [.int x4]) hx hb (hml.trans hl.1.symm) hown hts hKv hXs hXk hM (kX1_townAt l D cI ad hX0 (lp (M.1 0 1)) (lp_ok _) a1 M _ hx4) (cwV 1 hts gX4_where_X1_townAt rfl rfl rfl (by decide +kernel) ⟨Nat.le_of_ble_eq_true rfl, Nat.le_of_ble_eq_true rfl⟩) (lt_X1 (lp_ok _)) (at_X1 (lp_ok _)) rfl rfl rfl rfl (Nat.le_of_ble_eq_true rfl) dX4_where_45 ⟨Nat.zero_le _, Nat.zero_le _⟩ (fun H locs hM => ?_)
      exact m_iret hx hb hr hlocks hM (Option.some.inj h) rfl dX4_where_48
    replace h := (if_neg c3).symm.trans h
    by_cases c5 : a2 = (1 : Int32)
    · replace h := (if_pos c5).symm.trans h
      refine lv_tableIn (off := 39) (tgt := 49) hx hb dX4_where_10 (by rw [c5]; decide) (by rw [c5]; decide) (by rw [c5]; rfl) (by decide) ?_
      refine lv_aload_n hx hb dX4_where_49 rfl (lv_at hl 0 rfl) ?_
      refine m_get hx hb hts hown hKv hM (fun _ h => List.mem_cons_of_mem _ (List.mem_append_left _ (List.mem_append_right _ (h)))) (by decide) at_X4 rfl 1 (by decide) k0 (v := .ref (ad (lp (M.1 0 1)))) rfl dX4_where_50 ?_
      refine lv_iload_n hx hb dX4_where_53 rfl (lv_at hl 1 rfl) ?_
      obtain ⟨x6, hx6, h⟩ := Option.bind_eq_some_iff.mp h
      refine m_callV (As := [.int a1]) (st1 := [.int x6]) hx hb (hml.trans hl.1.symm) hown hts hKv hXs hXk hM (kX1_roadAt l D cI ad hX0 (lp (M.1 0 1)) (lp_ok _) a1 M _ hx6) (cwV 1 hts gX4_where_X1_roadAt rfl rfl rfl (by decide +kernel) ⟨Nat.le_of_ble_eq_true rfl, Nat.le_of_ble_eq_true rfl⟩) (lt_X1 (lp_ok _)) (at_X1 (lp_ok _)) rfl rfl rfl rfl (Nat.le_of_ble_eq_true rfl) dX4_where_54 ⟨Nat.zero_le _, Nat.zero_le _⟩ (fun H locs hM => ?_)
      exact m_iret hx hb hr hlocks hM (Option.some.inj h) rfl dX4_where_57
    replace h := (if_neg c5).symm.trans h
    by_cases c7 : a2 = (2 : Int32)
    · replace h := (if_pos c7).symm.trans h
      refine lv_tableIn (off := 48) (tgt := 58) hx hb dX4_where_10 (by rw [c7]; decide) (by rw [c7]; decide) (by rw [c7]; rfl) (by decide) ?_
      refine lv_aload_n hx hb dX4_where_58 rfl (lv_at hl 0 rfl) ?_
      refine m_get hx hb hts hown hKv hM (fun _ h => List.mem_cons_of_mem _ (List.mem_append_left _ (List.mem_append_right _ (h)))) (by decide) at_X4 rfl 1 (by decide) k0 (v := .ref (ad (lp (M.1 0 1)))) rfl dX4_where_59 ?_
      refine lv_iload_n hx hb dX4_where_62 rfl (lv_at hl 1 rfl) ?_
      obtain ⟨x8, hx8, h⟩ := Option.bind_eq_some_iff.mp h
      refine m_callV (As := [.int a1]) (st1 := [.int x8]) hx hb (hml.trans hl.1.symm) hown hts hKv hXs hXk hM (kX1_goneAt l D cI ad hX0 (lp (M.1 0 1)) (lp_ok _) a1 M _ hx8) (cwV 1 hts gX4_where_X1_goneAt rfl rfl rfl (by decide +kernel) ⟨Nat.le_of_ble_eq_true rfl, Nat.le_of_ble_eq_true rfl⟩) (lt_X1 (lp_ok _)) (at_X1 (lp_ok _)) rfl rfl rfl rfl (Nat.le_of_ble_eq_true rfl) dX4_where_63 ⟨Nat.zero_le _, Nat.zero_le _⟩ (fun H locs hM => ?_)
      exact m_iret hx hb hr hlocks hM (Option.some.inj h) rfl dX4_where_66
    replace h := (if_neg c7).symm.trans h
    by_cases c9 : a2 = (3 : Int32)
    · replace h := (if_pos c9).symm.trans h
      refine lv_tableIn (off := 57) (tgt := 67) hx hb dX4_where_10 (by rw [c9]; decide) (by rw [c9]; decide) (by rw [c9]; rfl) (by decide) ?_
      refine lv_aload_n hx hb dX4_where_67 rfl (lv_at hl 0 rfl) ?_
      refine m_get hx hb hts hown hKv hM (fun _ h => List.mem_cons_of_mem _ (List.mem_append_left _ (List.mem_append_right _ (h)))) (by decide) at_X4 rfl 1 (by decide) k0 (v := .ref (ad (lp (M.1 0 1)))) rfl dX4_where_68 ?_
      refine lv_iload_n hx hb dX4_where_71 rfl (lv_at hl 1 rfl) ?_
      obtain ⟨x10, hx10, h⟩ := Option.bind_eq_some_iff.mp h
      refine m_callV (As := [.int a1]) (st1 := [.int x10]) hx hb (hml.trans hl.1.symm) hown hts hKv hXs hXk hM (kX1_lastCome l D cI ad hX0 (lp (M.1 0 1)) (lp_ok _) a1 M _ hx10) (cwV 1 hts gX4_where_X1_lastCome rfl rfl rfl (by decide +kernel) ⟨Nat.le_of_ble_eq_true rfl, Nat.le_of_ble_eq_true rfl⟩) (lt_X1 (lp_ok _)) (at_X1 (lp_ok _)) rfl rfl rfl rfl (Nat.le_of_ble_eq_true rfl) dX4_where_72 ⟨Nat.zero_le _, Nat.zero_le _⟩ (fun H locs hM => ?_)
      refine lv_iconst (v := (1 : Int32)) hx hb dX4_where_75 (by decide) ?_
      refine lv_iadd hx hb dX4_where_76 ?_
      exact m_iret hx hb hr hlocks hM (Option.some.inj h) rfl dX4_where_77
    replace h := (if_neg c9).symm.trans h
    refine lv_tableOut (tgt := 78) hx hb dX4_where_10 (by have e0 := lv_neT c3 (a := 0) rfl; have e1 := lv_neT c5 (a := 1) rfl; have e2 := lv_neT c7 (a := 2) rfl; have e3 := lv_neT c9 (a := 3) rfl; omega) (by decide) ?_
    refine lv_iconst (v := (-1 : Int32)) hx hb dX4_where_78 (by decide) ?_
    exact m_iret hx hb hr hlocks hM (Option.some.inj h) rfl dX4_where_79
  · replace h := (if_pos c2).symm.trans h
    refine lv_iconst (v := (-1 : Int32)) hx hb dX4_where_7 (by decide) ?_
    exact m_iret hx hb hr hlocks hM (Option.some.inj h) rfl dX4_where_8
set_option maxHeartbeats 4000000 in
set_option maxRecDepth 100000 in
theorem kX4_off (l : Launch) (D : va_G) (cI : ClassId) (ad : Nat → Nat) {X : State → Prop} {aS : Nat → Nat} (hX0 : cX D ad aS X) (a1 : Int32) (a2 : Int32) (M : Mem) (res : Int32) (h : fX4_off a1 a2 M = some res) : mC l yX4_off wsX4_off { frames := 4, cells := 0, slots := 0, locals := 91 } D [(cI, .int)] ad 40 X [.ref (ad 0), .int a1, .int a2] (Ec ad cI M) (some (.int res)) (Ec ad cI M) := by
  refine m_ofW (cc := cX4_off) (maxL := 3) (ret := (some .int)) (by decide) rfl (Nat.le_of_ble_eq_true rfl) ?_
  intro p e s m args below meth c hx hb hml hr hlocks hts hown hKv hXs ls hl hM
  have hXk := hX0.1
  have Z : mZ p s m args meth c cX4_off 3 (some .int) wsX4_off RX4 D [(cI, .int)] X := ⟨hx, hb, hml, hr, hlocks, hts, hown, hKv, hXs⟩
  replace hown : s.vm.findClass RX4 = some m.cls := hown
  have hl : lv_has ls 3 [(0, .ref (ad 0)), (1, .int a1), (2, .int a2)] := hl
  have k0 := hts (Cond.fieldLink RX4 19 "NoonWalker" "told" "LNoonWalker$Land;") (List.mem_of_getElem? (i := 1) rfl)
  unfold fX4_off at h
  refine lv_aload_n hx hb dX4_off_0 rfl (lv_at hl 0 rfl) ?_
  refine m_get hx hb hts hown hKv hM (fun _ h => List.mem_cons_of_mem _ (List.mem_append_left _ (List.mem_append_right _ (h)))) (by decide) at_X4 rfl 1 (by decide) k0 (v := .ref (ad (lp (M.1 0 1)))) rfl dX4_off_1 ?_
  refine lv_iload_n hx hb dX4_off_4 rfl (lv_at hl 1 rfl) ?_
  obtain ⟨x1, hx1, h⟩ := Option.bind_eq_some_iff.mp h
  refine m_callV (As := [.int a1]) (st1 := [.int x1]) hx hb (hml.trans hl.1.symm) hown hts hKv hXs hXk hM (kX1_isTown l D cI ad hX0 (lp (M.1 0 1)) (lp_ok _) a1 M _ hx1) (cwV 1 hts gX4_off_X1_isTown rfl rfl rfl (by decide +kernel) ⟨Nat.le_of_ble_eq_true rfl, Nat.le_of_ble_eq_true rfl⟩) (lt_X1 (lp_ok _)) (at_X1 (lp_ok _)) rfl rfl rfl rfl (Nat.le_of_ble_eq_true rfl) dX4_off_5 ⟨Nat.zero_le _, Nat.zero_le _⟩ (fun H locs hM => ?_)
  refine lv_if_eq (tgt := 18) hx hb dX4_off_8 (by decide) (fun c2 => ?_) (fun c2 => ?_)
  · replace h := (if_pos c2).symm.trans h
    refine lv_iconst (v := (-1 : Int32)) hx hb dX4_off_18 (by decide) ?_
    exact m_iret hx hb hr hlocks hM (Option.some.inj h) rfl dX4_off_19
  · replace h := (if_neg c2).symm.trans h
    refine lv_iload_n hx hb dX4_off_11 rfl (lv_at hl 2 rfl) ?_
    obtain ⟨x3, hx3, h⟩ := Option.bind_eq_some_iff.mp h
    refine m_callS (As := [.int a2]) (st1 := [.int x3]) hx hb (hml.trans hl.1.symm) hown hts hKv hXs hXk hM (kX4_isHour l D cI ad hX0 a2 M _ hx3) (va_cwS 1 hts gX4_off_X4_isHour rfl rfl rfl (by decide +kernel) ⟨Nat.le_of_ble_eq_true rfl, Nat.le_of_ble_eq_true rfl⟩) rfl rfl rfl (Nat.le_of_ble_eq_true rfl) dX4_off_12 ⟨Nat.zero_le _, Nat.zero_le _⟩ (fun H locs hM => ?_)
    refine lv_if_ne (tgt := 20) hx hb dX4_off_15 (by decide) (fun c4 => ?_) (fun c4 => ?_)
    · replace h := (if_neg c4).symm.trans h
      refine lv_aload_n hx hb dX4_off_20 rfl (lv_at hl 0 rfl) ?_
      refine m_get hx hb hts hown hKv hM (fun _ h => List.mem_cons_of_mem _ (List.mem_append_left _ (List.mem_append_right _ (h)))) (by decide) at_X4 rfl 1 (by decide) k0 (v := .ref (ad (lp (M.1 0 1)))) rfl dX4_off_21 ?_
      refine lv_iload_n hx hb dX4_off_24 rfl (lv_at hl 1 rfl) ?_
      refine lv_iload_n hx hb dX4_off_25 rfl (lv_at hl 2 rfl) ?_
      obtain ⟨x5, hx5, h⟩ := Option.bind_eq_some_iff.mp h
      refine m_callV (As := [.int a1, .int a2]) (st1 := [.int x5]) hx hb (hml.trans hl.1.symm) hown hts hKv hXs hXk hM (kX1_distanceAt l D cI ad hX0 (lp (M.1 0 1)) (lp_ok _) a1 a2 M _ hx5) (cwV 2 hts gX4_off_X1_distanceAt rfl rfl rfl (by decide +kernel) ⟨Nat.le_of_ble_eq_true rfl, Nat.le_of_ble_eq_true rfl⟩) (lt_X1 (lp_ok _)) (at_X1 (lp_ok _)) rfl rfl rfl rfl (Nat.le_of_ble_eq_true rfl) dX4_off_26 ⟨Nat.zero_le _, Nat.zero_le _⟩ (fun H locs hM => ?_)
      exact m_iret hx hb hr hlocks hM (Option.some.inj h) rfl dX4_off_29
    · replace h := (if_pos c4).symm.trans h
      refine lv_iconst (v := (-1 : Int32)) hx hb dX4_off_18 (by decide) ?_
      exact m_iret hx hb hr hlocks hM (Option.some.inj h) rfl dX4_off_19
set_option maxHeartbeats 4000000 in
set_option maxRecDepth 100000 in
theorem kX4_clock (l : Launch) (D : va_G) (cI : ClassId) (ad : Nat → Nat) {X : State → Prop} {aS : Nat → Nat} (hX0 : cX D ad aS X) (a1 : Int32) (a2 : Int32) (M : Mem) (res : Int32) (h : fX4_clock a1 a2 M = some res) : mC l yX4_clock wsX4_clock { frames := 5, cells := 0, slots := 0, locals := 113 } D [(cI, .int)] ad 40 X [.ref (ad 0), .int a1, .int a2] (Ec ad cI M) (some (.int res)) (Ec ad cI M) := by
  refine m_ofW (cc := cX4_clock) (maxL := 3) (ret := (some .int)) (by decide) rfl (Nat.le_of_ble_eq_true rfl) ?_
  intro p e s m args below meth c hx hb hml hr hlocks hts hown hKv hXs ls hl hM
  have hXk := hX0.1
  have Z : mZ p s m args meth c cX4_clock 3 (some .int) wsX4_clock RX4 D [(cI, .int)] X := ⟨hx, hb, hml, hr, hlocks, hts, hown, hKv, hXs⟩
  replace hown : s.vm.findClass RX4 = some m.cls := hown
  have hl : lv_has ls 3 [(0, .ref (ad 0)), (1, .int a1), (2, .int a2)] := hl
  have k0 := hts (Cond.fieldLink RX4 19 "NoonWalker" "told" "LNoonWalker$Land;") (List.mem_of_getElem? (i := 1) rfl)
  unfold fX4_clock at h
  refine lv_aload_n hx hb dX4_clock_0 rfl (lv_at hl 0 rfl) ?_
  refine m_get hx hb hts hown hKv hM (fun _ h => List.mem_cons_of_mem _ (List.mem_append_left _ (List.mem_append_right _ (h)))) (by decide) at_X4 rfl 1 (by decide) k0 (v := .ref (ad (lp (M.1 0 1)))) rfl dX4_clock_1 ?_
  refine lv_iload_n hx hb dX4_clock_4 rfl (lv_at hl 1 rfl) ?_
  obtain ⟨x1, hx1, h⟩ := Option.bind_eq_some_iff.mp h
  refine m_callV (As := [.int a1]) (st1 := [.int x1]) hx hb (hml.trans hl.1.symm) hown hts hKv hXs hXk hM (kX1_isTown l D cI ad hX0 (lp (M.1 0 1)) (lp_ok _) a1 M _ hx1) (cwV 1 hts gX4_clock_X1_isTown rfl rfl rfl (by decide +kernel) ⟨Nat.le_of_ble_eq_true rfl, Nat.le_of_ble_eq_true rfl⟩) (lt_X1 (lp_ok _)) (at_X1 (lp_ok _)) rfl rfl rfl rfl (Nat.le_of_ble_eq_true rfl) dX4_clock_5 ⟨Nat.zero_le _, Nat.zero_le _⟩ (fun H locs hM => ?_)
  refine lv_if_eq (tgt := 18) hx hb dX4_clock_8 (by decide) (fun c2 => ?_) (fun c2 => ?_)
  · replace h := (if_pos c2).symm.trans h
    refine lv_iconst (v := (-1 : Int32)) hx hb dX4_clock_18 (by decide) ?_
    exact m_iret hx hb hr hlocks hM (Option.some.inj h) rfl dX4_clock_19
  · replace h := (if_neg c2).symm.trans h
    refine lv_iload_n hx hb dX4_clock_11 rfl (lv_at hl 2 rfl) ?_
    obtain ⟨x3, hx3, h⟩ := Option.bind_eq_some_iff.mp h
    refine m_callS (As := [.int a2]) (st1 := [.int x3]) hx hb (hml.trans hl.1.symm) hown hts hKv hXs hXk hM (kX4_isHour l D cI ad hX0 a2 M _ hx3) (va_cwS 1 hts gX4_clock_X4_isHour rfl rfl rfl (by decide +kernel) ⟨Nat.le_of_ble_eq_true rfl, Nat.le_of_ble_eq_true rfl⟩) rfl rfl rfl (Nat.le_of_ble_eq_true rfl) dX4_clock_12 ⟨Nat.zero_le _, Nat.zero_le _⟩ (fun H locs hM => ?_)
    refine lv_if_ne (tgt := 20) hx hb dX4_clock_15 (by decide) (fun c4 => ?_) (fun c4 => ?_)
    · replace h := (if_neg c4).symm.trans h
      refine lv_aload_n hx hb dX4_clock_20 rfl (lv_at hl 0 rfl) ?_
      refine m_get hx hb hts hown hKv hM (fun _ h => List.mem_cons_of_mem _ (List.mem_append_left _ (List.mem_append_right _ (h)))) (by decide) at_X4 rfl 1 (by decide) k0 (v := .ref (ad (lp (M.1 0 1)))) rfl dX4_clock_21 ?_
      refine lv_iload_n hx hb dX4_clock_24 rfl (lv_at hl 1 rfl) ?_
      refine lv_iload_n hx hb dX4_clock_25 rfl (lv_at hl 2 rfl) ?_
      obtain ⟨x5, hx5, h⟩ := Option.bind_eq_some_iff.mp h
      refine m_callV (As := [.int a1, .int a2]) (st1 := [.int x5]) hx hb (hml.trans hl.1.symm) hown hts hKv hXs hXk hM (kX1_clockAt l D cI ad hX0 (lp (M.1 0 1)) (lp_ok _) a1 a2 M _ hx5) (cwV 2 hts gX4_clock_X1_clockAt rfl rfl rfl (by decide +kernel) ⟨Nat.le_of_ble_eq_true rfl, Nat.le_of_ble_eq_true rfl⟩) (lt_X1 (lp_ok _)) (at_X1 (lp_ok _)) rfl rfl rfl rfl (Nat.le_of_ble_eq_true rfl) dX4_clock_26 ⟨Nat.zero_le _, Nat.zero_le _⟩ (fun H locs hM => ?_)
      exact m_iret hx hb hr hlocks hM (Option.some.inj h) rfl dX4_clock_29
    · replace h := (if_pos c4).symm.trans h
      refine lv_iconst (v := (-1 : Int32)) hx hb dX4_clock_18 (by decide) ?_
      exact m_iret hx hb hr hlocks hM (Option.some.inj h) rfl dX4_clock_19
set_option maxHeartbeats 4000000 in
set_option maxRecDepth 100000 in
theorem wX4_light_25 {p : Program} {l : Launch} {e : Env} {s : State} {m : MethodId} {args : Array Value} {below : List Frame} {meth : Method} {c : Code} {D : va_G} {cI : ClassId} {ad : Nat → Nat} {X : State → Prop} (Z : mZ p s m args meth c cX4_light 6 (some .int) wsX4_light RX4 D [(cI, .int)] X) {aS : Nat → Nat} (hX0 : cX D ad aS X)   (u1 : Int32) (u2 : Int32) (M : Mem) {K : Int32 → Option Int32} (res : Int32) (hKc : ∀ (y3 : Int32), K y3 = some res → ∀ (H : Heap) (locs : List Loc) (ls : Array Slot), lv_has ls 6 [(3, .int y3)] → mH D ad 40 (Ec ad cI M) s.heap H locs → W p l e { frames := 5, cells := 0, slots := 0, locals := 113 } s m args below meth c H locs 0 0 (MQ below (mQ D ad 40 (some (.int res)) (Ec ad cI M)) args s 0 0 (mA ad 40)) (F0 m 83 ls [])) :
    ∀ (n : Nat) (v3 : Int32) (v4 : Int32), fX4_light_25 u1 u2 M K n v3 v4 = some res → ∀ (H : Heap) (locs : List Loc) (ls : Array Slot), lv_has ls 6 [(0, .ref (ad 0)), (1, .int u1), (2, .int u2), (3, .int v3), (4, .int v4)] → mH D ad 40 (Ec ad cI M) s.heap H locs → W p l e { frames := 5, cells := 0, slots := 0, locals := 113 } s m args below meth c H locs 0 0 (MQ below (mQ D ad 40 (some (.int res)) (Ec ad cI M)) args s 0 0 (mA ad 40)) (F0 m 25 ls []) := by
  obtain ⟨hx, hb, hml, hr, hlocks, hts, hown, hKv, hXs⟩ := id Z
  have hXk := hX0.1
  have k0 := hts (Cond.fieldLink RX4 19 "NoonWalker" "told" "LNoonWalker$Land;") (List.mem_of_getElem? (i := 1) rfl)
  intro n
  induction n with
  | zero => intro _ _ h; exact absurd h (by unfold fX4_light_25; exact fun h => by cases h)
  | succ n ih =>
    intro v3 v4 h H locs ls hl hM
    rw [fX4_light_25] at h
    refine lv_iload hx hb dX4_light_25 (lv_at hl 4 rfl) ?_
    refine lv_bipush (v := (24 : Int32)) hx hb dX4_light_27 (by decide) ?_
    refine lv_icmp_ge (tgt := 83) hx hb dX4_light_29 (by decide) (fun c1 => ?_) (fun c1 => ?_)
    · replace h := (if_pos c1).symm.trans h
      exact hKc _ h _ _ _ (lv_sub hl [3] rfl) hM
    · replace h := (if_neg c1).symm.trans h
      refine lv_iload_n hx hb dX4_light_32 rfl (lv_at hl 2 rfl) ?_
      refine lv_iload hx hb dX4_light_33 (lv_at hl 4 rfl) ?_
      refine lv_iadd hx hb dX4_light_35 ?_
      refine lv_sipush (v := (999 : Int32)) hx hb dX4_light_36 (by decide) ?_
      refine lv_icmp_gt (tgt := 83) hx hb dX4_light_39 (by decide) (fun c2 => ?_) (fun c2 => ?_)
      · replace h := (if_pos c2).symm.trans h
        exact hKc _ h _ _ _ (lv_sub hl [3] rfl) hM
      · replace h := (if_neg c2).symm.trans h
        refine lv_aload_n hx hb dX4_light_42 rfl (lv_at hl 0 rfl) ?_
        refine m_get hx hb hts hown hKv hM (fun _ h => List.mem_cons_of_mem _ (List.mem_append_left _ (List.mem_append_right _ (h)))) (by decide) at_X4 rfl 1 (by decide) k0 (v := .ref (ad (lp (M.1 0 1)))) rfl dX4_light_43 ?_
        refine lv_iload_n hx hb dX4_light_46 rfl (lv_at hl 1 rfl) ?_
        refine lv_iload_n hx hb dX4_light_47 rfl (lv_at hl 2 rfl) ?_
        refine lv_iload hx hb dX4_light_48 (lv_at hl 4 rfl) ?_
        refine lv_iadd hx hb dX4_light_50 ?_
        obtain ⟨x3, hx3, h⟩ := Option.bind_eq_some_iff.mp h
        refine m_callV (As := [.int u1, .int (u2 + v4)]) (st1 := [.int x3]) hx hb (hml.trans hl.1.symm) hown hts hKv hXs hXk hM (kX1_clockAt l D cI ad hX0 (lp (M.1 0 1)) (lp_ok _) u1 (u2 + v4) M _ hx3) (cwV 2 hts gX4_light_X1_clockAt rfl rfl rfl (by decide +kernel) ⟨Nat.le_of_ble_eq_true rfl, Nat.le_of_ble_eq_true rfl⟩) (lt_X1 (lp_ok _)) (at_X1 (lp_ok _)) rfl rfl rfl rfl (Nat.le_of_ble_eq_true rfl) dX4_light_51 ⟨Nat.zero_le _, Nat.zero_le _⟩ (fun H locs hM => ?_)
        refine lv_istore (lv' := [(5, .int x3), (0, .ref (ad 0)), (1, .int u1), (2, .int u2), (3, .int v3), (4, .int v4)]) hx hb dX4_light_54 hl (by decide) rfl (fun ls hl => ?_)
        refine lv_iload hx hb dX4_light_56 (lv_at hl 0 rfl) ?_
        refine lv_bipush (v := (6 : Int32)) hx hb dX4_light_58 (by decide) ?_
        refine lv_icmp_lt (tgt := 77) hx hb dX4_light_60 (by decide) (fun c4 => ?_) (fun c4 => ?_)
        · replace h := (if_pos c4).symm.trans h
          refine lv_iinc (v := (v4 + 1)) (lv' := [(4, .int (v4 + 1)), (5, .int x3), (0, .ref (ad 0)), (1, .int u1), (2, .int u2), (3, .int v3)]) hx hb dX4_light_77 hl (k := 5) rfl rfl (by decide) rfl (fun ls hl => ?_)
          refine lv_goto (tgt := 25) hx hb dX4_light_80 (by decide) ?_
          exact ih _ _ h _ _ _ (lv_sub hl [2, 3, 4, 5, 0] rfl) hM
        · replace h := (if_neg c4).symm.trans h
          refine lv_iload hx hb dX4_light_63 (lv_at hl 0 rfl) ?_
          refine lv_bipush (v := (17 : Int32)) hx hb dX4_light_65 (by decide) ?_
          refine lv_icmp_gt (tgt := 77) hx hb dX4_light_67 (by decide) (fun c5 => ?_) (fun c5 => ?_)
          · replace h := (if_pos c5).symm.trans h
            refine lv_iinc (v := (v4 + 1)) (lv' := [(4, .int (v4 + 1)), (5, .int x3), (0, .ref (ad 0)), (1, .int u1), (2, .int u2), (3, .int v3)]) hx hb dX4_light_77 hl (k := 5) rfl rfl (by decide) rfl (fun ls hl => ?_)
            refine lv_goto (tgt := 25) hx hb dX4_light_80 (by decide) ?_
            exact ih _ _ h _ _ _ (lv_sub hl [2, 3, 4, 5, 0] rfl) hM
          · replace h := (if_neg c5).symm.trans h
            refine lv_iload_n hx hb dX4_light_70 rfl (lv_at hl 4 rfl) ?_
            refine lv_iconst (v := (1 : Int32)) hx hb dX4_light_71 (by decide) ?_
            refine lv_iload hx hb dX4_light_72 (lv_at hl 5 rfl) ?_
            refine lv_ishl hx hb dX4_light_74 ?_
            refine lv_ior hx hb dX4_light_75 ?_
            refine lv_istore_n (lv' := [(3, .int (v3 ||| ((1 : Int32) <<< (v4 &&& 31)))), (5, .int x3), (0, .ref (ad 0)), (1, .int u1), (2, .int u2), (4, .int v4)]) hx hb dX4_light_76 rfl hl (by decide) rfl (fun ls hl => ?_)
            refine lv_iinc (v := (v4 + 1)) (lv' := [(4, .int (v4 + 1)), (3, .int (v3 ||| ((1 : Int32) <<< (v4 &&& 31)))), (5, .int x3), (0, .ref (ad 0)), (1, .int u1), (2, .int u2)]) hx hb dX4_light_77 hl (k := 5) rfl rfl (by decide) rfl (fun ls hl => ?_)
            refine lv_goto (tgt := 25) hx hb dX4_light_80 (by decide) ?_
            exact ih _ _ h _ _ _ (lv_sub hl [3, 4, 5, 1, 0] rfl) hM
set_option maxHeartbeats 4000000 in
set_option maxRecDepth 100000 in
theorem kX4_light (l : Launch) (D : va_G) (cI : ClassId) (ad : Nat → Nat) {X : State → Prop} {aS : Nat → Nat} (hX0 : cX D ad aS X) (a1 : Int32) (a2 : Int32) (M : Mem) (res : Int32) (h : fX4_light a1 a2 M = some res) : mC l yX4_light wsX4_light { frames := 5, cells := 0, slots := 0, locals := 113 } D [(cI, .int)] ad 40 X [.ref (ad 0), .int a1, .int a2] (Ec ad cI M) (some (.int res)) (Ec ad cI M) := by
  refine m_ofW (cc := cX4_light) (maxL := 6) (ret := (some .int)) (by decide) rfl (Nat.le_of_ble_eq_true rfl) ?_
  intro p e s m args below meth c hx hb hml hr hlocks hts hown hKv hXs ls hl hM
  have hXk := hX0.1
  have Z : mZ p s m args meth c cX4_light 6 (some .int) wsX4_light RX4 D [(cI, .int)] X := ⟨hx, hb, hml, hr, hlocks, hts, hown, hKv, hXs⟩
  replace hown : s.vm.findClass RX4 = some m.cls := hown
  have hl : lv_has ls 6 [(0, .ref (ad 0)), (1, .int a1), (2, .int a2)] := hl
  have k0 := hts (Cond.fieldLink RX4 19 "NoonWalker" "told" "LNoonWalker$Land;") (List.mem_of_getElem? (i := 1) rfl)
  unfold fX4_light at h
  refine lv_aload_n hx hb dX4_light_0 rfl (lv_at hl 0 rfl) ?_
  refine m_get hx hb hts hown hKv hM (fun _ h => List.mem_cons_of_mem _ (List.mem_append_left _ (List.mem_append_right _ (h)))) (by decide) at_X4 rfl 1 (by decide) k0 (v := .ref (ad (lp (M.1 0 1)))) rfl dX4_light_1 ?_
  refine lv_iload_n hx hb dX4_light_4 rfl (lv_at hl 1 rfl) ?_
  obtain ⟨x1, hx1, h⟩ := Option.bind_eq_some_iff.mp h
  refine m_callV (As := [.int a1]) (st1 := [.int x1]) hx hb (hml.trans hl.1.symm) hown hts hKv hXs hXk hM (kX1_isTown l D cI ad hX0 (lp (M.1 0 1)) (lp_ok _) a1 M _ hx1) (cwV 1 hts gX4_light_X1_isTown rfl rfl rfl (by decide +kernel) ⟨Nat.le_of_ble_eq_true rfl, Nat.le_of_ble_eq_true rfl⟩) (lt_X1 (lp_ok _)) (at_X1 (lp_ok _)) rfl rfl rfl rfl (Nat.le_of_ble_eq_true rfl) dX4_light_5 ⟨Nat.zero_le _, Nat.zero_le _⟩ (fun H locs hM => ?_)
  refine lv_if_eq (tgt := 18) hx hb dX4_light_8 (by decide) (fun c2 => ?_) (fun c2 => ?_)
  · replace h := (if_pos c2).symm.trans h
    refine lv_iconst (v := (-1 : Int32)) hx hb dX4_light_18 (by decide) ?_
    exact m_iret hx hb hr hlocks hM (Option.some.inj h) rfl dX4_light_19
  · replace h := (if_neg c2).symm.trans h
    refine lv_iload_n hx hb dX4_light_11 rfl (lv_at hl 2 rfl) ?_
    obtain ⟨x3, hx3, h⟩ := Option.bind_eq_some_iff.mp h
    refine m_callS (As := [.int a2]) (st1 := [.int x3]) hx hb (hml.trans hl.1.symm) hown hts hKv hXs hXk hM (kX4_isHour l D cI ad hX0 a2 M _ hx3) (va_cwS 1 hts gX4_light_X4_isHour rfl rfl rfl (by decide +kernel) ⟨Nat.le_of_ble_eq_true rfl, Nat.le_of_ble_eq_true rfl⟩) rfl rfl rfl (Nat.le_of_ble_eq_true rfl) dX4_light_12 ⟨Nat.zero_le _, Nat.zero_le _⟩ (fun H locs hM => ?_)
    refine lv_if_ne (tgt := 20) hx hb dX4_light_15 (by decide) (fun c4 => ?_) (fun c4 => ?_)
    · replace h := (if_neg c4).symm.trans h
      refine lv_iconst (v := (0 : Int32)) hx hb dX4_light_20 (by decide) ?_
      refine lv_istore_n (lv' := [(3, .int (0 : Int32)), (0, .ref (ad 0)), (1, .int a1), (2, .int a2)]) hx hb dX4_light_21 rfl hl (by decide) rfl (fun ls hl => ?_)
      refine lv_iconst (v := (0 : Int32)) hx hb dX4_light_22 (by decide) ?_
      refine lv_istore (lv' := [(4, .int (0 : Int32)), (3, .int (0 : Int32)), (0, .ref (ad 0)), (1, .int a1), (2, .int a2)]) hx hb dX4_light_23 hl (by decide) rfl (fun ls hl => ?_)
      refine wX4_light_25 Z hX0 a1 a2 M _ (fun y5 h H locs ls hl hM => ?_) _ _ _ h _ _ _ (lv_sub hl [2, 3, 4, 1, 0] rfl) hM
      refine lv_iload_n hx hb dX4_light_83 rfl (lv_at hl 0 rfl) ?_
      exact m_iret hx hb hr hlocks hM (Option.some.inj h) rfl dX4_light_84
    · replace h := (if_pos c4).symm.trans h
      refine lv_iconst (v := (-1 : Int32)) hx hb dX4_light_18 (by decide) ?_
      exact m_iret hx hb hr hlocks hM (Option.some.inj h) rfl dX4_light_19
set_option maxHeartbeats 4000000 in
set_option maxRecDepth 100000 in
theorem kJ9_floorMod_7cf53 (l : Launch) (D : va_G) (cI : ClassId) (ad : Nat → Nat) {X : State → Prop} {aS : Nat → Nat} (hX0 : cX D ad aS X) (a0 : Int32) (a1 : Int32) (M : Mem) (res : Int32) (h : fJ9_floorMod_7cf53 a0 a1 = some res) : mC l yJ9_floorMod_7cf53 wsJ9_floorMod_7cf53 { frames := 0, cells := 0, slots := 0, locals := 0 } D [(cI, .int)] ad 40 X [.int a0, .int a1] (Ec ad cI M) (some (.int res)) (Ec ad cI M) := by
  refine m_ofWF (cc := cJ9_floorMod_7cf53) (maxL := 3) (ret := (some .int)) (by decide +kernel) rfl (Nat.le_of_ble_eq_true rfl) ?_
  intro p e s m args below meth c hx hb hml hr hlocks hts hown hKv hXs ls hl hM
  have hXk := hX0.1
  have Z : mZ p s m args meth c cJ9_floorMod_7cf53 3 (some .int) wsJ9_floorMod_7cf53 RJ9 D [(cI, .int)] X := ⟨hx, hb, hml, hr, hlocks, hts, hown, hKv, hXs⟩
  replace hown : s.vm.findClass RJ9 = some m.cls := hown
  have hl : lv_has ls 3 [(0, .int a0), (1, .int a1)] := hl
  unfold fJ9_floorMod_7cf53 at h
  refine lv_iload_n hx hb dJ9_floorMod_7cf53_0 rfl (lv_at hl 0 rfl) ?_
  refine lv_iload_n hx hb dJ9_floorMod_7cf53_1 rfl (lv_at hl 1 rfl) ?_
  obtain ⟨x1, hx1, h⟩ := Option.bind_eq_some_iff.mp h
  refine m_irem hx hb hx1 dJ9_floorMod_7cf53_2 ?_
  refine lv_istore_n (lv' := [(2, .int x1), (0, .int a0), (1, .int a1)]) hx hb dJ9_floorMod_7cf53_3 rfl hl (by decide) rfl (fun ls hl => ?_)
  refine lv_iload_n hx hb dJ9_floorMod_7cf53_4 rfl (lv_at hl 1 rfl) ?_
  refine lv_iload_n hx hb dJ9_floorMod_7cf53_5 rfl (lv_at hl 2 rfl) ?_
  refine lv_ixor hx hb dJ9_floorMod_7cf53_6 ?_
  refine lv_if_ge (tgt := 18) hx hb dJ9_floorMod_7cf53_7 (by decide) (fun c2 => ?_) (fun c2 => ?_)
  · replace h := (if_pos c2).symm.trans h
    refine lv_iload_n hx hb dJ9_floorMod_7cf53_18 rfl (lv_at hl 0 rfl) ?_
    exact m_iret hx hb hr hlocks hM (Option.some.inj h) rfl dJ9_floorMod_7cf53_19
  · replace h := (if_neg c2).symm.trans h
    refine lv_iload_n hx hb dJ9_floorMod_7cf53_10 rfl (lv_at hl 0 rfl) ?_
    refine lv_if_eq (tgt := 18) hx hb dJ9_floorMod_7cf53_11 (by decide) (fun c3 => ?_) (fun c3 => ?_)
    · replace h := (if_pos c3).symm.trans h
      refine lv_iload_n hx hb dJ9_floorMod_7cf53_18 rfl (lv_at hl 0 rfl) ?_
      exact m_iret hx hb hr hlocks hM (Option.some.inj h) rfl dJ9_floorMod_7cf53_19
    · replace h := (if_neg c3).symm.trans h
      refine lv_iload_n hx hb dJ9_floorMod_7cf53_14 rfl (lv_at hl 0 rfl) ?_
      refine lv_iload_n hx hb dJ9_floorMod_7cf53_15 rfl (lv_at hl 2 rfl) ?_
      refine lv_iadd hx hb dJ9_floorMod_7cf53_16 ?_
      exact m_iret hx hb hr hlocks hM (Option.some.inj h) rfl dJ9_floorMod_7cf53_17
set_option maxHeartbeats 4000000 in
set_option maxRecDepth 100000 in
theorem kX4_pace (l : Launch) (D : va_G) (cI : ClassId) (ad : Nat → Nat) {X : State → Prop} {aS : Nat → Nat} (hX0 : cX D ad aS X) (a1 : Int32) (a2 : Int32) (M : Mem) (res : Int32) (h : fX4_pace a1 a2 M = some res) : mC l yX4_pace wsX4_pace { frames := 5, cells := 0, slots := 0, locals := 113 } D [(cI, .int)] ad 40 X [.ref (ad 0), .int a1, .int a2] (Ec ad cI M) (some (.int res)) (Ec ad cI M) := by
  refine m_ofW (cc := cX4_pace) (maxL := 5) (ret := (some .int)) (by decide) rfl (Nat.le_of_ble_eq_true rfl) ?_
  intro p e s m args below meth c hx hb hml hr hlocks hts hown hKv hXs ls hl hM
  have hXk := hX0.1
  have Z : mZ p s m args meth c cX4_pace 5 (some .int) wsX4_pace RX4 D [(cI, .int)] X := ⟨hx, hb, hml, hr, hlocks, hts, hown, hKv, hXs⟩
  replace hown : s.vm.findClass RX4 = some m.cls := hown
  have hl : lv_has ls 5 [(0, .ref (ad 0)), (1, .int a1), (2, .int a2)] := hl
  have k0 := hts (Cond.fieldLink RX4 19 "NoonWalker" "told" "LNoonWalker$Land;") (List.mem_of_getElem? (i := 1) rfl)
  have k1 := hts (Cond.constant RX4 138 (-1000000)) (List.mem_of_getElem? (i := 2) rfl)
  unfold fX4_pace at h
  refine lv_aload_n hx hb dX4_pace_0 rfl (lv_at hl 0 rfl) ?_
  refine m_get hx hb hts hown hKv hM (fun _ h => List.mem_cons_of_mem _ (List.mem_append_left _ (List.mem_append_right _ (h)))) (by decide) at_X4 rfl 1 (by decide) k0 (v := .ref (ad (lp (M.1 0 1)))) rfl dX4_pace_1 ?_
  refine lv_iload_n hx hb dX4_pace_4 rfl (lv_at hl 1 rfl) ?_
  obtain ⟨x1, hx1, h⟩ := Option.bind_eq_some_iff.mp h
  refine m_callV (As := [.int a1]) (st1 := [.int x1]) hx hb (hml.trans hl.1.symm) hown hts hKv hXs hXk hM (kX1_isTown l D cI ad hX0 (lp (M.1 0 1)) (lp_ok _) a1 M _ hx1) (cwV 1 hts gX4_pace_X1_isTown rfl rfl rfl (by decide +kernel) ⟨Nat.le_of_ble_eq_true rfl, Nat.le_of_ble_eq_true rfl⟩) (lt_X1 (lp_ok _)) (at_X1 (lp_ok _)) rfl rfl rfl rfl (Nat.le_of_ble_eq_true rfl) dX4_pace_5 ⟨Nat.zero_le _, Nat.zero_le _⟩ (fun H locs hM => ?_)
  refine lv_if_eq (tgt := 22) hx hb dX4_pace_8 (by decide) (fun c2 => ?_) (fun c2 => ?_)
  · replace h := (if_pos c2).symm.trans h
    refine lv_ldc (v := (-1000000 : Int32)) hx hb hown k1 dX4_pace_22 ?_
    exact m_iret hx hb hr hlocks hM (Option.some.inj h) rfl dX4_pace_24
  · replace h := (if_neg c2).symm.trans h
    refine lv_iload_n hx hb dX4_pace_11 rfl (lv_at hl 2 rfl) ?_
    refine lv_if_lt (tgt := 22) hx hb dX4_pace_12 (by decide) (fun c3 => ?_) (fun c3 => ?_)
    · replace h := (if_pos c3).symm.trans h
      refine lv_ldc (v := (-1000000 : Int32)) hx hb hown k1 dX4_pace_22 ?_
      exact m_iret hx hb hr hlocks hM (Option.some.inj h) rfl dX4_pace_24
    · replace h := (if_neg c3).symm.trans h
      refine lv_iload_n hx hb dX4_pace_15 rfl (lv_at hl 2 rfl) ?_
      refine lv_sipush (v := (999 : Int32)) hx hb dX4_pace_16 (by decide) ?_
      refine lv_icmp_lt (tgt := 25) hx hb dX4_pace_19 (by decide) (fun c4 => ?_) (fun c4 => ?_)
      · replace h := (if_pos c4).symm.trans h
        refine lv_aload_n hx hb dX4_pace_25 rfl (lv_at hl 0 rfl) ?_
        refine m_get hx hb hts hown hKv hM (fun _ h => List.mem_cons_of_mem _ (List.mem_append_left _ (List.mem_append_right _ (h)))) (by decide) at_X4 rfl 1 (by decide) k0 (v := .ref (ad (lp (M.1 0 1)))) rfl dX4_pace_26 ?_
        refine lv_iload_n hx hb dX4_pace_29 rfl (lv_at hl 1 rfl) ?_
        refine lv_iload_n hx hb dX4_pace_30 rfl (lv_at hl 2 rfl) ?_
        obtain ⟨x5, hx5, h⟩ := Option.bind_eq_some_iff.mp h
        refine m_callV (As := [.int a1, .int a2]) (st1 := [.int x5]) hx hb (hml.trans hl.1.symm) hown hts hKv hXs hXk hM (kX1_clockAt l D cI ad hX0 (lp (M.1 0 1)) (lp_ok _) a1 a2 M _ hx5) (cwV 2 hts gX4_pace_X1_clockAt rfl rfl rfl (by decide +kernel) ⟨Nat.le_of_ble_eq_true rfl, Nat.le_of_ble_eq_true rfl⟩) (lt_X1 (lp_ok _)) (at_X1 (lp_ok _)) rfl rfl rfl rfl (Nat.le_of_ble_eq_true rfl) dX4_pace_31 ⟨Nat.zero_le _, Nat.zero_le _⟩ (fun H locs hM => ?_)
        refine lv_istore_n (lv' := [(3, .int x5), (0, .ref (ad 0)), (1, .int a1), (2, .int a2)]) hx hb dX4_pace_34 rfl hl (by decide) rfl (fun ls hl => ?_)
        refine lv_aload_n hx hb dX4_pace_35 rfl (lv_at hl 1 rfl) ?_
        refine m_get hx hb hts hown hKv hM (fun _ h => List.mem_cons_of_mem _ (List.mem_append_left _ (List.mem_append_right _ (h)))) (by decide) at_X4 rfl 1 (by decide) k0 (v := .ref (ad (lp (M.1 0 1)))) rfl dX4_pace_36 ?_
        refine lv_iload_n hx hb dX4_pace_39 rfl (lv_at hl 2 rfl) ?_
        refine lv_iload_n hx hb dX4_pace_40 rfl (lv_at hl 3 rfl) ?_
        refine lv_iconst (v := (1 : Int32)) hx hb dX4_pace_41 (by decide) ?_
        refine lv_iadd hx hb dX4_pace_42 ?_
        obtain ⟨x6, hx6, h⟩ := Option.bind_eq_some_iff.mp h
        refine m_callV (As := [.int a1, .int (a2 + (1 : Int32))]) (st1 := [.int x6]) hx hb (hml.trans hl.1.symm) hown hts hKv hXs hXk hM (kX1_clockAt l D cI ad hX0 (lp (M.1 0 1)) (lp_ok _) a1 (a2 + (1 : Int32)) M _ hx6) (cwV 2 hts gX4_pace_X1_clockAt rfl rfl rfl (by decide +kernel) ⟨Nat.le_of_ble_eq_true rfl, Nat.le_of_ble_eq_true rfl⟩) (lt_X1 (lp_ok _)) (at_X1 (lp_ok _)) rfl rfl rfl rfl (Nat.le_of_ble_eq_true rfl) dX4_pace_43 ⟨Nat.zero_le _, Nat.zero_le _⟩ (fun H locs hM => ?_)
        refine lv_istore (lv' := [(4, .int x6), (3, .int x5), (0, .ref (ad 0)), (1, .int a1), (2, .int a2)]) hx hb dX4_pace_46 hl (by decide) rfl (fun ls hl => ?_)
        refine lv_iload_n hx hb dX4_pace_48 rfl (lv_at hl 1 rfl) ?_
        refine lv_bipush (v := (-9 : Int32)) hx hb dX4_pace_49 (by decide) ?_
        refine lv_icmp_eq (tgt := 61) hx hb dX4_pace_51 (by decide) (fun c7 => ?_) (fun c7 => ?_)
        · replace h := (if_pos c7).symm.trans h
          refine lv_bipush (v := (-9 : Int32)) hx hb dX4_pace_61 (by decide) ?_
          exact m_iret hx hb hr hlocks hM (Option.some.inj h) rfl dX4_pace_63
        · replace h := (if_neg c7).symm.trans h
          refine lv_iload hx hb dX4_pace_54 (lv_at hl 0 rfl) ?_
          refine lv_bipush (v := (-9 : Int32)) hx hb dX4_pace_56 (by decide) ?_
          refine lv_icmp_ne (tgt := 64) hx hb dX4_pace_58 (by decide) (fun c8 => ?_) (fun c8 => ?_)
          · replace h := (if_neg c8).symm.trans h
            refine lv_iload hx hb dX4_pace_64 (lv_at hl 0 rfl) ?_
            refine lv_iload_n hx hb dX4_pace_66 rfl (lv_at hl 1 rfl) ?_
            refine lv_isub hx hb dX4_pace_67 ?_
            refine lv_bipush (v := (12 : Int32)) hx hb dX4_pace_68 (by decide) ?_
            refine lv_iadd hx hb dX4_pace_70 ?_
            refine lv_bipush (v := (24 : Int32)) hx hb dX4_pace_71 (by decide) ?_
            obtain ⟨x9, hx9, h⟩ := Option.bind_eq_some_iff.mp h
            refine m_callS (As := [.int ((x6 - x5) + (12 : Int32)), .int (24 : Int32)]) (st1 := [.int x9]) hx hb (hml.trans hl.1.symm) hown hts hKv hXs hXk hM (kJ9_floorMod_7cf53 l D cI ad hX0 ((x6 - x5) + (12 : Int32)) (24 : Int32) M _ hx9) (va_cwS 2 hts gX4_pace_J9_floorMod_7cf53 rfl rfl rfl (by decide +kernel) ⟨Nat.le_of_ble_eq_true rfl, Nat.le_of_ble_eq_true rfl⟩) rfl rfl rfl (Nat.le_of_ble_eq_true rfl) dX4_pace_73 ⟨Nat.zero_le _, Nat.zero_le _⟩ (fun H locs hM => ?_)
            refine lv_bipush (v := (12 : Int32)) hx hb dX4_pace_76 (by decide) ?_
            refine lv_isub hx hb dX4_pace_78 ?_
            exact m_iret hx hb hr hlocks hM (Option.some.inj h) rfl dX4_pace_79
          · replace h := (if_pos c8).symm.trans h
            refine lv_bipush (v := (-9 : Int32)) hx hb dX4_pace_61 (by decide) ?_
            exact m_iret hx hb hr hlocks hM (Option.some.inj h) rfl dX4_pace_63
      · replace h := (if_neg c4).symm.trans h
        refine lv_ldc (v := (-1000000 : Int32)) hx hb hown k1 dX4_pace_22 ?_
        exact m_iret hx hb hr hlocks hM (Option.some.inj h) rfl dX4_pace_24
set_option maxHeartbeats 4000000 in
set_option maxRecDepth 100000 in
theorem wX4_early_62 {p : Program} {l : Launch} {e : Env} {s : State} {m : MethodId} {args : Array Value} {below : List Frame} {meth : Method} {c : Code} {D : va_G} {cI : ClassId} {ad : Nat → Nat} {X : State → Prop} (Z : mZ p s m args meth c cX4_early 9 (some .int) wsX4_early RX4 D [(cI, .int)] X) {aS : Nat → Nat} (hX0 : cX D ad aS X)   (u1 : Int32) (u2 : Int32) (u3 : Int32) (u4 : Int32) (M : Mem) {K : Int32 → Option Int32} (res : Int32) (hKc : ∀ (y5 : Int32), K y5 = some res → ∀ (H : Heap) (locs : List Loc) (ls : Array Slot), lv_has ls 9 [(5, .int y5)] → mH D ad 40 (Ec ad cI M) s.heap H locs → W p l e { frames := 5, cells := 0, slots := 0, locals := 113 } s m args below meth c H locs 0 0 (MQ below (mQ D ad 40 (some (.int res)) (Ec ad cI M)) args s 0 0 (mA ad 40)) (F0 m 146 ls [])) :
    ∀ (n : Nat) (v5 : Int32) (v6 : Int32), fX4_early_62 u1 u2 u3 u4 M K n v5 v6 = some res → ∀ (H : Heap) (locs : List Loc) (ls : Array Slot), lv_has ls 9 [(0, .ref (ad 0)), (1, .int u1), (2, .int u2), (3, .int u3), (4, .int u4), (5, .int v5), (6, .int v6)] → mH D ad 40 (Ec ad cI M) s.heap H locs → W p l e { frames := 5, cells := 0, slots := 0, locals := 113 } s m args below meth c H locs 0 0 (MQ below (mQ D ad 40 (some (.int res)) (Ec ad cI M)) args s 0 0 (mA ad 40)) (F0 m 62 ls []) := by
  obtain ⟨hx, hb, hml, hr, hlocks, hts, hown, hKv, hXs⟩ := id Z
  have hXk := hX0.1
  have k0 := hts (Cond.fieldLink RX4 19 "NoonWalker" "told" "LNoonWalker$Land;") (List.mem_of_getElem? (i := 1) rfl)
  intro n
  induction n with
  | zero => intro _ _ h; exact absurd h (by unfold fX4_early_62; exact fun h => by cases h)
  | succ n ih =>
    intro v5 v6 h H locs ls hl hM
    rw [fX4_early_62] at h
    refine lv_iload hx hb dX4_early_62 (lv_at hl 6 rfl) ?_
    refine lv_bipush (v := (24 : Int32)) hx hb dX4_early_64 (by decide) ?_
    refine lv_icmp_ge (tgt := 146) hx hb dX4_early_66 (by decide) (fun c1 => ?_) (fun c1 => ?_)
    · replace h := (if_pos c1).symm.trans h
      exact hKc _ h _ _ _ (lv_sub hl [5] rfl) hM
    · replace h := (if_neg c1).symm.trans h
      refine lv_iload_n hx hb dX4_early_69 rfl (lv_at hl 3 rfl) ?_
      refine lv_iload hx hb dX4_early_70 (lv_at hl 6 rfl) ?_
      refine lv_iadd hx hb dX4_early_72 ?_
      refine lv_sipush (v := (999 : Int32)) hx hb dX4_early_73 (by decide) ?_
      refine lv_icmp_gt (tgt := 146) hx hb dX4_early_76 (by decide) (fun c2 => ?_) (fun c2 => ?_)
      · replace h := (if_pos c2).symm.trans h
        exact hKc _ h _ _ _ (lv_sub hl [5] rfl) hM
      · replace h := (if_neg c2).symm.trans h
        refine lv_aload_n hx hb dX4_early_79 rfl (lv_at hl 0 rfl) ?_
        refine m_get hx hb hts hown hKv hM (fun _ h => List.mem_cons_of_mem _ (List.mem_append_left _ (List.mem_append_right _ (h)))) (by decide) at_X4 rfl 1 (by decide) k0 (v := .ref (ad (lp (M.1 0 1)))) rfl dX4_early_80 ?_
        refine lv_iload_n hx hb dX4_early_83 rfl (lv_at hl 1 rfl) ?_
        refine lv_iload_n hx hb dX4_early_84 rfl (lv_at hl 3 rfl) ?_
        refine lv_iload hx hb dX4_early_85 (lv_at hl 6 rfl) ?_
        refine lv_iadd hx hb dX4_early_87 ?_
        obtain ⟨x3, hx3, h⟩ := Option.bind_eq_some_iff.mp h
        refine m_callV (As := [.int u1, .int (u3 + v6)]) (st1 := [.int x3]) hx hb (hml.trans hl.1.symm) hown hts hKv hXs hXk hM (kX1_clockAt l D cI ad hX0 (lp (M.1 0 1)) (lp_ok _) u1 (u3 + v6) M _ hx3) (cwV 2 hts gX4_early_X1_clockAt rfl rfl rfl (by decide +kernel) ⟨Nat.le_of_ble_eq_true rfl, Nat.le_of_ble_eq_true rfl⟩) (lt_X1 (lp_ok _)) (at_X1 (lp_ok _)) rfl rfl rfl rfl (Nat.le_of_ble_eq_true rfl) dX4_early_88 ⟨Nat.zero_le _, Nat.zero_le _⟩ (fun H locs hM => ?_)
        refine lv_istore (lv' := [(7, .int x3), (0, .ref (ad 0)), (1, .int u1), (2, .int u2), (3, .int u3), (4, .int u4), (5, .int v5), (6, .int v6)]) hx hb dX4_early_91 hl (by decide) rfl (fun ls hl => ?_)
        refine lv_aload_n hx hb dX4_early_93 rfl (lv_at hl 1 rfl) ?_
        refine m_get hx hb hts hown hKv hM (fun _ h => List.mem_cons_of_mem _ (List.mem_append_left _ (List.mem_append_right _ (h)))) (by decide) at_X4 rfl 1 (by decide) k0 (v := .ref (ad (lp (M.1 0 1)))) rfl dX4_early_94 ?_
        refine lv_iload_n hx hb dX4_early_97 rfl (lv_at hl 3 rfl) ?_
        refine lv_iload_n hx hb dX4_early_98 rfl (lv_at hl 4 rfl) ?_
        refine lv_iload hx hb dX4_early_99 (lv_at hl 7 rfl) ?_
        refine lv_iadd hx hb dX4_early_101 ?_
        refine lv_iload hx hb dX4_early_102 (lv_at hl 5 rfl) ?_
        refine lv_iadd hx hb dX4_early_104 ?_
        obtain ⟨x4, hx4, h⟩ := Option.bind_eq_some_iff.mp h
        refine m_callV (As := [.int u2, .int ((u3 + v6) + u4)]) (st1 := [.int x4]) hx hb (hml.trans hl.1.symm) hown hts hKv hXs hXk hM (kX1_clockAt l D cI ad hX0 (lp (M.1 0 1)) (lp_ok _) u2 ((u3 + v6) + u4) M _ hx4) (cwV 2 hts gX4_early_X1_clockAt rfl rfl rfl (by decide +kernel) ⟨Nat.le_of_ble_eq_true rfl, Nat.le_of_ble_eq_true rfl⟩) (lt_X1 (lp_ok _)) (at_X1 (lp_ok _)) rfl rfl rfl rfl (Nat.le_of_ble_eq_true rfl) dX4_early_105 ⟨Nat.zero_le _, Nat.zero_le _⟩ (fun H locs hM => ?_)
        refine lv_istore (lv' := [(8, .int x4), (7, .int x3), (0, .ref (ad 0)), (1, .int u1), (2, .int u2), (3, .int u3), (4, .int u4), (5, .int v5), (6, .int v6)]) hx hb dX4_early_108 hl (by decide) rfl (fun ls hl => ?_)
        refine lv_iload hx hb dX4_early_110 (lv_at hl 1 rfl) ?_
        refine lv_bipush (v := (-9 : Int32)) hx hb dX4_early_112 (by decide) ?_
        refine lv_icmp_eq (tgt := 140) hx hb dX4_early_114 (by decide) (fun c5 => ?_) (fun c5 => ?_)
        · replace h := (if_pos c5).symm.trans h
          refine lv_iinc (v := (v6 + 1)) (lv' := [(6, .int (v6 + 1)), (8, .int x4), (7, .int x3), (0, .ref (ad 0)), (1, .int u1), (2, .int u2), (3, .int u3), (4, .int u4), (5, .int v5)]) hx hb dX4_early_140 hl (k := 8) rfl rfl (by decide) rfl (fun ls hl => ?_)
          refine lv_goto (tgt := 62) hx hb dX4_early_143 (by decide) ?_
          exact ih _ _ h _ _ _ (lv_sub hl [3, 4, 5, 6, 7, 8, 0] rfl) hM
        · replace h := (if_neg c5).symm.trans h
          refine lv_iload hx hb dX4_early_117 (lv_at hl 0 rfl) ?_
          refine lv_bipush (v := (-9 : Int32)) hx hb dX4_early_119 (by decide) ?_
          refine lv_icmp_eq (tgt := 140) hx hb dX4_early_121 (by decide) (fun c6 => ?_) (fun c6 => ?_)
          · replace h := (if_pos c6).symm.trans h
            refine lv_iinc (v := (v6 + 1)) (lv' := [(6, .int (v6 + 1)), (8, .int x4), (7, .int x3), (0, .ref (ad 0)), (1, .int u1), (2, .int u2), (3, .int u3), (4, .int u4), (5, .int v5)]) hx hb dX4_early_140 hl (k := 8) rfl rfl (by decide) rfl (fun ls hl => ?_)
            refine lv_goto (tgt := 62) hx hb dX4_early_143 (by decide) ?_
            exact ih _ _ h _ _ _ (lv_sub hl [3, 4, 5, 6, 7, 8, 0] rfl) hM
          · replace h := (if_neg c6).symm.trans h
            refine lv_iload hx hb dX4_early_124 (lv_at hl 0 rfl) ?_
            refine lv_iload hx hb dX4_early_126 (lv_at hl 1 rfl) ?_
            refine lv_icmp_ge (tgt := 140) hx hb dX4_early_128 (by decide) (fun c7 => ?_) (fun c7 => ?_)
            · replace h := (if_pos c7).symm.trans h
              refine lv_iinc (v := (v6 + 1)) (lv' := [(6, .int (v6 + 1)), (8, .int x4), (7, .int x3), (0, .ref (ad 0)), (1, .int u1), (2, .int u2), (3, .int u3), (4, .int u4), (5, .int v5)]) hx hb dX4_early_140 hl (k := 8) rfl rfl (by decide) rfl (fun ls hl => ?_)
              refine lv_goto (tgt := 62) hx hb dX4_early_143 (by decide) ?_
              exact ih _ _ h _ _ _ (lv_sub hl [3, 4, 5, 6, 7, 8, 0] rfl) hM
            · replace h := (if_neg c7).symm.trans h
              refine lv_iload hx hb dX4_early_131 (lv_at hl 7 rfl) ?_
              refine lv_iconst (v := (1 : Int32)) hx hb dX4_early_133 (by decide) ?_
              refine lv_iload hx hb dX4_early_134 (lv_at hl 8 rfl) ?_
              refine lv_ishl hx hb dX4_early_136 ?_
              refine lv_ior hx hb dX4_early_137 ?_
              refine lv_istore (lv' := [(5, .int (v5 ||| ((1 : Int32) <<< (v6 &&& 31)))), (8, .int x4), (7, .int x3), (0, .ref (ad 0)), (1, .int u1), (2, .int u2), (3, .int u3), (4, .int u4), (6, .int v6)]) hx hb dX4_early_138 hl (by decide) rfl (fun ls hl => ?_)
              refine lv_iinc (v := (v6 + 1)) (lv' := [(6, .int (v6 + 1)), (5, .int (v5 ||| ((1 : Int32) <<< (v6 &&& 31)))), (8, .int x4), (7, .int x3), (0, .ref (ad 0)), (1, .int u1), (2, .int u2), (3, .int u3), (4, .int u4)]) hx hb dX4_early_140 hl (k := 8) rfl rfl (by decide) rfl (fun ls hl => ?_)
              refine lv_goto (tgt := 62) hx hb dX4_early_143 (by decide) ?_
              exact ih _ _ h _ _ _ (lv_sub hl [4, 5, 6, 7, 8, 1, 0] rfl) hM
set_option maxHeartbeats 4000000 in
set_option maxRecDepth 100000 in
theorem kX4_early (l : Launch) (D : va_G) (cI : ClassId) (ad : Nat → Nat) {X : State → Prop} {aS : Nat → Nat} (hX0 : cX D ad aS X) (a1 : Int32) (a2 : Int32) (a3 : Int32) (M : Mem) (res : Int32) (h : fX4_early a1 a2 a3 M = some res) : mC l yX4_early wsX4_early { frames := 5, cells := 0, slots := 0, locals := 113 } D [(cI, .int)] ad 40 X [.ref (ad 0), .int a1, .int a2, .int a3] (Ec ad cI M) (some (.int res)) (Ec ad cI M) := by
  refine m_ofW (cc := cX4_early) (maxL := 9) (ret := (some .int)) (by decide) rfl (Nat.le_of_ble_eq_true rfl) ?_
  intro p e s m args below meth c hx hb hml hr hlocks hts hown hKv hXs ls hl hM
  have hXk := hX0.1
  have Z : mZ p s m args meth c cX4_early 9 (some .int) wsX4_early RX4 D [(cI, .int)] X := ⟨hx, hb, hml, hr, hlocks, hts, hown, hKv, hXs⟩
  replace hown : s.vm.findClass RX4 = some m.cls := hown
  have hl : lv_has ls 9 [(0, .ref (ad 0)), (1, .int a1), (2, .int a2), (3, .int a3)] := hl
  have k0 := hts (Cond.fieldLink RX4 19 "NoonWalker" "told" "LNoonWalker$Land;") (List.mem_of_getElem? (i := 1) rfl)
  unfold fX4_early at h
  refine lv_aload_n hx hb dX4_early_0 rfl (lv_at hl 0 rfl) ?_
  refine m_get hx hb hts hown hKv hM (fun _ h => List.mem_cons_of_mem _ (List.mem_append_left _ (List.mem_append_right _ (h)))) (by decide) at_X4 rfl 1 (by decide) k0 (v := .ref (ad (lp (M.1 0 1)))) rfl dX4_early_1 ?_
  refine lv_iload_n hx hb dX4_early_4 rfl (lv_at hl 1 rfl) ?_
  obtain ⟨x1, hx1, h⟩ := Option.bind_eq_some_iff.mp h
  refine m_callV (As := [.int a1]) (st1 := [.int x1]) hx hb (hml.trans hl.1.symm) hown hts hKv hXs hXk hM (kX1_isTown l D cI ad hX0 (lp (M.1 0 1)) (lp_ok _) a1 M _ hx1) (cwV 1 hts gX4_early_X1_isTown rfl rfl rfl (by decide +kernel) ⟨Nat.le_of_ble_eq_true rfl, Nat.le_of_ble_eq_true rfl⟩) (lt_X1 (lp_ok _)) (at_X1 (lp_ok _)) rfl rfl rfl rfl (Nat.le_of_ble_eq_true rfl) dX4_early_5 ⟨Nat.zero_le _, Nat.zero_le _⟩ (fun H locs hM => ?_)
  refine lv_if_eq (tgt := 34) hx hb dX4_early_8 (by decide) (fun c2 => ?_) (fun c2 => ?_)
  · replace h := (if_pos c2).symm.trans h
    refine lv_iconst (v := (-1 : Int32)) hx hb dX4_early_34 (by decide) ?_
    exact m_iret hx hb hr hlocks hM (Option.some.inj h) rfl dX4_early_35
  · replace h := (if_neg c2).symm.trans h
    refine lv_aload_n hx hb dX4_early_11 rfl (lv_at hl 0 rfl) ?_
    refine m_get hx hb hts hown hKv hM (fun _ h => List.mem_cons_of_mem _ (List.mem_append_left _ (List.mem_append_right _ (h)))) (by decide) at_X4 rfl 1 (by decide) k0 (v := .ref (ad (lp (M.1 0 1)))) rfl dX4_early_12 ?_
    refine lv_iload_n hx hb dX4_early_15 rfl (lv_at hl 2 rfl) ?_
    obtain ⟨x3, hx3, h⟩ := Option.bind_eq_some_iff.mp h
    refine m_callV (As := [.int a2]) (st1 := [.int x3]) hx hb (hml.trans hl.1.symm) hown hts hKv hXs hXk hM (kX1_isTown l D cI ad hX0 (lp (M.1 0 1)) (lp_ok _) a2 M _ hx3) (cwV 1 hts gX4_early_X1_isTown rfl rfl rfl (by decide +kernel) ⟨Nat.le_of_ble_eq_true rfl, Nat.le_of_ble_eq_true rfl⟩) (lt_X1 (lp_ok _)) (at_X1 (lp_ok _)) rfl rfl rfl rfl (Nat.le_of_ble_eq_true rfl) dX4_early_16 ⟨Nat.zero_le _, Nat.zero_le _⟩ (fun H locs hM => ?_)
    refine lv_if_eq (tgt := 34) hx hb dX4_early_19 (by decide) (fun c4 => ?_) (fun c4 => ?_)
    · replace h := (if_pos c4).symm.trans h
      refine lv_iconst (v := (-1 : Int32)) hx hb dX4_early_34 (by decide) ?_
      exact m_iret hx hb hr hlocks hM (Option.some.inj h) rfl dX4_early_35
    · replace h := (if_neg c4).symm.trans h
      refine lv_iload_n hx hb dX4_early_22 rfl (lv_at hl 1 rfl) ?_
      refine lv_iload_n hx hb dX4_early_23 rfl (lv_at hl 2 rfl) ?_
      refine lv_icmp_eq (tgt := 34) hx hb dX4_early_24 (by decide) (fun c5 => ?_) (fun c5 => ?_)
      · replace h := (if_pos c5).symm.trans h
        refine lv_iconst (v := (-1 : Int32)) hx hb dX4_early_34 (by decide) ?_
        exact m_iret hx hb hr hlocks hM (Option.some.inj h) rfl dX4_early_35
      · replace h := (if_neg c5).symm.trans h
        refine lv_iload_n hx hb dX4_early_27 rfl (lv_at hl 3 rfl) ?_
        obtain ⟨x6, hx6, h⟩ := Option.bind_eq_some_iff.mp h
        refine m_callS (As := [.int a3]) (st1 := [.int x6]) hx hb (hml.trans hl.1.symm) hown hts hKv hXs hXk hM (kX4_isHour l D cI ad hX0 a3 M _ hx6) (va_cwS 1 hts gX4_early_X4_isHour rfl rfl rfl (by decide +kernel) ⟨Nat.le_of_ble_eq_true rfl, Nat.le_of_ble_eq_true rfl⟩) rfl rfl rfl (Nat.le_of_ble_eq_true rfl) dX4_early_28 ⟨Nat.zero_le _, Nat.zero_le _⟩ (fun H locs hM => ?_)
        refine lv_if_ne (tgt := 36) hx hb dX4_early_31 (by decide) (fun c7 => ?_) (fun c7 => ?_)
        · replace h := (if_neg c7).symm.trans h
          refine lv_aload_n hx hb dX4_early_36 rfl (lv_at hl 0 rfl) ?_
          refine m_get hx hb hts hown hKv hM (fun _ h => List.mem_cons_of_mem _ (List.mem_append_left _ (List.mem_append_right _ (h)))) (by decide) at_X4 rfl 1 (by decide) k0 (v := .ref (ad (lp (M.1 0 1)))) rfl dX4_early_37 ?_
          refine lv_iload_n hx hb dX4_early_40 rfl (lv_at hl 1 rfl) ?_
          refine lv_iload_n hx hb dX4_early_41 rfl (lv_at hl 2 rfl) ?_
          obtain ⟨x8, hx8, h⟩ := Option.bind_eq_some_iff.mp h
          refine m_callV (As := [.int a1, .int a2]) (st1 := [.int x8]) hx hb (hml.trans hl.1.symm) hown hts hKv hXs hXk hM (kX1_distance l D cI ad hX0 (lp (M.1 0 1)) (lp_ok _) a1 a2 M _ hx8) (cwV 2 hts gX4_early_X1_distance rfl rfl rfl (by decide +kernel) ⟨Nat.le_of_ble_eq_true rfl, Nat.le_of_ble_eq_true rfl⟩) (lt_X1 (lp_ok _)) (at_X1 (lp_ok _)) rfl rfl rfl rfl (Nat.le_of_ble_eq_true rfl) dX4_early_42 ⟨Nat.zero_le _, Nat.zero_le _⟩ (fun H locs hM => ?_)
          refine lv_istore (lv' := [(4, .int x8), (0, .ref (ad 0)), (1, .int a1), (2, .int a2), (3, .int a3)]) hx hb dX4_early_45 hl (by decide) rfl (fun ls hl => ?_)
          refine lv_iload hx hb dX4_early_47 (lv_at hl 0 rfl) ?_
          refine lv_bipush (v := (-9 : Int32)) hx hb dX4_early_49 (by decide) ?_
          refine lv_icmp_ne (tgt := 56) hx hb dX4_early_51 (by decide) (fun c9 => ?_) (fun c9 => ?_)
          · replace h := (if_neg c9).symm.trans h
            refine lv_iconst (v := (0 : Int32)) hx hb dX4_early_56 (by decide) ?_
            refine lv_istore (lv' := [(5, .int (0 : Int32)), (4, .int x8), (0, .ref (ad 0)), (1, .int a1), (2, .int a2), (3, .int a3)]) hx hb dX4_early_57 hl (by decide) rfl (fun ls hl => ?_)
            refine lv_iconst (v := (0 : Int32)) hx hb dX4_early_59 (by decide) ?_
            refine lv_istore (lv' := [(6, .int (0 : Int32)), (5, .int (0 : Int32)), (4, .int x8), (0, .ref (ad 0)), (1, .int a1), (2, .int a2), (3, .int a3)]) hx hb dX4_early_60 hl (by decide) rfl (fun ls hl => ?_)
            refine wX4_early_62 Z hX0 a1 a2 a3 x8 M _ (fun y10 h H locs ls hl hM => ?_) _ _ _ h _ _ _ (lv_sub hl [3, 4, 5, 6, 2, 1, 0] rfl) hM
            refine lv_iload hx hb dX4_early_146 (lv_at hl 0 rfl) ?_
            exact m_iret hx hb hr hlocks hM (Option.some.inj h) rfl dX4_early_148
          · replace h := (if_pos c9).symm.trans h
            refine lv_iconst (v := (0 : Int32)) hx hb dX4_early_54 (by decide) ?_
            exact m_iret hx hb hr hlocks hM (Option.some.inj h) rfl dX4_early_55
        · replace h := (if_pos c7).symm.trans h
          refine lv_iconst (v := (-1 : Int32)) hx hb dX4_early_34 (by decide) ?_
          exact m_iret hx hb hr hlocks hM (Option.some.inj h) rfl dX4_early_35
set_option maxHeartbeats 4000000 in
set_option maxRecDepth 100000 in
theorem kX4_isStart (l : Launch) (D : va_G) (cI : ClassId) (ad : Nat → Nat) {X : State → Prop} {aS : Nat → Nat} (hX0 : cX D ad aS X) (a0 : Int32) (M : Mem) (res : Int32) (h : fX4_isStart a0 = some res) : mC l yX4_isStart wsX4_isStart { frames := 0, cells := 0, slots := 0, locals := 0 } D [(cI, .int)] ad 40 X [.int a0] (Ec ad cI M) (some (.int res)) (Ec ad cI M) := by
  refine m_ofW (cc := cX4_isStart) (maxL := 1) (ret := (some .boolean)) (by decide) rfl (Nat.le_of_ble_eq_true rfl) ?_
  intro p e s m args below meth c hx hb hml hr hlocks hts hown hKv hXs ls hl hM
  have hXk := hX0.1
  have Z : mZ p s m args meth c cX4_isStart 1 (some .boolean) wsX4_isStart RX4 D [(cI, .int)] X := ⟨hx, hb, hml, hr, hlocks, hts, hown, hKv, hXs⟩
  replace hown : s.vm.findClass RX4 = some m.cls := hown
  have hl : lv_has ls 1 [(0, .int a0)] := hl
  unfold fX4_isStart at h
  refine lv_iload_n hx hb dX4_isStart_0 rfl (lv_at hl 0 rfl) ?_
  refine lv_if_lt (tgt := 15) hx hb dX4_isStart_1 (by decide) (fun c1 => ?_) (fun c1 => ?_)
  · replace h := (if_pos c1).symm.trans h
    refine lv_iconst (v := (0 : Int32)) hx hb dX4_isStart_15 (by decide) ?_
    exact m_zret hx hb hr hlocks hM (Option.some.inj h) rfl rfl dX4_isStart_16
  · replace h := (if_neg c1).symm.trans h
    refine lv_iload_n hx hb dX4_isStart_4 rfl (lv_at hl 0 rfl) ?_
    refine lv_sipush (v := (900 : Int32)) hx hb dX4_isStart_5 (by decide) ?_
    refine lv_icmp_gt (tgt := 15) hx hb dX4_isStart_8 (by decide) (fun c2 => ?_) (fun c2 => ?_)
    · replace h := (if_pos c2).symm.trans h
      refine lv_iconst (v := (0 : Int32)) hx hb dX4_isStart_15 (by decide) ?_
      exact m_zret hx hb hr hlocks hM (Option.some.inj h) rfl rfl dX4_isStart_16
    · replace h := (if_neg c2).symm.trans h
      refine lv_iconst (v := (1 : Int32)) hx hb dX4_isStart_11 (by decide) ?_
      refine lv_goto (tgt := 16) hx hb dX4_isStart_12 (by decide) ?_
      exact m_zret hx hb hr hlocks hM (Option.some.inj h) rfl rfl dX4_isStart_16
set_option maxHeartbeats 4000000 in
set_option maxRecDepth 100000 in
theorem kX4_meets (l : Launch) (D : va_G) (cI : ClassId) (ad : Nat → Nat) {X : State → Prop} {aS : Nat → Nat} (hX0 : cX D ad aS X) (a1 : Int32) (a2 : Int32) (a3 : Int32) (a4 : Int32) (a5 : Int32) (a6 : Int32) (M : Mem) (res : Int32) (h : fX4_meets a1 a2 a3 a4 a5 a6 M = some res) : mC l yX4_meets wsX4_meets { frames := 5, cells := 0, slots := 0, locals := 113 } D [(cI, .int)] ad 40 X [.ref (ad 0), .int a1, .int a2, .int a3, .int a4, .int a5, .int a6] (Ec ad cI M) (some (.int res)) (Ec ad cI M) := by
  refine m_ofW (cc := cX4_meets) (maxL := 10) (ret := (some .int)) (by decide) rfl (Nat.le_of_ble_eq_true rfl) ?_
  intro p e s m args below meth c hx hb hml hr hlocks hts hown hKv hXs ls hl hM
  have hXk := hX0.1
  have Z : mZ p s m args meth c cX4_meets 10 (some .int) wsX4_meets RX4 D [(cI, .int)] X := ⟨hx, hb, hml, hr, hlocks, hts, hown, hKv, hXs⟩
  replace hown : s.vm.findClass RX4 = some m.cls := hown
  have hl : lv_has ls 10 [(0, .ref (ad 0)), (1, .int a1), (2, .int a2), (3, .int a3), (4, .int a4), (5, .int a5), (6, .int a6)] := hl
  have k0 := hts (Cond.fieldLink RX4 19 "NoonWalker" "told" "LNoonWalker$Land;") (List.mem_of_getElem? (i := 1) rfl)
  have k1 := hts (Cond.methodLink RX4 147 Lib.Math.max.name) (List.mem_of_getElem? (i := 2) rfl)
  have k2 := hts (Cond.static Lib.Math.max.name) (List.mem_of_getElem? (i := 3) rfl)
  have k3 := hts (Cond.initialized "java/lang/Math") (List.mem_of_getElem? (i := 4) rfl)
  have k4 := hts (Cond.code Lib.Math.max.name Lib.Math.max.code 2 (some .int)) (List.mem_of_getElem? (i := 5) rfl)
  unfold fX4_meets at h
  refine lv_aload_n hx hb dX4_meets_0 rfl (lv_at hl 0 rfl) ?_
  refine m_get hx hb hts hown hKv hM (fun _ h => List.mem_cons_of_mem _ (List.mem_append_left _ (List.mem_append_right _ (h)))) (by decide) at_X4 rfl 1 (by decide) k0 (v := .ref (ad (lp (M.1 0 1)))) rfl dX4_meets_1 ?_
  refine lv_iload_n hx hb dX4_meets_4 rfl (lv_at hl 1 rfl) ?_
  obtain ⟨x1, hx1, h⟩ := Option.bind_eq_some_iff.mp h
  refine m_callV (As := [.int a1]) (st1 := [.int x1]) hx hb (hml.trans hl.1.symm) hown hts hKv hXs hXk hM (kX1_isTown l D cI ad hX0 (lp (M.1 0 1)) (lp_ok _) a1 M _ hx1) (cwV 1 hts gX4_meets_X1_isTown rfl rfl rfl (by decide +kernel) ⟨Nat.le_of_ble_eq_true rfl, Nat.le_of_ble_eq_true rfl⟩) (lt_X1 (lp_ok _)) (at_X1 (lp_ok _)) rfl rfl rfl rfl (Nat.le_of_ble_eq_true rfl) dX4_meets_5 ⟨Nat.zero_le _, Nat.zero_le _⟩ (fun H locs hM => ?_)
  refine lv_if_eq (tgt := 34) hx hb dX4_meets_8 (by decide) (fun c2 => ?_) (fun c2 => ?_)
  · replace h := (if_pos c2).symm.trans h
    refine lv_iconst (v := (-1 : Int32)) hx hb dX4_meets_34 (by decide) ?_
    exact m_iret hx hb hr hlocks hM (Option.some.inj h) rfl dX4_meets_35
  · replace h := (if_neg c2).symm.trans h
    refine lv_aload_n hx hb dX4_meets_11 rfl (lv_at hl 0 rfl) ?_
    refine m_get hx hb hts hown hKv hM (fun _ h => List.mem_cons_of_mem _ (List.mem_append_left _ (List.mem_append_right _ (h)))) (by decide) at_X4 rfl 1 (by decide) k0 (v := .ref (ad (lp (M.1 0 1)))) rfl dX4_meets_12 ?_
    refine lv_iload_n hx hb dX4_meets_15 rfl (lv_at hl 3 rfl) ?_
    obtain ⟨x3, hx3, h⟩ := Option.bind_eq_some_iff.mp h
    refine m_callV (As := [.int a3]) (st1 := [.int x3]) hx hb (hml.trans hl.1.symm) hown hts hKv hXs hXk hM (kX1_isTown l D cI ad hX0 (lp (M.1 0 1)) (lp_ok _) a3 M _ hx3) (cwV 1 hts gX4_meets_X1_isTown rfl rfl rfl (by decide +kernel) ⟨Nat.le_of_ble_eq_true rfl, Nat.le_of_ble_eq_true rfl⟩) (lt_X1 (lp_ok _)) (at_X1 (lp_ok _)) rfl rfl rfl rfl (Nat.le_of_ble_eq_true rfl) dX4_meets_16 ⟨Nat.zero_le _, Nat.zero_le _⟩ (fun H locs hM => ?_)
    refine lv_if_eq (tgt := 34) hx hb dX4_meets_19 (by decide) (fun c4 => ?_) (fun c4 => ?_)
    · replace h := (if_pos c4).symm.trans h
      refine lv_iconst (v := (-1 : Int32)) hx hb dX4_meets_34 (by decide) ?_
      exact m_iret hx hb hr hlocks hM (Option.some.inj h) rfl dX4_meets_35
    · replace h := (if_neg c4).symm.trans h
      refine lv_aload_n hx hb dX4_meets_22 rfl (lv_at hl 0 rfl) ?_
      refine m_get hx hb hts hown hKv hM (fun _ h => List.mem_cons_of_mem _ (List.mem_append_left _ (List.mem_append_right _ (h)))) (by decide) at_X4 rfl 1 (by decide) k0 (v := .ref (ad (lp (M.1 0 1)))) rfl dX4_meets_23 ?_
      refine lv_iload hx hb dX4_meets_26 (lv_at hl 5 rfl) ?_
      obtain ⟨x5, hx5, h⟩ := Option.bind_eq_some_iff.mp h
      refine m_callV (As := [.int a5]) (st1 := [.int x5]) hx hb (hml.trans hl.1.symm) hown hts hKv hXs hXk hM (kX1_isTown l D cI ad hX0 (lp (M.1 0 1)) (lp_ok _) a5 M _ hx5) (cwV 1 hts gX4_meets_X1_isTown rfl rfl rfl (by decide +kernel) ⟨Nat.le_of_ble_eq_true rfl, Nat.le_of_ble_eq_true rfl⟩) (lt_X1 (lp_ok _)) (at_X1 (lp_ok _)) rfl rfl rfl rfl (Nat.le_of_ble_eq_true rfl) dX4_meets_28 ⟨Nat.zero_le _, Nat.zero_le _⟩ (fun H locs hM => ?_)
      refine lv_if_ne (tgt := 36) hx hb dX4_meets_31 (by decide) (fun c6 => ?_) (fun c6 => ?_)
      · replace h := (if_neg c6).symm.trans h
        refine lv_iload_n hx hb dX4_meets_36 rfl (lv_at hl 2 rfl) ?_
        obtain ⟨x7, hx7, h⟩ := Option.bind_eq_some_iff.mp h
        refine m_callS (As := [.int a2]) (st1 := [.int x7]) hx hb (hml.trans hl.1.symm) hown hts hKv hXs hXk hM (kX4_isStart l D cI ad hX0 a2 M _ hx7) (va_cwS 1 hts gX4_meets_X4_isStart rfl rfl rfl (by decide +kernel) ⟨Nat.le_of_ble_eq_true rfl, Nat.le_of_ble_eq_true rfl⟩) rfl rfl rfl (Nat.le_of_ble_eq_true rfl) dX4_meets_37 ⟨Nat.zero_le _, Nat.zero_le _⟩ (fun H locs hM => ?_)
        refine lv_if_eq (tgt := 62) hx hb dX4_meets_40 (by decide) (fun c8 => ?_) (fun c8 => ?_)
        · replace h := (if_pos c8).symm.trans h
          refine lv_iconst (v := (-1 : Int32)) hx hb dX4_meets_62 (by decide) ?_
          exact m_iret hx hb hr hlocks hM (Option.some.inj h) rfl dX4_meets_63
        · replace h := (if_neg c8).symm.trans h
          refine lv_iload hx hb dX4_meets_43 (lv_at hl 4 rfl) ?_
          obtain ⟨x9, hx9, h⟩ := Option.bind_eq_some_iff.mp h
          refine m_callS (As := [.int a4]) (st1 := [.int x9]) hx hb (hml.trans hl.1.symm) hown hts hKv hXs hXk hM (kX4_isStart l D cI ad hX0 a4 M _ hx9) (va_cwS 1 hts gX4_meets_X4_isStart rfl rfl rfl (by decide +kernel) ⟨Nat.le_of_ble_eq_true rfl, Nat.le_of_ble_eq_true rfl⟩) rfl rfl rfl (Nat.le_of_ble_eq_true rfl) dX4_meets_45 ⟨Nat.zero_le _, Nat.zero_le _⟩ (fun H locs hM => ?_)
          refine lv_if_eq (tgt := 62) hx hb dX4_meets_48 (by decide) (fun c10 => ?_) (fun c10 => ?_)
          · replace h := (if_pos c10).symm.trans h
            refine lv_iconst (v := (-1 : Int32)) hx hb dX4_meets_62 (by decide) ?_
            exact m_iret hx hb hr hlocks hM (Option.some.inj h) rfl dX4_meets_63
          · replace h := (if_neg c10).symm.trans h
            refine lv_iload hx hb dX4_meets_51 (lv_at hl 6 rfl) ?_
            refine lv_if_lt (tgt := 62) hx hb dX4_meets_53 (by decide) (fun c11 => ?_) (fun c11 => ?_)
            · replace h := (if_pos c11).symm.trans h
              refine lv_iconst (v := (-1 : Int32)) hx hb dX4_meets_62 (by decide) ?_
              exact m_iret hx hb hr hlocks hM (Option.some.inj h) rfl dX4_meets_63
            · replace h := (if_neg c11).symm.trans h
              refine lv_iload hx hb dX4_meets_56 (lv_at hl 6 rfl) ?_
              refine lv_iconst (v := (1 : Int32)) hx hb dX4_meets_58 (by decide) ?_
              refine lv_icmp_le (tgt := 64) hx hb dX4_meets_59 (by decide) (fun c12 => ?_) (fun c12 => ?_)
              · replace h := (if_pos c12).symm.trans h
                refine lv_aload_n hx hb dX4_meets_64 rfl (lv_at hl 0 rfl) ?_
                refine m_get hx hb hts hown hKv hM (fun _ h => List.mem_cons_of_mem _ (List.mem_append_left _ (List.mem_append_right _ (h)))) (by decide) at_X4 rfl 1 (by decide) k0 (v := .ref (ad (lp (M.1 0 1)))) rfl dX4_meets_65 ?_
                refine lv_iload_n hx hb dX4_meets_68 rfl (lv_at hl 1 rfl) ?_
                refine lv_iload hx hb dX4_meets_69 (lv_at hl 5 rfl) ?_
                obtain ⟨x13, hx13, h⟩ := Option.bind_eq_some_iff.mp h
                refine m_callV (As := [.int a1, .int a5]) (st1 := [.int x13]) hx hb (hml.trans hl.1.symm) hown hts hKv hXs hXk hM (kX1_distance l D cI ad hX0 (lp (M.1 0 1)) (lp_ok _) a1 a5 M _ hx13) (cwV 2 hts gX4_meets_X1_distance rfl rfl rfl (by decide +kernel) ⟨Nat.le_of_ble_eq_true rfl, Nat.le_of_ble_eq_true rfl⟩) (lt_X1 (lp_ok _)) (at_X1 (lp_ok _)) rfl rfl rfl rfl (Nat.le_of_ble_eq_true rfl) dX4_meets_71 ⟨Nat.zero_le _, Nat.zero_le _⟩ (fun H locs hM => ?_)
                refine lv_istore (lv' := [(7, .int x13), (0, .ref (ad 0)), (1, .int a1), (2, .int a2), (3, .int a3), (4, .int a4), (5, .int a5), (6, .int a6)]) hx hb dX4_meets_74 hl (by decide) rfl (fun ls hl => ?_)
                refine lv_aload_n hx hb dX4_meets_76 rfl (lv_at hl 1 rfl) ?_
                refine m_get hx hb hts hown hKv hM (fun _ h => List.mem_cons_of_mem _ (List.mem_append_left _ (List.mem_append_right _ (h)))) (by decide) at_X4 rfl 1 (by decide) k0 (v := .ref (ad (lp (M.1 0 1)))) rfl dX4_meets_77 ?_
                refine lv_iload_n hx hb dX4_meets_80 rfl (lv_at hl 4 rfl) ?_
                refine lv_iload hx hb dX4_meets_81 (lv_at hl 6 rfl) ?_
                obtain ⟨x14, hx14, h⟩ := Option.bind_eq_some_iff.mp h
                refine m_callV (As := [.int a3, .int a5]) (st1 := [.int x14]) hx hb (hml.trans hl.1.symm) hown hts hKv hXs hXk hM (kX1_distance l D cI ad hX0 (lp (M.1 0 1)) (lp_ok _) a3 a5 M _ hx14) (cwV 2 hts gX4_meets_X1_distance rfl rfl rfl (by decide +kernel) ⟨Nat.le_of_ble_eq_true rfl, Nat.le_of_ble_eq_true rfl⟩) (lt_X1 (lp_ok _)) (at_X1 (lp_ok _)) rfl rfl rfl rfl (Nat.le_of_ble_eq_true rfl) dX4_meets_83 ⟨Nat.zero_le _, Nat.zero_le _⟩ (fun H locs hM => ?_)
                refine lv_istore (lv' := [(8, .int x14), (7, .int x13), (0, .ref (ad 0)), (1, .int a1), (2, .int a2), (3, .int a3), (4, .int a4), (5, .int a5), (6, .int a6)]) hx hb dX4_meets_86 hl (by decide) rfl (fun ls hl => ?_)
                refine lv_iload hx hb dX4_meets_88 (lv_at hl 1 rfl) ?_
                refine lv_bipush (v := (-9 : Int32)) hx hb dX4_meets_90 (by decide) ?_
                refine lv_icmp_eq (tgt := 102) hx hb dX4_meets_92 (by decide) (fun c15 => ?_) (fun c15 => ?_)
                · replace h := (if_pos c15).symm.trans h
                  refine lv_bipush (v := (-9 : Int32)) hx hb dX4_meets_102 (by decide) ?_
                  exact m_iret hx hb hr hlocks hM (Option.some.inj h) rfl dX4_meets_104
                · replace h := (if_neg c15).symm.trans h
                  refine lv_iload hx hb dX4_meets_95 (lv_at hl 0 rfl) ?_
                  refine lv_bipush (v := (-9 : Int32)) hx hb dX4_meets_97 (by decide) ?_
                  refine lv_icmp_ne (tgt := 105) hx hb dX4_meets_99 (by decide) (fun c16 => ?_) (fun c16 => ?_)
                  · replace h := (if_neg c16).symm.trans h
                    refine lv_iload_n hx hb dX4_meets_105 rfl (lv_at hl 4 rfl) ?_
                    refine lv_iload hx hb dX4_meets_106 (lv_at hl 1 rfl) ?_
                    refine lv_iadd hx hb dX4_meets_108 ?_
                    refine lv_iload hx hb dX4_meets_109 (lv_at hl 6 rfl) ?_
                    refine lv_iload hx hb dX4_meets_111 (lv_at hl 0 rfl) ?_
                    refine lv_iadd hx hb dX4_meets_113 ?_
                    refine va_mmax hx hb (hml.trans hl.1.symm) hown k1 k2 k3 k4 (Nat.le_of_ble_eq_true rfl) (Nat.le_of_ble_eq_true rfl) (Nat.zero_le _) (Nat.zero_le _) dX4_meets_114 ?_
                    refine lv_istore (lv' := [(9, .int (if (a2 + x13) < (a4 + x14) then (a4 + x14) else (a2 + x13))), (8, .int x14), (7, .int x13), (0, .ref (ad 0)), (1, .int a1), (2, .int a2), (3, .int a3), (4, .int a4), (5, .int a5), (6, .int a6)]) hx hb dX4_meets_117 hl (by decide) rfl (fun ls hl => ?_)
                    refine lv_iload hx hb dX4_meets_119 (lv_at hl 9 rfl) ?_
                    refine lv_if_ne (tgt := 129) hx hb dX4_meets_121 (by decide) (fun c17 => ?_) (fun c17 => ?_)
                    · replace h := (if_neg c17).symm.trans h
                      refine lv_aload_n hx hb dX4_meets_129 rfl (lv_at hl 3 rfl) ?_
                      refine m_get hx hb hts hown hKv hM (fun _ h => List.mem_cons_of_mem _ (List.mem_append_left _ (List.mem_append_right _ (h)))) (by decide) at_X4 rfl 1 (by decide) k0 (v := .ref (ad (lp (M.1 0 1)))) rfl dX4_meets_130 ?_
                      refine lv_iload hx hb dX4_meets_133 (lv_at hl 8 rfl) ?_
                      refine lv_iload hx hb dX4_meets_135 (lv_at hl 0 rfl) ?_
                      obtain ⟨x18, hx18, h⟩ := Option.bind_eq_some_iff.mp h
                      refine m_callV (As := [.int a5, .int (if (a2 + x13) < (a4 + x14) then (a4 + x14) else (a2 + x13))]) (st1 := [.int x18]) hx hb (hml.trans hl.1.symm) hown hts hKv hXs hXk hM (kX1_clockAt l D cI ad hX0 (lp (M.1 0 1)) (lp_ok _) a5 (if (a2 + x13) < (a4 + x14) then (a4 + x14) else (a2 + x13)) M _ hx18) (cwV 2 hts gX4_meets_X1_clockAt rfl rfl rfl (by decide +kernel) ⟨Nat.le_of_ble_eq_true rfl, Nat.le_of_ble_eq_true rfl⟩) (lt_X1 (lp_ok _)) (at_X1 (lp_ok _)) rfl rfl rfl rfl (Nat.le_of_ble_eq_true rfl) dX4_meets_137 ⟨Nat.zero_le _, Nat.zero_le _⟩ (fun H locs hM => ?_)
                      exact m_iret hx hb hr hlocks hM (Option.some.inj h) rfl dX4_meets_140
                    · replace h := (if_pos c17).symm.trans h
                      refine lv_iload hx hb dX4_meets_124 (lv_at hl 0 rfl) ?_
                      refine lv_goto (tgt := 140) hx hb dX4_meets_126 (by decide) ?_
                      exact m_iret hx hb hr hlocks hM (Option.some.inj h) rfl dX4_meets_140
                  · replace h := (if_pos c16).symm.trans h
                    refine lv_bipush (v := (-9 : Int32)) hx hb dX4_meets_102 (by decide) ?_
                    exact m_iret hx hb hr hlocks hM (Option.some.inj h) rfl dX4_meets_104
              · replace h := (if_neg c12).symm.trans h
                refine lv_iconst (v := (-1 : Int32)) hx hb dX4_meets_62 (by decide) ?_
                exact m_iret hx hb hr hlocks hM (Option.some.inj h) rfl dX4_meets_63
      · replace h := (if_pos c6).symm.trans h
        refine lv_iconst (v := (-1 : Int32)) hx hb dX4_meets_34 (by decide) ?_
        exact m_iret hx hb hr hlocks hM (Option.some.inj h) rfl dX4_meets_35
set_option maxHeartbeats 4000000 in
set_option maxRecDepth 100000 in
theorem kX4_isSpan (l : Launch) (D : va_G) (cI : ClassId) (ad : Nat → Nat) {X : State → Prop} {aS : Nat → Nat} (hX0 : cX D ad aS X) (a0 : Int32) (a1 : Int32) (M : Mem) (res : Int32) (h : fX4_isSpan a0 a1 = some res) : mC l yX4_isSpan wsX4_isSpan { frames := 1, cells := 0, slots := 0, locals := 20 } D [(cI, .int)] ad 40 X [.int a0, .int a1] (Ec ad cI M) (some (.int res)) (Ec ad cI M) := by
  refine m_ofW (cc := cX4_isSpan) (maxL := 2) (ret := (some .boolean)) (by decide) rfl (Nat.le_of_ble_eq_true rfl) ?_
  intro p e s m args below meth c hx hb hml hr hlocks hts hown hKv hXs ls hl hM
  have hXk := hX0.1
  have Z : mZ p s m args meth c cX4_isSpan 2 (some .boolean) wsX4_isSpan RX4 D [(cI, .int)] X := ⟨hx, hb, hml, hr, hlocks, hts, hown, hKv, hXs⟩
  replace hown : s.vm.findClass RX4 = some m.cls := hown
  have hl : lv_has ls 2 [(0, .int a0), (1, .int a1)] := hl
  unfold fX4_isSpan at h
  refine lv_iload_n hx hb dX4_isSpan_0 rfl (lv_at hl 0 rfl) ?_
  obtain ⟨x1, hx1, h⟩ := Option.bind_eq_some_iff.mp h
  refine m_callS (As := [.int a0]) (st1 := [.int x1]) hx hb (hml.trans hl.1.symm) hown hts hKv hXs hXk hM (kX4_isHour l D cI ad hX0 a0 M _ hx1) (va_cwS 1 hts gX4_isSpan_X4_isHour rfl rfl rfl (by decide +kernel) ⟨Nat.le_of_ble_eq_true rfl, Nat.le_of_ble_eq_true rfl⟩) rfl rfl rfl (Nat.le_of_ble_eq_true rfl) dX4_isSpan_1 ⟨Nat.zero_le _, Nat.zero_le _⟩ (fun H locs hM => ?_)
  refine lv_if_eq (tgt := 23) hx hb dX4_isSpan_4 (by decide) (fun c2 => ?_) (fun c2 => ?_)
  · replace h := (if_pos c2).symm.trans h
    refine lv_iconst (v := (0 : Int32)) hx hb dX4_isSpan_23 (by decide) ?_
    exact m_zret hx hb hr hlocks hM (Option.some.inj h) rfl rfl dX4_isSpan_24
  · replace h := (if_neg c2).symm.trans h
    refine lv_iload_n hx hb dX4_isSpan_7 rfl (lv_at hl 1 rfl) ?_
    refine lv_iload_n hx hb dX4_isSpan_8 rfl (lv_at hl 0 rfl) ?_
    refine lv_icmp_lt (tgt := 23) hx hb dX4_isSpan_9 (by decide) (fun c3 => ?_) (fun c3 => ?_)
    · replace h := (if_pos c3).symm.trans h
      refine lv_iconst (v := (0 : Int32)) hx hb dX4_isSpan_23 (by decide) ?_
      exact m_zret hx hb hr hlocks hM (Option.some.inj h) rfl rfl dX4_isSpan_24
    · replace h := (if_neg c3).symm.trans h
      refine lv_iload_n hx hb dX4_isSpan_12 rfl (lv_at hl 1 rfl) ?_
      refine lv_sipush (v := (1000 : Int32)) hx hb dX4_isSpan_13 (by decide) ?_
      refine lv_icmp_gt (tgt := 23) hx hb dX4_isSpan_16 (by decide) (fun c4 => ?_) (fun c4 => ?_)
      · replace h := (if_pos c4).symm.trans h
        refine lv_iconst (v := (0 : Int32)) hx hb dX4_isSpan_23 (by decide) ?_
        exact m_zret hx hb hr hlocks hM (Option.some.inj h) rfl rfl dX4_isSpan_24
      · replace h := (if_neg c4).symm.trans h
        refine lv_iconst (v := (1 : Int32)) hx hb dX4_isSpan_19 (by decide) ?_
        refine lv_goto (tgt := 24) hx hb dX4_isSpan_20 (by decide) ?_
        exact m_zret hx hb hr hlocks hM (Option.some.inj h) rfl rfl dX4_isSpan_24
set_option maxHeartbeats 4000000 in
set_option maxRecDepth 100000 in
theorem kX4_midnights (l : Launch) (D : va_G) (cI : ClassId) (ad : Nat → Nat) {X : State → Prop} {aS : Nat → Nat} (hX0 : cX D ad aS X) (a1 : Int32) (a2 : Int32) (a3 : Int32) (M : Mem) (res : Int32) (h : fX4_midnights a1 a2 a3 M = some res) : mC l yX4_midnights wsX4_midnights { frames := 6, cells := 0, slots := 0, locals := 140 } D [(cI, .int)] ad 40 X [.ref (ad 0), .int a1, .int a2, .int a3] (Ec ad cI M) (some (.int res)) (Ec ad cI M) := by
  refine m_ofW (cc := cX4_midnights) (maxL := 4) (ret := (some .int)) (by decide) rfl (Nat.le_of_ble_eq_true rfl) ?_
  intro p e s m args below meth c hx hb hml hr hlocks hts hown hKv hXs ls hl hM
  have hXk := hX0.1
  have Z : mZ p s m args meth c cX4_midnights 4 (some .int) wsX4_midnights RX4 D [(cI, .int)] X := ⟨hx, hb, hml, hr, hlocks, hts, hown, hKv, hXs⟩
  replace hown : s.vm.findClass RX4 = some m.cls := hown
  have hl : lv_has ls 4 [(0, .ref (ad 0)), (1, .int a1), (2, .int a2), (3, .int a3)] := hl
  have k0 := hts (Cond.fieldLink RX4 19 "NoonWalker" "told" "LNoonWalker$Land;") (List.mem_of_getElem? (i := 1) rfl)
  unfold fX4_midnights at h
  refine lv_aload_n hx hb dX4_midnights_0 rfl (lv_at hl 0 rfl) ?_
  refine m_get hx hb hts hown hKv hM (fun _ h => List.mem_cons_of_mem _ (List.mem_append_left _ (List.mem_append_right _ (h)))) (by decide) at_X4 rfl 1 (by decide) k0 (v := .ref (ad (lp (M.1 0 1)))) rfl dX4_midnights_1 ?_
  refine lv_iload_n hx hb dX4_midnights_4 rfl (lv_at hl 1 rfl) ?_
  obtain ⟨x1, hx1, h⟩ := Option.bind_eq_some_iff.mp h
  refine m_callV (As := [.int a1]) (st1 := [.int x1]) hx hb (hml.trans hl.1.symm) hown hts hKv hXs hXk hM (kX1_isTown l D cI ad hX0 (lp (M.1 0 1)) (lp_ok _) a1 M _ hx1) (cwV 1 hts gX4_midnights_X1_isTown rfl rfl rfl (by decide +kernel) ⟨Nat.le_of_ble_eq_true rfl, Nat.le_of_ble_eq_true rfl⟩) (lt_X1 (lp_ok _)) (at_X1 (lp_ok _)) rfl rfl rfl rfl (Nat.le_of_ble_eq_true rfl) dX4_midnights_5 ⟨Nat.zero_le _, Nat.zero_le _⟩ (fun H locs hM => ?_)
  refine lv_if_eq (tgt := 19) hx hb dX4_midnights_8 (by decide) (fun c2 => ?_) (fun c2 => ?_)
  · replace h := (if_pos c2).symm.trans h
    refine lv_iconst (v := (-1 : Int32)) hx hb dX4_midnights_19 (by decide) ?_
    exact m_iret hx hb hr hlocks hM (Option.some.inj h) rfl dX4_midnights_20
  · replace h := (if_neg c2).symm.trans h
    refine lv_iload_n hx hb dX4_midnights_11 rfl (lv_at hl 2 rfl) ?_
    refine lv_iload_n hx hb dX4_midnights_12 rfl (lv_at hl 3 rfl) ?_
    obtain ⟨x3, hx3, h⟩ := Option.bind_eq_some_iff.mp h
    refine m_callS (As := [.int a2, .int a3]) (st1 := [.int x3]) hx hb (hml.trans hl.1.symm) hown hts hKv hXs hXk hM (kX4_isSpan l D cI ad hX0 a2 a3 M _ hx3) (va_cwS 2 hts gX4_midnights_X4_isSpan rfl rfl rfl (by decide +kernel) ⟨Nat.le_of_ble_eq_true rfl, Nat.le_of_ble_eq_true rfl⟩) rfl rfl rfl (Nat.le_of_ble_eq_true rfl) dX4_midnights_13 ⟨Nat.zero_le _, Nat.zero_le _⟩ (fun H locs hM => ?_)
    refine lv_if_ne (tgt := 21) hx hb dX4_midnights_16 (by decide) (fun c4 => ?_) (fun c4 => ?_)
    · replace h := (if_neg c4).symm.trans h
      refine lv_aload_n hx hb dX4_midnights_21 rfl (lv_at hl 0 rfl) ?_
      refine m_get hx hb hts hown hKv hM (fun _ h => List.mem_cons_of_mem _ (List.mem_append_left _ (List.mem_append_right _ (h)))) (by decide) at_X4 rfl 1 (by decide) k0 (v := .ref (ad (lp (M.1 0 1)))) rfl dX4_midnights_22 ?_
      refine lv_iload_n hx hb dX4_midnights_25 rfl (lv_at hl 1 rfl) ?_
      refine lv_iload_n hx hb dX4_midnights_26 rfl (lv_at hl 2 rfl) ?_
      refine lv_iload_n hx hb dX4_midnights_27 rfl (lv_at hl 3 rfl) ?_
      obtain ⟨x5, hx5, h⟩ := Option.bind_eq_some_iff.mp h
      refine m_callV (As := [.int a1, .int a2, .int a3]) (st1 := [.int x5]) hx hb (hml.trans hl.1.symm) hown hts hKv hXs hXk hM (kX1_midnightsOf l D cI ad hX0 (lp (M.1 0 1)) (lp_ok _) a1 a2 a3 M _ hx5) (cwV 3 hts gX4_midnights_X1_midnightsOf rfl rfl rfl (by decide +kernel) ⟨Nat.le_of_ble_eq_true rfl, Nat.le_of_ble_eq_true rfl⟩) (lt_X1 (lp_ok _)) (at_X1 (lp_ok _)) rfl rfl rfl rfl (Nat.le_of_ble_eq_true rfl) dX4_midnights_28 ⟨Nat.zero_le _, Nat.zero_le _⟩ (fun H locs hM => ?_)
      exact m_iret hx hb hr hlocks hM (Option.some.inj h) rfl dX4_midnights_31
    · replace h := (if_pos c4).symm.trans h
      refine lv_iconst (v := (-1 : Int32)) hx hb dX4_midnights_19 (by decide) ?_
      exact m_iret hx hb hr hlocks hM (Option.some.inj h) rfl dX4_midnights_20
set_option maxHeartbeats 4000000 in
set_option maxRecDepth 100000 in
theorem kX4_gains (l : Launch) (D : va_G) (cI : ClassId) (ad : Nat → Nat) {X : State → Prop} {aS : Nat → Nat} (hX0 : cX D ad aS X) (a1 : Int32) (a2 : Int32) (a3 : Int32) (a4 : Int32) (M : Mem) (res : Int32) (h : fX4_gains a1 a2 a3 a4 M = some res) : mC l yX4_gains wsX4_gains { frames := 6, cells := 0, slots := 0, locals := 140 } D [(cI, .int)] ad 40 X [.ref (ad 0), .int a1, .int a2, .int a3, .int a4] (Ec ad cI M) (some (.int res)) (Ec ad cI M) := by
  refine m_ofW (cc := cX4_gains) (maxL := 5) (ret := (some .int)) (by decide) rfl (Nat.le_of_ble_eq_true rfl) ?_
  intro p e s m args below meth c hx hb hml hr hlocks hts hown hKv hXs ls hl hM
  have hXk := hX0.1
  have Z : mZ p s m args meth c cX4_gains 5 (some .int) wsX4_gains RX4 D [(cI, .int)] X := ⟨hx, hb, hml, hr, hlocks, hts, hown, hKv, hXs⟩
  replace hown : s.vm.findClass RX4 = some m.cls := hown
  have hl : lv_has ls 5 [(0, .ref (ad 0)), (1, .int a1), (2, .int a2), (3, .int a3), (4, .int a4)] := hl
  have k0 := hts (Cond.fieldLink RX4 19 "NoonWalker" "told" "LNoonWalker$Land;") (List.mem_of_getElem? (i := 1) rfl)
  have k1 := hts (Cond.constant RX4 138 (-1000000)) (List.mem_of_getElem? (i := 2) rfl)
  unfold fX4_gains at h
  refine lv_aload_n hx hb dX4_gains_0 rfl (lv_at hl 0 rfl) ?_
  refine m_get hx hb hts hown hKv hM (fun _ h => List.mem_cons_of_mem _ (List.mem_append_left _ (List.mem_append_right _ (h)))) (by decide) at_X4 rfl 1 (by decide) k0 (v := .ref (ad (lp (M.1 0 1)))) rfl dX4_gains_1 ?_
  refine lv_iload_n hx hb dX4_gains_4 rfl (lv_at hl 1 rfl) ?_
  obtain ⟨x1, hx1, h⟩ := Option.bind_eq_some_iff.mp h
  refine m_callV (As := [.int a1]) (st1 := [.int x1]) hx hb (hml.trans hl.1.symm) hown hts hKv hXs hXk hM (kX1_isTown l D cI ad hX0 (lp (M.1 0 1)) (lp_ok _) a1 M _ hx1) (cwV 1 hts gX4_gains_X1_isTown rfl rfl rfl (by decide +kernel) ⟨Nat.le_of_ble_eq_true rfl, Nat.le_of_ble_eq_true rfl⟩) (lt_X1 (lp_ok _)) (at_X1 (lp_ok _)) rfl rfl rfl rfl (Nat.le_of_ble_eq_true rfl) dX4_gains_5 ⟨Nat.zero_le _, Nat.zero_le _⟩ (fun H locs hM => ?_)
  refine lv_if_eq (tgt := 32) hx hb dX4_gains_8 (by decide) (fun c2 => ?_) (fun c2 => ?_)
  · replace h := (if_pos c2).symm.trans h
    refine lv_ldc (v := (-1000000 : Int32)) hx hb hown k1 dX4_gains_32 ?_
    exact m_iret hx hb hr hlocks hM (Option.some.inj h) rfl dX4_gains_34
  · replace h := (if_neg c2).symm.trans h
    refine lv_iload_n hx hb dX4_gains_11 rfl (lv_at hl 2 rfl) ?_
    refine lv_iload_n hx hb dX4_gains_12 rfl (lv_at hl 3 rfl) ?_
    obtain ⟨x3, hx3, h⟩ := Option.bind_eq_some_iff.mp h
    refine m_callS (As := [.int a2, .int a3]) (st1 := [.int x3]) hx hb (hml.trans hl.1.symm) hown hts hKv hXs hXk hM (kX4_isSpan l D cI ad hX0 a2 a3 M _ hx3) (va_cwS 2 hts gX4_gains_X4_isSpan rfl rfl rfl (by decide +kernel) ⟨Nat.le_of_ble_eq_true rfl, Nat.le_of_ble_eq_true rfl⟩) rfl rfl rfl (Nat.le_of_ble_eq_true rfl) dX4_gains_13 ⟨Nat.zero_le _, Nat.zero_le _⟩ (fun H locs hM => ?_)
    refine lv_if_eq (tgt := 32) hx hb dX4_gains_16 (by decide) (fun c4 => ?_) (fun c4 => ?_)
    · replace h := (if_pos c4).symm.trans h
      refine lv_ldc (v := (-1000000 : Int32)) hx hb hown k1 dX4_gains_32 ?_
      exact m_iret hx hb hr hlocks hM (Option.some.inj h) rfl dX4_gains_34
    · replace h := (if_neg c4).symm.trans h
      refine lv_iload hx hb dX4_gains_19 (lv_at hl 4 rfl) ?_
      refine lv_iconst (v := (1 : Int32)) hx hb dX4_gains_21 (by decide) ?_
      refine lv_icmp_lt (tgt := 32) hx hb dX4_gains_22 (by decide) (fun c5 => ?_) (fun c5 => ?_)
      · replace h := (if_pos c5).symm.trans h
        refine lv_ldc (v := (-1000000 : Int32)) hx hb hown k1 dX4_gains_32 ?_
        exact m_iret hx hb hr hlocks hM (Option.some.inj h) rfl dX4_gains_34
      · replace h := (if_neg c5).symm.trans h
        refine lv_iload hx hb dX4_gains_25 (lv_at hl 4 rfl) ?_
        refine lv_bipush (v := (99 : Int32)) hx hb dX4_gains_27 (by decide) ?_
        refine lv_icmp_le (tgt := 35) hx hb dX4_gains_29 (by decide) (fun c6 => ?_) (fun c6 => ?_)
        · replace h := (if_pos c6).symm.trans h
          refine lv_iload hx hb dX4_gains_35 (lv_at hl 4 rfl) ?_
          refine lv_aload_n hx hb dX4_gains_37 rfl (lv_at hl 0 rfl) ?_
          refine m_get hx hb hts hown hKv hM (fun _ h => List.mem_cons_of_mem _ (List.mem_append_left _ (List.mem_append_right _ (h)))) (by decide) at_X4 rfl 1 (by decide) k0 (v := .ref (ad (lp (M.1 0 1)))) rfl dX4_gains_38 ?_
          refine lv_iload_n hx hb dX4_gains_41 rfl (lv_at hl 1 rfl) ?_
          refine lv_iload_n hx hb dX4_gains_42 rfl (lv_at hl 2 rfl) ?_
          refine lv_iload_n hx hb dX4_gains_43 rfl (lv_at hl 3 rfl) ?_
          obtain ⟨x7, hx7, h⟩ := Option.bind_eq_some_iff.mp h
          refine m_callV (As := [.int a1, .int a2, .int a3]) (st1 := [.int x7, .int a4]) hx hb (hml.trans hl.1.symm) hown hts hKv hXs hXk hM (kX1_midnightsOf l D cI ad hX0 (lp (M.1 0 1)) (lp_ok _) a1 a2 a3 M _ hx7) (cwV 3 hts gX4_gains_X1_midnightsOf rfl rfl rfl (by decide +kernel) ⟨Nat.le_of_ble_eq_true rfl, Nat.le_of_ble_eq_true rfl⟩) (lt_X1 (lp_ok _)) (at_X1 (lp_ok _)) rfl rfl rfl rfl (Nat.le_of_ble_eq_true rfl) dX4_gains_44 ⟨Nat.zero_le _, Nat.zero_le _⟩ (fun H locs hM => ?_)
          refine lv_iload_n hx hb dX4_gains_47 rfl (lv_at hl 3 rfl) ?_
          refine lv_iload_n hx hb dX4_gains_48 rfl (lv_at hl 2 rfl) ?_
          refine lv_isub hx hb dX4_gains_49 ?_
          refine lv_bipush (v := (24 : Int32)) hx hb dX4_gains_50 (by decide) ?_
          obtain ⟨x8, hx8, h⟩ := Option.bind_eq_some_iff.mp h
          refine m_idiv hx hb hx8 dX4_gains_52 ?_
          refine lv_isub hx hb dX4_gains_53 ?_
          refine lv_imul hx hb dX4_gains_54 ?_
          exact m_iret hx hb hr hlocks hM (Option.some.inj h) rfl dX4_gains_55
        · replace h := (if_neg c6).symm.trans h
          refine lv_ldc (v := (-1000000 : Int32)) hx hb hown k1 dX4_gains_32 ?_
          exact m_iret hx hb hr hlocks hM (Option.some.inj h) rfl dX4_gains_34
set_option maxHeartbeats 4000000 in
set_option maxRecDepth 100000 in
theorem kX4_best (l : Launch) (D : va_G) (cI : ClassId) (ad : Nat → Nat) {X : State → Prop} {aS : Nat → Nat} (hX0 : cX D ad aS X) (a1 : Int32) (a2 : Int32) (M : Mem) (res : (Int32 × Mem)) (h : fX4_best a1 a2 M = some res) : mC l yX4_best wsX4_best { frames := 12, cells := 0, slots := 0, locals := 308 } D [(cI, .int)] ad 40 X [.ref (ad 0), .int a1, .int a2] (Ec ad cI M) (some (.int res.1)) (Ec ad cI res.2) := by
  refine m_ofW (cc := cX4_best) (maxL := 3) (ret := (some .int)) (by decide) rfl (Nat.le_of_ble_eq_true rfl) ?_
  intro p e s m args below meth c hx hb hml hr hlocks hts hown hKv hXs ls hl hM
  have hXk := hX0.1
  have Z : mZ p s m args meth c cX4_best 3 (some .int) wsX4_best RX4 D [(cI, .int)] X := ⟨hx, hb, hml, hr, hlocks, hts, hown, hKv, hXs⟩
  replace hown : s.vm.findClass RX4 = some m.cls := hown
  have hl : lv_has ls 3 [(0, .ref (ad 0)), (1, .int a1), (2, .int a2)] := hl
  have k0 := hts (Cond.fieldLink RX4 19 "NoonWalker" "told" "LNoonWalker$Land;") (List.mem_of_getElem? (i := 1) rfl)
  have k1 := hts (Cond.constant RX4 138 (-1000000)) (List.mem_of_getElem? (i := 2) rfl)
  have k2 := hts (Cond.fieldLink RX4 29 "NoonWalker" "circuit" "LNoonWalker$Circuit;") (List.mem_of_getElem? (i := 3) rfl)
  have k3 := hts (Cond.fieldLink RX4 162 "NoonWalker$Circuit" "worth" "I") (List.mem_of_getElem? (i := 4) rfl)
  unfold fX4_best at h
  refine lv_aload_n hx hb dX4_best_0 rfl (lv_at hl 0 rfl) ?_
  refine m_get hx hb hts hown hKv hM (fun _ h => List.mem_cons_of_mem _ (List.mem_append_left _ (List.mem_append_left _ (List.mem_append_right _ (h))))) (by decide) at_X4 rfl 1 (by decide) k0 (v := .ref (ad (lp (M.1 0 1)))) rfl dX4_best_1 ?_
  refine lv_iload_n hx hb dX4_best_4 rfl (lv_at hl 1 rfl) ?_
  obtain ⟨x1, hx1, h⟩ := Option.bind_eq_some_iff.mp h
  refine m_callV (As := [.int a1]) (st1 := [.int x1]) hx hb (hml.trans hl.1.symm) hown hts hKv hXs hXk hM (kX1_isTown l D cI ad hX0 (lp (M.1 0 1)) (lp_ok _) a1 M _ hx1) (cwV 1 hts gX4_best_X1_isTown rfl rfl rfl (by decide +kernel) ⟨Nat.le_of_ble_eq_true rfl, Nat.le_of_ble_eq_true rfl⟩) (lt_X1 (lp_ok _)) (at_X1 (lp_ok _)) rfl rfl rfl rfl (Nat.le_of_ble_eq_true rfl) dX4_best_5 ⟨Nat.zero_le _, Nat.zero_le _⟩ (fun H locs hM => ?_)
  refine lv_if_eq (tgt := 22) hx hb dX4_best_8 (by decide) (fun c2 => ?_) (fun c2 => ?_)
  · replace h := (if_pos c2).symm.trans h
    refine lv_ldc (v := (-1000000 : Int32)) hx hb hown k1 dX4_best_22 ?_
    exact m_iret hx hb hr hlocks hM (congrArg (a₁ := ((-1000000 : Int32), M)) Prod.fst (Option.some.inj h)) (congrArg (a₁ := ((-1000000 : Int32), M)) (fun z => Ec ad cI z.2) (Option.some.inj h)) dX4_best_24
  · replace h := (if_neg c2).symm.trans h
    refine lv_iload_n hx hb dX4_best_11 rfl (lv_at hl 2 rfl) ?_
    refine lv_iconst (v := (-1 : Int32)) hx hb dX4_best_12 (by decide) ?_
    refine lv_icmp_lt (tgt := 22) hx hb dX4_best_13 (by decide) (fun c3 => ?_) (fun c3 => ?_)
    · replace h := (if_pos c3).symm.trans h
      refine lv_ldc (v := (-1000000 : Int32)) hx hb hown k1 dX4_best_22 ?_
      exact m_iret hx hb hr hlocks hM (congrArg (a₁ := ((-1000000 : Int32), M)) Prod.fst (Option.some.inj h)) (congrArg (a₁ := ((-1000000 : Int32), M)) (fun z => Ec ad cI z.2) (Option.some.inj h)) dX4_best_24
    · replace h := (if_neg c3).symm.trans h
      refine lv_iload_n hx hb dX4_best_16 rfl (lv_at hl 2 rfl) ?_
      refine lv_bipush (v := (6 : Int32)) hx hb dX4_best_17 (by decide) ?_
      refine lv_icmp_lt (tgt := 25) hx hb dX4_best_19 (by decide) (fun c4 => ?_) (fun c4 => ?_)
      · replace h := (if_pos c4).symm.trans h
        refine lv_aload_n hx hb dX4_best_25 rfl (lv_at hl 0 rfl) ?_
        refine m_get hx hb hts hown hKv hM (fun _ h => List.mem_cons_of_mem _ (List.mem_append_left _ (List.mem_append_left _ (List.mem_append_right _ (h))))) (by decide) at_X4 rfl 3 (by decide) k2 (v := .ref (ad 25)) rfl dX4_best_26 ?_
        refine lv_aload_n hx hb dX4_best_29 rfl (lv_at hl 0 rfl) ?_
        refine m_get hx hb hts hown hKv hM (fun _ h => List.mem_cons_of_mem _ (List.mem_append_left _ (List.mem_append_left _ (List.mem_append_right _ (h))))) (by decide) at_X4 rfl 1 (by decide) k0 (v := .ref (ad (lp (M.1 0 1)))) rfl dX4_best_30 ?_
        refine lv_iload_n hx hb dX4_best_33 rfl (lv_at hl 1 rfl) ?_
        obtain ⟨x5, hx5, h⟩ := Option.bind_eq_some_iff.mp h
        refine m_callV (As := [.ref (ad (lp (M.1 0 1))), .int a1]) (st1 := []) hx hb (hml.trans hl.1.symm) hown hts hKv hXs hXk hM (kX0_find l D cI ad hX0 (lp (M.1 0 1)) (lp_ok _) a1 M _ hx5) (cwV 2 hts gX4_best_X0_find rfl rfl rfl (by decide +kernel) ⟨Nat.le_of_ble_eq_true rfl, Nat.le_of_ble_eq_true rfl⟩) (by decide) at_X0 rfl rfl rfl rfl (Nat.le_of_ble_eq_true rfl) dX4_best_34 ⟨Nat.zero_le _, Nat.zero_le _⟩ (fun H locs hM => ?_)
        refine lv_iload_n hx hb dX4_best_37 rfl (lv_at hl 2 rfl) ?_
        refine lv_iconst (v := (-1 : Int32)) hx hb dX4_best_38 (by decide) ?_
        refine lv_icmp_ne (tgt := 52) hx hb dX4_best_39 (by decide) (fun c6 => ?_) (fun c6 => ?_)
        · replace h := (if_neg c6).symm.trans h
          refine lv_aload_n hx hb dX4_best_52 rfl (lv_at hl 0 rfl) ?_
          refine m_get hx hb hts hown hKv hM (fun _ h => List.mem_cons_of_mem _ (List.mem_append_left _ (List.mem_append_left _ (List.mem_append_right _ (h))))) (by decide) at_X4 rfl 3 (by decide) k2 (v := .ref (ad 25)) rfl dX4_best_53 ?_
          refine lv_iload_n hx hb dX4_best_56 rfl (lv_at hl 2 rfl) ?_
          obtain ⟨x7, hx7, h⟩ := Option.bind_eq_some_iff.mp h
          refine m_callV (As := [.int a2]) (st1 := [.int x7]) hx hb (hml.trans hl.1.symm) hown hts hKv hXs hXk hM (kX0_townOf l D cI ad hX0 a2 x5 _ hx7) (cwV 1 hts gX4_best_X0_townOf rfl rfl rfl (by decide +kernel) ⟨Nat.le_of_ble_eq_true rfl, Nat.le_of_ble_eq_true rfl⟩) (by decide) at_X0 rfl rfl rfl rfl (Nat.le_of_ble_eq_true rfl) dX4_best_57 ⟨Nat.zero_le _, Nat.zero_le _⟩ (fun H locs hM => ?_)
          exact m_iret hx hb hr hlocks hM (congrArg (a₁ := (x7, x5)) Prod.fst (Option.some.inj h)) (congrArg (a₁ := (x7, x5)) (fun z => Ec ad cI z.2) (Option.some.inj h)) dX4_best_60
        · replace h := (if_pos c6).symm.trans h
          refine lv_aload_n hx hb dX4_best_42 rfl (lv_at hl 0 rfl) ?_
          refine m_get hx hb hts hown hKv hM (fun _ h => List.mem_cons_of_mem _ (List.mem_append_left _ (List.mem_append_left _ (List.mem_append_right _ (h))))) (by decide) at_X4 rfl 3 (by decide) k2 (v := .ref (ad 25)) rfl dX4_best_43 ?_
          refine m_get hx hb hts hown hKv hM (fun _ h => List.mem_cons_of_mem _ (List.mem_append_left _ (List.mem_append_right _ (h)))) (by decide) at_X0 rfl 3 (by decide) k3 (v := .int (x5.1 25 3)) rfl dX4_best_46 ?_
          refine lv_goto (tgt := 60) hx hb dX4_best_49 (by decide) ?_
          exact m_iret hx hb hr hlocks hM (congrArg (a₁ := ((x5.1 25 3), x5)) Prod.fst (Option.some.inj h)) (congrArg (a₁ := ((x5.1 25 3), x5)) (fun z => Ec ad cI z.2) (Option.some.inj h)) dX4_best_60
      · replace h := (if_neg c4).symm.trans h
        refine lv_ldc (v := (-1000000 : Int32)) hx hb hown k1 dX4_best_22 ?_
        exact m_iret hx hb hr hlocks hM (congrArg (a₁ := ((-1000000 : Int32), M)) Prod.fst (Option.some.inj h)) (congrArg (a₁ := ((-1000000 : Int32), M)) (fun z => Ec ad cI z.2) (Option.some.inj h)) dX4_best_24
set_option maxHeartbeats 4000000 in
set_option maxRecDepth 100000 in
theorem kX4_saw (l : Launch) (D : va_G) (cI : ClassId) (ad : Nat → Nat) {X : State → Prop} {aS : Nat → Nat} (hX0 : cX D ad aS X) (a1 : Int32) (a2 : Int32) (a3 : Int32) (M : Mem) (res : (Int32 × Mem)) (h : fX4_saw a1 a2 a3 M = some res) : mC l yX4_saw wsX4_saw { frames := 1, cells := 0, slots := 0, locals := 23 } D [(cI, .int)] ad 40 X [.ref (ad 0), .int a1, .int a2, .int a3] (Ec ad cI M) (some (.int res.1)) (Ec ad cI res.2) := by
  refine m_ofW (cc := cX4_saw) (maxL := 4) (ret := (some .int)) (by decide) rfl (Nat.le_of_ble_eq_true rfl) ?_
  intro p e s m args below meth c hx hb hml hr hlocks hts hown hKv hXs ls hl hM
  have hXk := hX0.1
  have Z : mZ p s m args meth c cX4_saw 4 (some .int) wsX4_saw RX4 D [(cI, .int)] X := ⟨hx, hb, hml, hr, hlocks, hts, hown, hKv, hXs⟩
  replace hown : s.vm.findClass RX4 = some m.cls := hown
  have hl : lv_has ls 4 [(0, .ref (ad 0)), (1, .int a1), (2, .int a2), (3, .int a3)] := hl
  have k0 := hts (Cond.fieldLink RX4 19 "NoonWalker" "told" "LNoonWalker$Land;") (List.mem_of_getElem? (i := 1) rfl)
  have k1 := hts (Cond.fieldLink RX4 36 "NoonWalker" "present" "LNoonWalker$Memory;") (List.mem_of_getElem? (i := 2) rfl)
  have k2 := hts (Cond.fieldLink RX4 168 "NoonWalker$Memory" "seen" "I") (List.mem_of_getElem? (i := 3) rfl)
  unfold fX4_saw at h
  refine lv_aload_n hx hb dX4_saw_0 rfl (lv_at hl 0 rfl) ?_
  refine m_get hx hb hts hown hKv hM (fun _ h => List.mem_cons_of_mem _ (List.mem_append_left _ (List.mem_append_left _ (List.mem_append_right _ (h))))) (by decide) at_X4 rfl 1 (by decide) k0 (v := .ref (ad (lp (M.1 0 1)))) rfl dX4_saw_1 ?_
  refine lv_iload_n hx hb dX4_saw_4 rfl (lv_at hl 1 rfl) ?_
  obtain ⟨x1, hx1, h⟩ := Option.bind_eq_some_iff.mp h
  refine m_callV (As := [.int a1]) (st1 := [.int x1]) hx hb (hml.trans hl.1.symm) hown hts hKv hXs hXk hM (kX1_isTown l D cI ad hX0 (lp (M.1 0 1)) (lp_ok _) a1 M _ hx1) (cwV 1 hts gX4_saw_X1_isTown rfl rfl rfl (by decide +kernel) ⟨Nat.le_of_ble_eq_true rfl, Nat.le_of_ble_eq_true rfl⟩) (lt_X1 (lp_ok _)) (at_X1 (lp_ok _)) rfl rfl rfl rfl (Nat.le_of_ble_eq_true rfl) dX4_saw_5 ⟨Nat.zero_le _, Nat.zero_le _⟩ (fun H locs hM => ?_)
  refine lv_if_eq (tgt := 28) hx hb dX4_saw_8 (by decide) (fun c2 => ?_) (fun c2 => ?_)
  · replace h := (if_pos c2).symm.trans h
    refine lv_iconst (v := (-1 : Int32)) hx hb dX4_saw_28 (by decide) ?_
    exact m_iret hx hb hr hlocks hM (congrArg (a₁ := ((-1 : Int32), M)) Prod.fst (Option.some.inj h)) (congrArg (a₁ := ((-1 : Int32), M)) (fun z => Ec ad cI z.2) (Option.some.inj h)) dX4_saw_29
  · replace h := (if_neg c2).symm.trans h
    refine lv_iload_n hx hb dX4_saw_11 rfl (lv_at hl 2 rfl) ?_
    refine lv_if_lt (tgt := 28) hx hb dX4_saw_12 (by decide) (fun c3 => ?_) (fun c3 => ?_)
    · replace h := (if_pos c3).symm.trans h
      refine lv_iconst (v := (-1 : Int32)) hx hb dX4_saw_28 (by decide) ?_
      exact m_iret hx hb hr hlocks hM (congrArg (a₁ := ((-1 : Int32), M)) Prod.fst (Option.some.inj h)) (congrArg (a₁ := ((-1 : Int32), M)) (fun z => Ec ad cI z.2) (Option.some.inj h)) dX4_saw_29
    · replace h := (if_neg c3).symm.trans h
      refine lv_iload_n hx hb dX4_saw_15 rfl (lv_at hl 2 rfl) ?_
      refine lv_bipush (v := (24 : Int32)) hx hb dX4_saw_16 (by decide) ?_
      refine lv_icmp_ge (tgt := 28) hx hb dX4_saw_18 (by decide) (fun c4 => ?_) (fun c4 => ?_)
      · replace h := (if_pos c4).symm.trans h
        refine lv_iconst (v := (-1 : Int32)) hx hb dX4_saw_28 (by decide) ?_
        exact m_iret hx hb hr hlocks hM (congrArg (a₁ := ((-1 : Int32), M)) Prod.fst (Option.some.inj h)) (congrArg (a₁ := ((-1 : Int32), M)) (fun z => Ec ad cI z.2) (Option.some.inj h)) dX4_saw_29
      · replace h := (if_neg c4).symm.trans h
        refine lv_iload_n hx hb dX4_saw_21 rfl (lv_at hl 3 rfl) ?_
        obtain ⟨x5, hx5, h⟩ := Option.bind_eq_some_iff.mp h
        refine m_callS (As := [.int a3]) (st1 := [.int x5]) hx hb (hml.trans hl.1.symm) hown hts hKv hXs hXk hM (kX4_isHour l D cI ad hX0 a3 M _ hx5) (va_cwS 1 hts gX4_saw_X4_isHour rfl rfl rfl (by decide +kernel) ⟨Nat.le_of_ble_eq_true rfl, Nat.le_of_ble_eq_true rfl⟩) rfl rfl rfl (Nat.le_of_ble_eq_true rfl) dX4_saw_22 ⟨Nat.zero_le _, Nat.zero_le _⟩ (fun H locs hM => ?_)
        refine lv_if_ne (tgt := 30) hx hb dX4_saw_25 (by decide) (fun c6 => ?_) (fun c6 => ?_)
        · replace h := (if_neg c6).symm.trans h
          refine lv_aload_n hx hb dX4_saw_30 rfl (lv_at hl 0 rfl) ?_
          refine m_get hx hb hts hown hKv hM (fun _ h => List.mem_cons_of_mem _ (List.mem_append_left _ (List.mem_append_left _ (List.mem_append_right _ (h))))) (by decide) at_X4 rfl 4 (by decide) k1 (v := .ref (ad 28)) rfl dX4_saw_31 ?_
          refine m_get hx hb hts hown hKv hM (fun _ h => List.mem_cons_of_mem _ (List.mem_append_left _ (List.mem_append_right _ (h)))) (lt_X2 isM_28) (at_X2 isM_28) rfl 1 (by decide) k2 (v := .int (M.1 28 1)) rfl dX4_saw_34 ?_
          refine lv_bipush (v := (8 : Int32)) hx hb dX4_saw_37 (by decide) ?_
          refine lv_icmp_lt (tgt := 45) hx hb dX4_saw_39 (by decide) (fun c7 => ?_) (fun c7 => ?_)
          · replace h := (if_pos c7).symm.trans h
            refine lv_aload_n hx hb dX4_saw_45 rfl (lv_at hl 0 rfl) ?_
            refine m_get hx hb hts hown hKv hM (fun _ h => List.mem_cons_of_mem _ (List.mem_append_left _ (List.mem_append_left _ (List.mem_append_right _ (h))))) (by decide) at_X4 rfl 4 (by decide) k1 (v := .ref (ad 28)) rfl dX4_saw_46 ?_
            refine lv_iload_n hx hb dX4_saw_49 rfl (lv_at hl 1 rfl) ?_
            refine lv_iload_n hx hb dX4_saw_50 rfl (lv_at hl 2 rfl) ?_
            refine lv_iload_n hx hb dX4_saw_51 rfl (lv_at hl 3 rfl) ?_
            obtain ⟨x8, hx8, h⟩ := Option.bind_eq_some_iff.mp h
            refine m_callV (As := [.int a1, .int a2, .int a3]) (st1 := []) hx hb (hml.trans hl.1.symm) hown hts hKv hXs hXk hM (kX2_add l D cI ad hX0 28 isM_28 a1 a2 a3 M _ hx8) (cwV 3 hts gX4_saw_X2_add rfl rfl rfl (by decide +kernel) ⟨Nat.le_of_ble_eq_true rfl, Nat.le_of_ble_eq_true rfl⟩) (lt_X2 isM_28) (at_X2 isM_28) rfl rfl rfl rfl (Nat.le_of_ble_eq_true rfl) dX4_saw_52 ⟨Nat.zero_le _, Nat.zero_le _⟩ (fun H locs hM => ?_)
            refine lv_aload_n hx hb dX4_saw_55 rfl (lv_at hl 0 rfl) ?_
            refine m_get hx hb hts hown hKv hM (fun _ h => List.mem_cons_of_mem _ (List.mem_append_left _ (List.mem_append_left _ (List.mem_append_right _ (h))))) (by decide) at_X4 rfl 4 (by decide) k1 (v := .ref (ad 28)) rfl dX4_saw_56 ?_
            refine m_get hx hb hts hown hKv hM (fun _ h => List.mem_cons_of_mem _ (List.mem_append_left _ (List.mem_append_right _ (h)))) (lt_X2 isM_28) (at_X2 isM_28) rfl 1 (by decide) k2 (v := .int (x8.1 28 1)) rfl dX4_saw_59 ?_
            exact m_iret hx hb hr hlocks hM (congrArg (a₁ := ((x8.1 28 1), x8)) Prod.fst (Option.some.inj h)) (congrArg (a₁ := ((x8.1 28 1), x8)) (fun z => Ec ad cI z.2) (Option.some.inj h)) dX4_saw_62
          · replace h := (if_neg c7).symm.trans h
            refine lv_bipush (v := (-3 : Int32)) hx hb dX4_saw_42 (by decide) ?_
            exact m_iret hx hb hr hlocks hM (congrArg (a₁ := ((-3 : Int32), M)) Prod.fst (Option.some.inj h)) (congrArg (a₁ := ((-3 : Int32), M)) (fun z => Ec ad cI z.2) (Option.some.inj h)) dX4_saw_44
        · replace h := (if_pos c6).symm.trans h
          refine lv_iconst (v := (-1 : Int32)) hx hb dX4_saw_28 (by decide) ?_
          exact m_iret hx hb hr hlocks hM (congrArg (a₁ := ((-1 : Int32), M)) Prod.fst (Option.some.inj h)) (congrArg (a₁ := ((-1 : Int32), M)) (fun z => Ec ad cI z.2) (Option.some.inj h)) dX4_saw_29
set_option maxHeartbeats 4000000 in
set_option maxRecDepth 100000 in
theorem kX4_forget (l : Launch) (D : va_G) (cI : ClassId) (ad : Nat → Nat) {X : State → Prop} {aS : Nat → Nat} (hX0 : cX D ad aS X)  (M : Mem) (res : (Int32 × Mem)) (h : fX4_forget M = some res) : mC l yX4_forget wsX4_forget { frames := 0, cells := 0, slots := 0, locals := 0 } D [(cI, .int)] ad 40 X [.ref (ad 0)] (Ec ad cI M) (some (.int res.1)) (Ec ad cI res.2) := by
  refine m_ofW (cc := cX4_forget) (maxL := 2) (ret := (some .int)) (by decide) rfl (Nat.le_of_ble_eq_true rfl) ?_
  intro p e s m args below meth c hx hb hml hr hlocks hts hown hKv hXs ls hl hM
  have hXk := hX0.1
  have Z : mZ p s m args meth c cX4_forget 2 (some .int) wsX4_forget RX4 D [(cI, .int)] X := ⟨hx, hb, hml, hr, hlocks, hts, hown, hKv, hXs⟩
  replace hown : s.vm.findClass RX4 = some m.cls := hown
  have hl : lv_has ls 2 [(0, .ref (ad 0))] := hl
  have k0 := hts (Cond.fieldLink RX4 36 "NoonWalker" "present" "LNoonWalker$Memory;") (List.mem_of_getElem? (i := 1) rfl)
  have k1 := hts (Cond.fieldLink RX4 168 "NoonWalker$Memory" "seen" "I") (List.mem_of_getElem? (i := 2) rfl)
  unfold fX4_forget at h
  refine lv_aload_n hx hb dX4_forget_0 rfl (lv_at hl 0 rfl) ?_
  refine m_get hx hb hts hown hKv hM (fun _ h => List.mem_cons_of_mem _ (List.mem_append_left _ (List.mem_append_right _ (h)))) (by decide) at_X4 rfl 4 (by decide) k0 (v := .ref (ad 28)) rfl dX4_forget_1 ?_
  refine m_get hx hb hts hown hKv hM (fun _ h => List.mem_cons_of_mem _ (List.mem_append_right _ (h))) (lt_X2 isM_28) (at_X2 isM_28) rfl 1 (by decide) k1 (v := .int (M.1 28 1)) rfl dX4_forget_4 ?_
  refine lv_istore_n (lv' := [(1, .int (M.1 28 1)), (0, .ref (ad 0))]) hx hb dX4_forget_7 rfl hl (by decide) rfl (fun ls hl => ?_)
  refine lv_aload_n hx hb dX4_forget_8 rfl (lv_at hl 1 rfl) ?_
  refine m_get hx hb hts hown hKv hM (fun _ h => List.mem_cons_of_mem _ (List.mem_append_left _ (List.mem_append_right _ (h)))) (by decide) at_X4 rfl 4 (by decide) k0 (v := .ref (ad 28)) rfl dX4_forget_9 ?_
  refine lv_iconst (v := (0 : Int32)) hx hb dX4_forget_12 (by decide) ?_
  obtain ⟨M1, hM1, h⟩ := Option.bind_eq_some_iff.mp h
  refine m_put hx hb hts hown hKv hM (fun _ h => List.mem_cons_of_mem _ (List.mem_append_right _ (h))) tyX2 tyX2_ok nmX2 (lt_X2 isM_28) (at_X2 isM_28) rfl 1 (by decide) k1 rfl rfl rfl (Nat.le_of_ble_eq_true rfl) (pt_X2_1 isM_28 (Option.some.inj hM1)) dX4_forget_13 (fun H locs hM => ?_)
  refine lv_iload_n hx hb dX4_forget_16 rfl (lv_at hl 0 rfl) ?_
  exact m_iret hx hb hr hlocks hM (congrArg (a₁ := ((M.1 28 1), M1)) Prod.fst (Option.some.inj h)) (congrArg (a₁ := ((M.1 28 1), M1)) (fun z => Ec ad cI z.2) (Option.some.inj h)) dX4_forget_17
set_option maxHeartbeats 4000000 in
set_option maxRecDepth 100000 in
theorem wX4_so_4 {p : Program} {l : Launch} {e : Env} {s : State} {m : MethodId} {args : Array Value} {below : List Frame} {meth : Method} {c : Code} {D : va_G} {cI : ClassId} {ad : Nat → Nat} {X : State → Prop} (Z : mZ p s m args meth c cX4_so 3 (some .int) wsX4_so RX4 D [(cI, .int)] X) {aS : Nat → Nat} (hX0 : cX D ad aS X)    (M : Mem) {K : Int32 → Option Int32} (res : Int32) (hKc : ∀ (y1 : Int32), K y1 = some res → ∀ (H : Heap) (locs : List Loc) (ls : Array Slot), lv_has ls 3 [(1, .int y1)] → mH D ad 40 (Ec ad cI M) s.heap H locs → W p l e { frames := 5, cells := 0, slots := 0, locals := 113 } s m args below meth c H locs 0 0 (MQ below (mQ D ad 40 (some (.int res)) (Ec ad cI M)) args s 0 0 (mA ad 40)) (F0 m 64 ls [])) :
    ∀ (n : Nat) (v1 : Int32) (v2 : Int32), fX4_so_4 M K n v1 v2 = some res → ∀ (H : Heap) (locs : List Loc) (ls : Array Slot), lv_has ls 3 [(0, .ref (ad 0)), (1, .int v1), (2, .int v2)] → mH D ad 40 (Ec ad cI M) s.heap H locs → W p l e { frames := 5, cells := 0, slots := 0, locals := 113 } s m args below meth c H locs 0 0 (MQ below (mQ D ad 40 (some (.int res)) (Ec ad cI M)) args s 0 0 (mA ad 40)) (F0 m 4 ls []) := by
  obtain ⟨hx, hb, hml, hr, hlocks, hts, hown, hKv, hXs⟩ := id Z
  have hXk := hX0.1
  have k0 := hts (Cond.fieldLink RX4 36 "NoonWalker" "present" "LNoonWalker$Memory;") (List.mem_of_getElem? (i := 1) rfl)
  have k1 := hts (Cond.fieldLink RX4 168 "NoonWalker$Memory" "seen" "I") (List.mem_of_getElem? (i := 2) rfl)
  have k2 := hts (Cond.fieldLink RX4 19 "NoonWalker" "told" "LNoonWalker$Land;") (List.mem_of_getElem? (i := 3) rfl)
  have k3 := hts (Cond.fieldLink RX4 175 "NoonWalker$Memory" "towns" "[I") (List.mem_of_getElem? (i := 4) rfl)
  have k4 := hts (Cond.fieldLink RX4 178 "NoonWalker$Memory" "hours" "[I") (List.mem_of_getElem? (i := 5) rfl)
  have k5 := hts (Cond.fieldLink RX4 181 "NoonWalker$Memory" "clocks" "[I") (List.mem_of_getElem? (i := 6) rfl)
  intro n
  induction n with
  | zero => intro _ _ h; exact absurd h (by unfold fX4_so_4; exact fun h => by cases h)
  | succ n ih =>
    intro v1 v2 h H locs ls hl hM
    rw [fX4_so_4] at h
    refine lv_iload_n hx hb dX4_so_4 rfl (lv_at hl 2 rfl) ?_
    refine lv_aload_n hx hb dX4_so_5 rfl (lv_at hl 0 rfl) ?_
    refine m_get hx hb hts hown hKv hM (fun _ h => List.mem_cons_of_mem _ (List.mem_append_left _ (List.mem_append_left _ (List.mem_append_right _ (h))))) (by decide) at_X4 rfl 4 (by decide) k0 (v := .ref (ad 28)) rfl dX4_so_6 ?_
    refine m_get hx hb hts hown hKv hM (fun _ h => List.mem_cons_of_mem _ (List.mem_append_left _ (List.mem_append_right _ (h)))) (lt_X2 isM_28) (at_X2 isM_28) rfl 1 (by decide) k1 (v := .int (M.1 28 1)) rfl dX4_so_9 ?_
    refine lv_icmp_ge (tgt := 64) hx hb dX4_so_12 (by decide) (fun c1 => ?_) (fun c1 => ?_)
    · replace h := (if_pos c1).symm.trans h
      exact hKc _ h _ _ _ (lv_sub hl [1] rfl) hM
    · replace h := (if_neg c1).symm.trans h
      refine lv_aload_n hx hb dX4_so_15 rfl (lv_at hl 0 rfl) ?_
      refine m_get hx hb hts hown hKv hM (fun _ h => List.mem_cons_of_mem _ (List.mem_append_left _ (List.mem_append_left _ (List.mem_append_right _ (h))))) (by decide) at_X4 rfl 1 (by decide) k2 (v := .ref (ad (lp (M.1 0 1)))) rfl dX4_so_16 ?_
      refine lv_aload_n hx hb dX4_so_19 rfl (lv_at hl 0 rfl) ?_
      refine m_get hx hb hts hown hKv hM (fun _ h => List.mem_cons_of_mem _ (List.mem_append_left _ (List.mem_append_left _ (List.mem_append_right _ (h))))) (by decide) at_X4 rfl 4 (by decide) k0 (v := .ref (ad 28)) rfl dX4_so_20 ?_
      refine m_get hx hb hts hown hKv hM (fun _ h => List.mem_cons_of_mem _ (List.mem_append_left _ (List.mem_append_right _ (h)))) (lt_X2 isM_28) (at_X2 isM_28) rfl 2 (by decide) k3 (v := .ref (ad (28 + 1))) rfl dX4_so_23 ?_
      refine lv_iload_n hx hb dX4_so_26 rfl (lv_at hl 2 rfl) ?_
      obtain ⟨x2, hx2, h⟩ := Option.bind_eq_some_iff.mp h
      refine m_iald hx hb hKv hM (lt_X2_1 isM_28) (at_X2_1 isM_28) 0 rfl hx2 dX4_so_27 ?_
      refine lv_aload_n hx hb dX4_so_28 rfl (lv_at hl 0 rfl) ?_
      refine m_get hx hb hts hown hKv hM (fun _ h => List.mem_cons_of_mem _ (List.mem_append_left _ (List.mem_append_left _ (List.mem_append_right _ (h))))) (by decide) at_X4 rfl 4 (by decide) k0 (v := .ref (ad 28)) rfl dX4_so_29 ?_
      refine m_get hx hb hts hown hKv hM (fun _ h => List.mem_cons_of_mem _ (List.mem_append_left _ (List.mem_append_right _ (h)))) (lt_X2 isM_28) (at_X2 isM_28) rfl 4 (by decide) k4 (v := .ref (ad (28 + 3))) rfl dX4_so_32 ?_
      refine lv_iload_n hx hb dX4_so_35 rfl (lv_at hl 2 rfl) ?_
      obtain ⟨x3, hx3, h⟩ := Option.bind_eq_some_iff.mp h
      refine m_iald hx hb hKv hM (lt_X2_3 isM_28) (at_X2_3 isM_28) 0 rfl hx3 dX4_so_36 ?_
      obtain ⟨x4, hx4, h⟩ := Option.bind_eq_some_iff.mp h
      refine m_callV (As := [.int x2, .int x3]) (st1 := [.int x4]) hx hb (hml.trans hl.1.symm) hown hts hKv hXs hXk hM (kX1_clockAt l D cI ad hX0 (lp (M.1 0 1)) (lp_ok _) x2 x3 M _ hx4) (cwV 2 hts gX4_so_X1_clockAt rfl rfl rfl (by decide +kernel) ⟨Nat.le_of_ble_eq_true rfl, Nat.le_of_ble_eq_true rfl⟩) (lt_X1 (lp_ok _)) (at_X1 (lp_ok _)) rfl rfl rfl rfl (Nat.le_of_ble_eq_true rfl) dX4_so_37 ⟨Nat.zero_le _, Nat.zero_le _⟩ (fun H locs hM => ?_)
      refine lv_aload_n hx hb dX4_so_40 rfl (lv_at hl 0 rfl) ?_
      refine m_get hx hb hts hown hKv hM (fun _ h => List.mem_cons_of_mem _ (List.mem_append_left _ (List.mem_append_left _ (List.mem_append_right _ (h))))) (by decide) at_X4 rfl 4 (by decide) k0 (v := .ref (ad 28)) rfl dX4_so_41 ?_
      refine m_get hx hb hts hown hKv hM (fun _ h => List.mem_cons_of_mem _ (List.mem_append_left _ (List.mem_append_right _ (h)))) (lt_X2 isM_28) (at_X2 isM_28) rfl 3 (by decide) k5 (v := .ref (ad (28 + 2))) rfl dX4_so_44 ?_
      refine lv_iload_n hx hb dX4_so_47 rfl (lv_at hl 2 rfl) ?_
      obtain ⟨x5, hx5, h⟩ := Option.bind_eq_some_iff.mp h
      refine m_iald hx hb hKv hM (lt_X2_2 isM_28) (at_X2_2 isM_28) 0 rfl hx5 dX4_so_48 ?_
      refine lv_icmp_ne (tgt := 58) hx hb dX4_so_49 (by decide) (fun c6 => ?_) (fun c6 => ?_)
      · replace h := (if_neg c6).symm.trans h
        refine lv_iinc (v := (v2 + 1)) (lv' := [(2, .int (v2 + 1)), (0, .ref (ad 0)), (1, .int v1)]) hx hb dX4_so_58 hl (k := 2) rfl rfl (by decide) rfl (fun ls hl => ?_)
        refine lv_goto (tgt := 4) hx hb dX4_so_61 (by decide) ?_
        exact ih _ _ h _ _ _ (lv_sub hl [1, 2, 0] rfl) hM
      · replace h := (if_pos c6).symm.trans h
        refine lv_iload_n hx hb dX4_so_52 rfl (lv_at hl 1 rfl) ?_
        refine lv_iconst (v := (1 : Int32)) hx hb dX4_so_53 (by decide) ?_
        refine lv_iload_n hx hb dX4_so_54 rfl (lv_at hl 2 rfl) ?_
        refine lv_ishl hx hb dX4_so_55 ?_
        refine lv_ior hx hb dX4_so_56 ?_
        refine lv_istore_n (lv' := [(1, .int (v1 ||| ((1 : Int32) <<< (v2 &&& 31)))), (0, .ref (ad 0)), (2, .int v2)]) hx hb dX4_so_57 rfl hl (by decide) rfl (fun ls hl => ?_)
        refine lv_iinc (v := (v2 + 1)) (lv' := [(2, .int (v2 + 1)), (1, .int (v1 ||| ((1 : Int32) <<< (v2 &&& 31)))), (0, .ref (ad 0))]) hx hb dX4_so_58 hl (k := 2) rfl rfl (by decide) rfl (fun ls hl => ?_)
        refine lv_goto (tgt := 4) hx hb dX4_so_61 (by decide) ?_
        exact ih _ _ h _ _ _ (lv_sub hl [2, 1, 0] rfl) hM
set_option maxHeartbeats 4000000 in
set_option maxRecDepth 100000 in
theorem kX4_so (l : Launch) (D : va_G) (cI : ClassId) (ad : Nat → Nat) {X : State → Prop} {aS : Nat → Nat} (hX0 : cX D ad aS X)  (M : Mem) (res : Int32) (h : fX4_so M = some res) : mC l yX4_so wsX4_so { frames := 5, cells := 0, slots := 0, locals := 113 } D [(cI, .int)] ad 40 X [.ref (ad 0)] (Ec ad cI M) (some (.int res)) (Ec ad cI M) := by
  refine m_ofW (cc := cX4_so) (maxL := 3) (ret := (some .int)) (by decide) rfl (Nat.le_of_ble_eq_true rfl) ?_
  intro p e s m args below meth c hx hb hml hr hlocks hts hown hKv hXs ls hl hM
  have hXk := hX0.1
  have Z : mZ p s m args meth c cX4_so 3 (some .int) wsX4_so RX4 D [(cI, .int)] X := ⟨hx, hb, hml, hr, hlocks, hts, hown, hKv, hXs⟩
  replace hown : s.vm.findClass RX4 = some m.cls := hown
  have hl : lv_has ls 3 [(0, .ref (ad 0))] := hl
  unfold fX4_so at h
  refine lv_iconst (v := (0 : Int32)) hx hb dX4_so_0 (by decide) ?_
  refine lv_istore_n (lv' := [(1, .int (0 : Int32)), (0, .ref (ad 0))]) hx hb dX4_so_1 rfl hl (by decide) rfl (fun ls hl => ?_)
  refine lv_iconst (v := (0 : Int32)) hx hb dX4_so_2 (by decide) ?_
  refine lv_istore_n (lv' := [(2, .int (0 : Int32)), (1, .int (0 : Int32)), (0, .ref (ad 0))]) hx hb dX4_so_3 rfl hl (by decide) rfl (fun ls hl => ?_)
  refine wX4_so_4 Z hX0 M _ (fun y1 h H locs ls hl hM => ?_) _ _ _ h _ _ _ (lv_sub hl [2, 1, 0] rfl) hM
  refine lv_iload_n hx hb dX4_so_64 rfl (lv_at hl 0 rfl) ?_
  exact m_iret hx hb hr hlocks hM (Option.some.inj h) rfl dX4_so_65
set_option maxHeartbeats 4000000 in
set_option maxRecDepth 100000 in
theorem wX4_fits_2 {p : Program} {l : Launch} {e : Env} {s : State} {m : MethodId} {args : Array Value} {below : List Frame} {meth : Method} {c : Code} {D : va_G} {cI : ClassId} {ad : Nat → Nat} {X : State → Prop} (Z : mZ p s m args meth c cX4_fits 4 (some .boolean) wsX4_fits RX4 D [(cI, .int)] X) {aS : Nat → Nat} (hX0 : cX D ad aS X)   (u1 : Int32) (u2 : Int32) (M : Mem) {K : Option Int32} (res : Int32) (hKc : K = some res → ∀ (H : Heap) (locs : List Loc) (ls : Array Slot), lv_has ls 4 [] → mH D ad 40 (Ec ad cI M) s.heap H locs → W p l e { frames := 3, cells := 0, slots := 0, locals := 69 } s m args below meth c H locs 0 0 (MQ below (mQ D ad 40 (some (.int res)) (Ec ad cI M)) args s 0 0 (mA ad 40)) (F0 m 69 ls [])) :
    ∀ (n : Nat) (v3 : Int32), fX4_fits_2 u1 u2 M K n v3 = some res → ∀ (H : Heap) (locs : List Loc) (ls : Array Slot), lv_has ls 4 [(0, .ref (ad 0)), (1, .int u1), (2, .int u2), (3, .int v3)] → mH D ad 40 (Ec ad cI M) s.heap H locs → W p l e { frames := 3, cells := 0, slots := 0, locals := 69 } s m args below meth c H locs 0 0 (MQ below (mQ D ad 40 (some (.int res)) (Ec ad cI M)) args s 0 0 (mA ad 40)) (F0 m 2 ls []) := by
  obtain ⟨hx, hb, hml, hr, hlocks, hts, hown, hKv, hXs⟩ := id Z
  have hXk := hX0.1
  have k0 := hts (Cond.fieldLink RX4 36 "NoonWalker" "present" "LNoonWalker$Memory;") (List.mem_of_getElem? (i := 1) rfl)
  have k1 := hts (Cond.fieldLink RX4 168 "NoonWalker$Memory" "seen" "I") (List.mem_of_getElem? (i := 2) rfl)
  have k2 := hts (Cond.fieldLink RX4 178 "NoonWalker$Memory" "hours" "[I") (List.mem_of_getElem? (i := 3) rfl)
  have k3 := hts (Cond.fieldLink RX4 19 "NoonWalker" "told" "LNoonWalker$Land;") (List.mem_of_getElem? (i := 4) rfl)
  have k4 := hts (Cond.fieldLink RX4 175 "NoonWalker$Memory" "towns" "[I") (List.mem_of_getElem? (i := 5) rfl)
  have k5 := hts (Cond.fieldLink RX4 181 "NoonWalker$Memory" "clocks" "[I") (List.mem_of_getElem? (i := 6) rfl)
  intro n
  induction n with
  | zero => intro _ h; exact absurd h (by unfold fX4_fits_2; exact fun h => by cases h)
  | succ n ih =>
    intro v3 h H locs ls hl hM
    rw [fX4_fits_2] at h
    refine lv_iload_n hx hb dX4_fits_2 rfl (lv_at hl 3 rfl) ?_
    refine lv_aload_n hx hb dX4_fits_3 rfl (lv_at hl 0 rfl) ?_
    refine m_get hx hb hts hown hKv hM (fun _ h => List.mem_cons_of_mem _ (List.mem_append_left _ (List.mem_append_left _ (List.mem_append_right _ (h))))) (by decide) at_X4 rfl 4 (by decide) k0 (v := .ref (ad 28)) rfl dX4_fits_4 ?_
    refine m_get hx hb hts hown hKv hM (fun _ h => List.mem_cons_of_mem _ (List.mem_append_left _ (List.mem_append_right _ (h)))) (lt_X2 isM_28) (at_X2 isM_28) rfl 1 (by decide) k1 (v := .int (M.1 28 1)) rfl dX4_fits_7 ?_
    refine lv_icmp_ge (tgt := 69) hx hb dX4_fits_10 (by decide) (fun c1 => ?_) (fun c1 => ?_)
    · replace h := (if_pos c1).symm.trans h
      exact hKc  h _ _ _ (lv_sub hl [] rfl) hM
    · replace h := (if_neg c1).symm.trans h
      refine lv_aload_n hx hb dX4_fits_13 rfl (lv_at hl 0 rfl) ?_
      refine m_get hx hb hts hown hKv hM (fun _ h => List.mem_cons_of_mem _ (List.mem_append_left _ (List.mem_append_left _ (List.mem_append_right _ (h))))) (by decide) at_X4 rfl 4 (by decide) k0 (v := .ref (ad 28)) rfl dX4_fits_14 ?_
      refine m_get hx hb hts hown hKv hM (fun _ h => List.mem_cons_of_mem _ (List.mem_append_left _ (List.mem_append_right _ (h)))) (lt_X2 isM_28) (at_X2 isM_28) rfl 4 (by decide) k2 (v := .ref (ad (28 + 3))) rfl dX4_fits_17 ?_
      refine lv_iload_n hx hb dX4_fits_20 rfl (lv_at hl 3 rfl) ?_
      obtain ⟨x2, hx2, h⟩ := Option.bind_eq_some_iff.mp h
      refine m_iald hx hb hKv hM (lt_X2_3 isM_28) (at_X2_3 isM_28) 0 rfl hx2 dX4_fits_21 ?_
      refine lv_iload_n hx hb dX4_fits_22 rfl (lv_at hl 2 rfl) ?_
      refine lv_icmp_eq (tgt := 29) hx hb dX4_fits_23 (by decide) (fun c3 => ?_) (fun c3 => ?_)
      · replace h := (if_pos c3).symm.trans h
        refine lv_aload_n hx hb dX4_fits_29 rfl (lv_at hl 0 rfl) ?_
        refine m_get hx hb hts hown hKv hM (fun _ h => List.mem_cons_of_mem _ (List.mem_append_left _ (List.mem_append_left _ (List.mem_append_right _ (h))))) (by decide) at_X4 rfl 1 (by decide) k3 (v := .ref (ad (lp (M.1 0 1)))) rfl dX4_fits_30 ?_
        refine lv_iload_n hx hb dX4_fits_33 rfl (lv_at hl 1 rfl) ?_
        refine lv_aload_n hx hb dX4_fits_34 rfl (lv_at hl 0 rfl) ?_
        refine m_get hx hb hts hown hKv hM (fun _ h => List.mem_cons_of_mem _ (List.mem_append_left _ (List.mem_append_left _ (List.mem_append_right _ (h))))) (by decide) at_X4 rfl 4 (by decide) k0 (v := .ref (ad 28)) rfl dX4_fits_35 ?_
        refine m_get hx hb hts hown hKv hM (fun _ h => List.mem_cons_of_mem _ (List.mem_append_left _ (List.mem_append_right _ (h)))) (lt_X2 isM_28) (at_X2 isM_28) rfl 2 (by decide) k4 (v := .ref (ad (28 + 1))) rfl dX4_fits_38 ?_
        refine lv_iload_n hx hb dX4_fits_41 rfl (lv_at hl 3 rfl) ?_
        obtain ⟨x4, hx4, h⟩ := Option.bind_eq_some_iff.mp h
        refine m_iald hx hb hKv hM (lt_X2_1 isM_28) (at_X2_1 isM_28) 0 rfl hx4 dX4_fits_42 ?_
        obtain ⟨x5, hx5, h⟩ := Option.bind_eq_some_iff.mp h
        refine m_callV (As := [.int u1, .int x4]) (st1 := [.int x5]) hx hb (hml.trans hl.1.symm) hown hts hKv hXs hXk hM (kX1_distanceFromPlace l D cI ad hX0 (lp (M.1 0 1)) (lp_ok _) u1 x4 M _ hx5) (cwV 2 hts gX4_fits_X1_distanceFromPlace rfl rfl rfl (by decide +kernel) ⟨Nat.le_of_ble_eq_true rfl, Nat.le_of_ble_eq_true rfl⟩) (lt_X1 (lp_ok _)) (at_X1 (lp_ok _)) rfl rfl rfl rfl (Nat.le_of_ble_eq_true rfl) dX4_fits_43 ⟨Nat.zero_le _, Nat.zero_le _⟩ (fun H locs hM => ?_)
        obtain ⟨x6, hx6, h⟩ := Option.bind_eq_some_iff.mp h
        refine m_callS (As := [.int x5]) (st1 := [.int x6]) hx hb (hml.trans hl.1.symm) hown hts hKv hXs hXk hM (kX4_clockFor l D cI ad hX0 x5 M _ hx6) (va_cwS 1 hts gX4_fits_X4_clockFor rfl rfl rfl (by decide +kernel) ⟨Nat.le_of_ble_eq_true rfl, Nat.le_of_ble_eq_true rfl⟩) rfl rfl rfl (Nat.le_of_ble_eq_true rfl) dX4_fits_46 ⟨Nat.zero_le _, Nat.zero_le _⟩ (fun H locs hM => ?_)
        refine lv_aload_n hx hb dX4_fits_49 rfl (lv_at hl 0 rfl) ?_
        refine m_get hx hb hts hown hKv hM (fun _ h => List.mem_cons_of_mem _ (List.mem_append_left _ (List.mem_append_left _ (List.mem_append_right _ (h))))) (by decide) at_X4 rfl 4 (by decide) k0 (v := .ref (ad 28)) rfl dX4_fits_50 ?_
        refine m_get hx hb hts hown hKv hM (fun _ h => List.mem_cons_of_mem _ (List.mem_append_left _ (List.mem_append_right _ (h)))) (lt_X2 isM_28) (at_X2 isM_28) rfl 3 (by decide) k5 (v := .ref (ad (28 + 2))) rfl dX4_fits_53 ?_
        refine lv_iload_n hx hb dX4_fits_56 rfl (lv_at hl 3 rfl) ?_
        obtain ⟨x7, hx7, h⟩ := Option.bind_eq_some_iff.mp h
        refine m_iald hx hb hKv hM (lt_X2_2 isM_28) (at_X2_2 isM_28) 0 rfl hx7 dX4_fits_57 ?_
        refine lv_icmp_eq (tgt := 63) hx hb dX4_fits_58 (by decide) (fun c8 => ?_) (fun c8 => ?_)
        · replace h := (if_pos c8).symm.trans h
          refine lv_iinc (v := (v3 + 1)) (lv' := [(3, .int (v3 + 1)), (0, .ref (ad 0)), (1, .int u1), (2, .int u2)]) hx hb dX4_fits_63 hl (k := 3) rfl rfl (by decide) rfl (fun ls hl => ?_)
          refine lv_goto (tgt := 2) hx hb dX4_fits_66 (by decide) ?_
          exact ih _ h _ _ _ (lv_sub hl [1, 2, 3, 0] rfl) hM
        · replace h := (if_neg c8).symm.trans h
          refine lv_iconst (v := (0 : Int32)) hx hb dX4_fits_61 (by decide) ?_
          exact m_zret hx hb hr hlocks hM (Option.some.inj h) rfl rfl dX4_fits_62
      · replace h := (if_neg c3).symm.trans h
        refine lv_goto (tgt := 63) hx hb dX4_fits_26 (by decide) ?_
        refine lv_iinc (v := (v3 + 1)) (lv' := [(3, .int (v3 + 1)), (0, .ref (ad 0)), (1, .int u1), (2, .int u2)]) hx hb dX4_fits_63 hl (k := 3) rfl rfl (by decide) rfl (fun ls hl => ?_)
        refine lv_goto (tgt := 2) hx hb dX4_fits_66 (by decide) ?_
        exact ih _ h _ _ _ (lv_sub hl [1, 2, 3, 0] rfl) hM
set_option maxHeartbeats 4000000 in
set_option maxRecDepth 100000 in
theorem kX4_fits (l : Launch) (D : va_G) (cI : ClassId) (ad : Nat → Nat) {X : State → Prop} {aS : Nat → Nat} (hX0 : cX D ad aS X) (a1 : Int32) (a2 : Int32) (M : Mem) (res : Int32) (h : fX4_fits a1 a2 M = some res) : mC l yX4_fits wsX4_fits { frames := 3, cells := 0, slots := 0, locals := 69 } D [(cI, .int)] ad 40 X [.ref (ad 0), .int a1, .int a2] (Ec ad cI M) (some (.int res)) (Ec ad cI M) := by
  refine m_ofW (cc := cX4_fits) (maxL := 4) (ret := (some .boolean)) (by decide) rfl (Nat.le_of_ble_eq_true rfl) ?_
  intro p e s m args below meth c hx hb hml hr hlocks hts hown hKv hXs ls hl hM
  have hXk := hX0.1
  have Z : mZ p s m args meth c cX4_fits 4 (some .boolean) wsX4_fits RX4 D [(cI, .int)] X := ⟨hx, hb, hml, hr, hlocks, hts, hown, hKv, hXs⟩
  replace hown : s.vm.findClass RX4 = some m.cls := hown
  have hl : lv_has ls 4 [(0, .ref (ad 0)), (1, .int a1), (2, .int a2)] := hl
  unfold fX4_fits at h
  refine lv_iconst (v := (0 : Int32)) hx hb dX4_fits_0 (by decide) ?_
  refine lv_istore_n (lv' := [(3, .int (0 : Int32)), (0, .ref (ad 0)), (1, .int a1), (2, .int a2)]) hx hb dX4_fits_1 rfl hl (by decide) rfl (fun ls hl => ?_)
  refine wX4_fits_2 Z hX0 a1 a2 M _ (fun  h H locs ls hl hM => ?_) _ _ h _ _ _ (lv_sub hl [1, 2, 3, 0] rfl) hM
  refine lv_iconst (v := (1 : Int32)) hx hb dX4_fits_69 (by decide) ?_
  exact m_zret hx hb hr hlocks hM (Option.some.inj h) rfl rfl dX4_fits_70
set_option maxHeartbeats 4000000 in
set_option maxRecDepth 100000 in
theorem wX4_fittingPlaces_4 {p : Program} {l : Launch} {e : Env} {s : State} {m : MethodId} {args : Array Value} {below : List Frame} {meth : Method} {c : Code} {D : va_G} {cI : ClassId} {ad : Nat → Nat} {X : State → Prop} (Z : mZ p s m args meth c cX4_fittingPlaces 4 (some .int) wsX4_fittingPlaces RX4 D [(cI, .int)] X) {aS : Nat → Nat} (hX0 : cX D ad aS X)   (u1 : Int32) (M : Mem) {K : Int32 → Option Int32} (res : Int32) (hKc : ∀ (y2 : Int32), K y2 = some res → ∀ (H : Heap) (locs : List Loc) (ls : Array Slot), lv_has ls 4 [(2, .int y2)] → mH D ad 40 (Ec ad cI M) s.heap H locs → W p l e { frames := 4, cells := 0, slots := 0, locals := 92 } s m args below meth c H locs 0 0 (MQ below (mQ D ad 40 (some (.int res)) (Ec ad cI M)) args s 0 0 (mA ad 40)) (F0 m 41 ls [])) :
    ∀ (n : Nat) (v2 : Int32) (v3 : Int32), fX4_fittingPlaces_4 u1 M K n v2 v3 = some res → ∀ (H : Heap) (locs : List Loc) (ls : Array Slot), lv_has ls 4 [(0, .ref (ad 0)), (1, .int u1), (2, .int v2), (3, .int v3)] → mH D ad 40 (Ec ad cI M) s.heap H locs → W p l e { frames := 4, cells := 0, slots := 0, locals := 92 } s m args below meth c H locs 0 0 (MQ below (mQ D ad 40 (some (.int res)) (Ec ad cI M)) args s 0 0 (mA ad 40)) (F0 m 4 ls []) := by
  obtain ⟨hx, hb, hml, hr, hlocks, hts, hown, hKv, hXs⟩ := id Z
  have hXk := hX0.1
  have k0 := hts (Cond.fieldLink RX4 19 "NoonWalker" "told" "LNoonWalker$Land;") (List.mem_of_getElem? (i := 1) rfl)
  have k1 := hts (Cond.fieldLink RX4 237 "NoonWalker$Land" "places" "I") (List.mem_of_getElem? (i := 2) rfl)
  have k2 := hts (Cond.fieldLink RX4 240 "NoonWalker$Land" "placeList" "[I") (List.mem_of_getElem? (i := 3) rfl)
  intro n
  induction n with
  | zero => intro _ _ h; exact absurd h (by unfold fX4_fittingPlaces_4; exact fun h => by cases h)
  | succ n ih =>
    intro v2 v3 h H locs ls hl hM
    rw [fX4_fittingPlaces_4] at h
    refine lv_iload_n hx hb dX4_fittingPlaces_4 rfl (lv_at hl 3 rfl) ?_
    refine lv_aload_n hx hb dX4_fittingPlaces_5 rfl (lv_at hl 0 rfl) ?_
    refine m_get hx hb hts hown hKv hM (fun _ h => List.mem_cons_of_mem _ (List.mem_append_left _ (List.mem_append_left _ (List.mem_append_right _ (h))))) (by decide) at_X4 rfl 1 (by decide) k0 (v := .ref (ad (lp (M.1 0 1)))) rfl dX4_fittingPlaces_6 ?_
    refine m_get hx hb hts hown hKv hM (fun _ h => List.mem_cons_of_mem _ (List.mem_append_left _ (List.mem_append_right _ (h)))) (lt_X1 (lp_ok _)) (at_X1 (lp_ok _)) rfl 12 (by decide) k1 (v := .int (M.1 (lp (M.1 0 1)) 12)) rfl dX4_fittingPlaces_9 ?_
    refine lv_icmp_ge (tgt := 41) hx hb dX4_fittingPlaces_12 (by decide) (fun c1 => ?_) (fun c1 => ?_)
    · replace h := (if_pos c1).symm.trans h
      exact hKc _ h _ _ _ (lv_sub hl [2] rfl) hM
    · replace h := (if_neg c1).symm.trans h
      refine lv_aload_n hx hb dX4_fittingPlaces_15 rfl (lv_at hl 0 rfl) ?_
      refine lv_aload_n hx hb dX4_fittingPlaces_16 rfl (lv_at hl 0 rfl) ?_
      refine m_get hx hb hts hown hKv hM (fun _ h => List.mem_cons_of_mem _ (List.mem_append_left _ (List.mem_append_left _ (List.mem_append_right _ (h))))) (by decide) at_X4 rfl 1 (by decide) k0 (v := .ref (ad (lp (M.1 0 1)))) rfl dX4_fittingPlaces_17 ?_
      refine m_get hx hb hts hown hKv hM (fun _ h => List.mem_cons_of_mem _ (List.mem_append_left _ (List.mem_append_right _ (h)))) (lt_X1 (lp_ok _)) (at_X1 (lp_ok _)) rfl 13 (by decide) k2 (v := .ref (ad ((lp (M.1 0 1)) + 10))) rfl dX4_fittingPlaces_20 ?_
      refine lv_iload_n hx hb dX4_fittingPlaces_23 rfl (lv_at hl 3 rfl) ?_
      obtain ⟨x2, hx2, h⟩ := Option.bind_eq_some_iff.mp h
      refine m_iald hx hb hKv hM (lt_X1_10 (lp_ok _)) (at_X1_10 (lp_ok _)) 0 rfl hx2 dX4_fittingPlaces_24 ?_
      refine lv_iload_n hx hb dX4_fittingPlaces_25 rfl (lv_at hl 1 rfl) ?_
      obtain ⟨x3, hx3, h⟩ := Option.bind_eq_some_iff.mp h
      refine m_callV (As := [.int x2, .int u1]) (st1 := [.int x3]) hx hb (hml.trans hl.1.symm) hown hts hKv hXs hXk hM (kX4_fits l D cI ad hX0 x2 u1 M _ hx3) (cwV 2 hts gX4_fittingPlaces_X4_fits rfl rfl rfl (by decide +kernel) ⟨Nat.le_of_ble_eq_true rfl, Nat.le_of_ble_eq_true rfl⟩) (by decide) at_X4 rfl rfl rfl rfl (Nat.le_of_ble_eq_true rfl) dX4_fittingPlaces_26 ⟨Nat.zero_le _, Nat.zero_le _⟩ (fun H locs hM => ?_)
      refine lv_if_eq (tgt := 35) hx hb dX4_fittingPlaces_29 (by decide) (fun c4 => ?_) (fun c4 => ?_)
      · replace h := (if_pos c4).symm.trans h
        refine lv_iinc (v := (v3 + 1)) (lv' := [(3, .int (v3 + 1)), (0, .ref (ad 0)), (1, .int u1), (2, .int v2)]) hx hb dX4_fittingPlaces_35 hl (k := 3) rfl rfl (by decide) rfl (fun ls hl => ?_)
        refine lv_goto (tgt := 4) hx hb dX4_fittingPlaces_38 (by decide) ?_
        exact ih _ _ h _ _ _ (lv_sub hl [1, 2, 3, 0] rfl) hM
      · replace h := (if_neg c4).symm.trans h
        refine lv_iinc (v := (v2 + 1)) (lv' := [(2, .int (v2 + 1)), (0, .ref (ad 0)), (1, .int u1), (3, .int v3)]) hx hb dX4_fittingPlaces_32 hl (k := 2) rfl rfl (by decide) rfl (fun ls hl => ?_)
        refine lv_iinc (v := (v3 + 1)) (lv' := [(3, .int (v3 + 1)), (2, .int (v2 + 1)), (0, .ref (ad 0)), (1, .int u1)]) hx hb dX4_fittingPlaces_35 hl (k := 3) rfl rfl (by decide) rfl (fun ls hl => ?_)
        refine lv_goto (tgt := 4) hx hb dX4_fittingPlaces_38 (by decide) ?_
        exact ih _ _ h _ _ _ (lv_sub hl [2, 3, 1, 0] rfl) hM
set_option maxHeartbeats 4000000 in
set_option maxRecDepth 100000 in
theorem kX4_fittingPlaces (l : Launch) (D : va_G) (cI : ClassId) (ad : Nat → Nat) {X : State → Prop} {aS : Nat → Nat} (hX0 : cX D ad aS X) (a1 : Int32) (M : Mem) (res : Int32) (h : fX4_fittingPlaces a1 M = some res) : mC l yX4_fittingPlaces wsX4_fittingPlaces { frames := 4, cells := 0, slots := 0, locals := 92 } D [(cI, .int)] ad 40 X [.ref (ad 0), .int a1] (Ec ad cI M) (some (.int res)) (Ec ad cI M) := by
  refine m_ofW (cc := cX4_fittingPlaces) (maxL := 4) (ret := (some .int)) (by decide) rfl (Nat.le_of_ble_eq_true rfl) ?_
  intro p e s m args below meth c hx hb hml hr hlocks hts hown hKv hXs ls hl hM
  have hXk := hX0.1
  have Z : mZ p s m args meth c cX4_fittingPlaces 4 (some .int) wsX4_fittingPlaces RX4 D [(cI, .int)] X := ⟨hx, hb, hml, hr, hlocks, hts, hown, hKv, hXs⟩
  replace hown : s.vm.findClass RX4 = some m.cls := hown
  have hl : lv_has ls 4 [(0, .ref (ad 0)), (1, .int a1)] := hl
  unfold fX4_fittingPlaces at h
  refine lv_iconst (v := (0 : Int32)) hx hb dX4_fittingPlaces_0 (by decide) ?_
  refine lv_istore_n (lv' := [(2, .int (0 : Int32)), (0, .ref (ad 0)), (1, .int a1)]) hx hb dX4_fittingPlaces_1 rfl hl (by decide) rfl (fun ls hl => ?_)
  refine lv_iconst (v := (0 : Int32)) hx hb dX4_fittingPlaces_2 (by decide) ?_
  refine lv_istore_n (lv' := [(3, .int (0 : Int32)), (2, .int (0 : Int32)), (0, .ref (ad 0)), (1, .int a1)]) hx hb dX4_fittingPlaces_3 rfl hl (by decide) rfl (fun ls hl => ?_)
  refine wX4_fittingPlaces_4 Z hX0 a1 M _ (fun y1 h H locs ls hl hM => ?_) _ _ _ h _ _ _ (lv_sub hl [2, 3, 1, 0] rfl) hM
  refine lv_iload_n hx hb dX4_fittingPlaces_41 rfl (lv_at hl 0 rfl) ?_
  exact m_iret hx hb hr hlocks hM (Option.some.inj h) rfl dX4_fittingPlaces_42
set_option maxHeartbeats 4000000 in
set_option maxRecDepth 100000 in
theorem wX4_firstFitting_2 {p : Program} {l : Launch} {e : Env} {s : State} {m : MethodId} {args : Array Value} {below : List Frame} {meth : Method} {c : Code} {D : va_G} {cI : ClassId} {ad : Nat → Nat} {X : State → Prop} (Z : mZ p s m args meth c cX4_firstFitting 3 (some .int) wsX4_firstFitting RX4 D [(cI, .int)] X) {aS : Nat → Nat} (hX0 : cX D ad aS X)   (u1 : Int32) (M : Mem) {K : Option Int32} (res : Int32) (hKc : K = some res → ∀ (H : Heap) (locs : List Loc) (ls : Array Slot), lv_has ls 3 [] → mH D ad 40 (Ec ad cI M) s.heap H locs → W p l e { frames := 4, cells := 0, slots := 0, locals := 92 } s m args below meth c H locs 0 0 (MQ below (mQ D ad 40 (some (.int res)) (Ec ad cI M)) args s 0 0 (mA ad 40)) (F0 m 46 ls [])) :
    ∀ (n : Nat) (v2 : Int32), fX4_firstFitting_2 u1 M K n v2 = some res → ∀ (H : Heap) (locs : List Loc) (ls : Array Slot), lv_has ls 3 [(0, .ref (ad 0)), (1, .int u1), (2, .int v2)] → mH D ad 40 (Ec ad cI M) s.heap H locs → W p l e { frames := 4, cells := 0, slots := 0, locals := 92 } s m args below meth c H locs 0 0 (MQ below (mQ D ad 40 (some (.int res)) (Ec ad cI M)) args s 0 0 (mA ad 40)) (F0 m 2 ls []) := by
  obtain ⟨hx, hb, hml, hr, hlocks, hts, hown, hKv, hXs⟩ := id Z
  have hXk := hX0.1
  have k0 := hts (Cond.fieldLink RX4 19 "NoonWalker" "told" "LNoonWalker$Land;") (List.mem_of_getElem? (i := 1) rfl)
  have k1 := hts (Cond.fieldLink RX4 237 "NoonWalker$Land" "places" "I") (List.mem_of_getElem? (i := 2) rfl)
  have k2 := hts (Cond.fieldLink RX4 240 "NoonWalker$Land" "placeList" "[I") (List.mem_of_getElem? (i := 3) rfl)
  intro n
  induction n with
  | zero => intro _ h; exact absurd h (by unfold fX4_firstFitting_2; exact fun h => by cases h)
  | succ n ih =>
    intro v2 h H locs ls hl hM
    rw [fX4_firstFitting_2] at h
    refine lv_iload_n hx hb dX4_firstFitting_2 rfl (lv_at hl 2 rfl) ?_
    refine lv_aload_n hx hb dX4_firstFitting_3 rfl (lv_at hl 0 rfl) ?_
    refine m_get hx hb hts hown hKv hM (fun _ h => List.mem_cons_of_mem _ (List.mem_append_left _ (List.mem_append_left _ (List.mem_append_right _ (h))))) (by decide) at_X4 rfl 1 (by decide) k0 (v := .ref (ad (lp (M.1 0 1)))) rfl dX4_firstFitting_4 ?_
    refine m_get hx hb hts hown hKv hM (fun _ h => List.mem_cons_of_mem _ (List.mem_append_left _ (List.mem_append_right _ (h)))) (lt_X1 (lp_ok _)) (at_X1 (lp_ok _)) rfl 12 (by decide) k1 (v := .int (M.1 (lp (M.1 0 1)) 12)) rfl dX4_firstFitting_7 ?_
    refine lv_icmp_ge (tgt := 46) hx hb dX4_firstFitting_10 (by decide) (fun c1 => ?_) (fun c1 => ?_)
    · replace h := (if_pos c1).symm.trans h
      exact hKc  h _ _ _ (lv_sub hl [] rfl) hM
    · replace h := (if_neg c1).symm.trans h
      refine lv_aload_n hx hb dX4_firstFitting_13 rfl (lv_at hl 0 rfl) ?_
      refine lv_aload_n hx hb dX4_firstFitting_14 rfl (lv_at hl 0 rfl) ?_
      refine m_get hx hb hts hown hKv hM (fun _ h => List.mem_cons_of_mem _ (List.mem_append_left _ (List.mem_append_left _ (List.mem_append_right _ (h))))) (by decide) at_X4 rfl 1 (by decide) k0 (v := .ref (ad (lp (M.1 0 1)))) rfl dX4_firstFitting_15 ?_
      refine m_get hx hb hts hown hKv hM (fun _ h => List.mem_cons_of_mem _ (List.mem_append_left _ (List.mem_append_right _ (h)))) (lt_X1 (lp_ok _)) (at_X1 (lp_ok _)) rfl 13 (by decide) k2 (v := .ref (ad ((lp (M.1 0 1)) + 10))) rfl dX4_firstFitting_18 ?_
      refine lv_iload_n hx hb dX4_firstFitting_21 rfl (lv_at hl 2 rfl) ?_
      obtain ⟨x2, hx2, h⟩ := Option.bind_eq_some_iff.mp h
      refine m_iald hx hb hKv hM (lt_X1_10 (lp_ok _)) (at_X1_10 (lp_ok _)) 0 rfl hx2 dX4_firstFitting_22 ?_
      refine lv_iload_n hx hb dX4_firstFitting_23 rfl (lv_at hl 1 rfl) ?_
      obtain ⟨x3, hx3, h⟩ := Option.bind_eq_some_iff.mp h
      refine m_callV (As := [.int x2, .int u1]) (st1 := [.int x3]) hx hb (hml.trans hl.1.symm) hown hts hKv hXs hXk hM (kX4_fits l D cI ad hX0 x2 u1 M _ hx3) (cwV 2 hts gX4_firstFitting_X4_fits rfl rfl rfl (by decide +kernel) ⟨Nat.le_of_ble_eq_true rfl, Nat.le_of_ble_eq_true rfl⟩) (by decide) at_X4 rfl rfl rfl rfl (Nat.le_of_ble_eq_true rfl) dX4_firstFitting_24 ⟨Nat.zero_le _, Nat.zero_le _⟩ (fun H locs hM => ?_)
      refine lv_if_eq (tgt := 40) hx hb dX4_firstFitting_27 (by decide) (fun c4 => ?_) (fun c4 => ?_)
      · replace h := (if_pos c4).symm.trans h
        refine lv_iinc (v := (v2 + 1)) (lv' := [(2, .int (v2 + 1)), (0, .ref (ad 0)), (1, .int u1)]) hx hb dX4_firstFitting_40 hl (k := 2) rfl rfl (by decide) rfl (fun ls hl => ?_)
        refine lv_goto (tgt := 2) hx hb dX4_firstFitting_43 (by decide) ?_
        exact ih _ h _ _ _ (lv_sub hl [1, 2, 0] rfl) hM
      · replace h := (if_neg c4).symm.trans h
        refine lv_aload_n hx hb dX4_firstFitting_30 rfl (lv_at hl 0 rfl) ?_
        refine m_get hx hb hts hown hKv hM (fun _ h => List.mem_cons_of_mem _ (List.mem_append_left _ (List.mem_append_left _ (List.mem_append_right _ (h))))) (by decide) at_X4 rfl 1 (by decide) k0 (v := .ref (ad (lp (M.1 0 1)))) rfl dX4_firstFitting_31 ?_
        refine m_get hx hb hts hown hKv hM (fun _ h => List.mem_cons_of_mem _ (List.mem_append_left _ (List.mem_append_right _ (h)))) (lt_X1 (lp_ok _)) (at_X1 (lp_ok _)) rfl 13 (by decide) k2 (v := .ref (ad ((lp (M.1 0 1)) + 10))) rfl dX4_firstFitting_34 ?_
        refine lv_iload_n hx hb dX4_firstFitting_37 rfl (lv_at hl 2 rfl) ?_
        obtain ⟨x5, hx5, h⟩ := Option.bind_eq_some_iff.mp h
        refine m_iald hx hb hKv hM (lt_X1_10 (lp_ok _)) (at_X1_10 (lp_ok _)) 0 rfl hx5 dX4_firstFitting_38 ?_
        exact m_iret hx hb hr hlocks hM (Option.some.inj h) rfl dX4_firstFitting_39
set_option maxHeartbeats 4000000 in
set_option maxRecDepth 100000 in
theorem kX4_firstFitting (l : Launch) (D : va_G) (cI : ClassId) (ad : Nat → Nat) {X : State → Prop} {aS : Nat → Nat} (hX0 : cX D ad aS X) (a1 : Int32) (M : Mem) (res : Int32) (h : fX4_firstFitting a1 M = some res) : mC l yX4_firstFitting wsX4_firstFitting { frames := 4, cells := 0, slots := 0, locals := 92 } D [(cI, .int)] ad 40 X [.ref (ad 0), .int a1] (Ec ad cI M) (some (.int res)) (Ec ad cI M) := by
  refine m_ofW (cc := cX4_firstFitting) (maxL := 3) (ret := (some .int)) (by decide) rfl (Nat.le_of_ble_eq_true rfl) ?_
  intro p e s m args below meth c hx hb hml hr hlocks hts hown hKv hXs ls hl hM
  have hXk := hX0.1
  have Z : mZ p s m args meth c cX4_firstFitting 3 (some .int) wsX4_firstFitting RX4 D [(cI, .int)] X := ⟨hx, hb, hml, hr, hlocks, hts, hown, hKv, hXs⟩
  replace hown : s.vm.findClass RX4 = some m.cls := hown
  have hl : lv_has ls 3 [(0, .ref (ad 0)), (1, .int a1)] := hl
  unfold fX4_firstFitting at h
  refine lv_iconst (v := (0 : Int32)) hx hb dX4_firstFitting_0 (by decide) ?_
  refine lv_istore_n (lv' := [(2, .int (0 : Int32)), (0, .ref (ad 0)), (1, .int a1)]) hx hb dX4_firstFitting_1 rfl hl (by decide) rfl (fun ls hl => ?_)
  refine wX4_firstFitting_2 Z hX0 a1 M _ (fun  h H locs ls hl hM => ?_) _ _ h _ _ _ (lv_sub hl [1, 2, 0] rfl) hM
  refine lv_bipush (v := (-9 : Int32)) hx hb dX4_firstFitting_46 (by decide) ?_
  exact m_iret hx hb hr hlocks hM (Option.some.inj h) rfl dX4_firstFitting_48
set_option maxHeartbeats 4000000 in
set_option maxRecDepth 100000 in
theorem kX4_stood (l : Launch) (D : va_G) (cI : ClassId) (ad : Nat → Nat) {X : State → Prop} {aS : Nat → Nat} (hX0 : cX D ad aS X) (a1 : Int32) (a2 : Int32) (M : Mem) (res : Int32) (h : fX4_stood a1 a2 M = some res) : mC l yX4_stood wsX4_stood { frames := 5, cells := 0, slots := 0, locals := 115 } D [(cI, .int)] ad 40 X [.ref (ad 0), .int a1, .int a2] (Ec ad cI M) (some (.int res)) (Ec ad cI M) := by
  refine m_ofW (cc := cX4_stood) (maxL := 3) (ret := (some .int)) (by decide) rfl (Nat.le_of_ble_eq_true rfl) ?_
  intro p e s m args below meth c hx hb hml hr hlocks hts hown hKv hXs ls hl hM
  have hXk := hX0.1
  have Z : mZ p s m args meth c cX4_stood 3 (some .int) wsX4_stood RX4 D [(cI, .int)] X := ⟨hx, hb, hml, hr, hlocks, hts, hown, hKv, hXs⟩
  replace hown : s.vm.findClass RX4 = some m.cls := hown
  have hl : lv_has ls 3 [(0, .ref (ad 0)), (1, .int a1), (2, .int a2)] := hl
  unfold fX4_stood at h
  refine lv_iload_n hx hb dX4_stood_0 rfl (lv_at hl 1 rfl) ?_
  obtain ⟨x1, hx1, h⟩ := Option.bind_eq_some_iff.mp h
  refine m_callS (As := [.int a1]) (st1 := [.int x1]) hx hb (hml.trans hl.1.symm) hown hts hKv hXs hXk hM (kX4_isHour l D cI ad hX0 a1 M _ hx1) (va_cwS 1 hts gX4_stood_X4_isHour rfl rfl rfl (by decide +kernel) ⟨Nat.le_of_ble_eq_true rfl, Nat.le_of_ble_eq_true rfl⟩) rfl rfl rfl (Nat.le_of_ble_eq_true rfl) dX4_stood_1 ⟨Nat.zero_le _, Nat.zero_le _⟩ (fun H locs hM => ?_)
  refine lv_if_ne (tgt := 9) hx hb dX4_stood_4 (by decide) (fun c2 => ?_) (fun c2 => ?_)
  · replace h := (if_neg c2).symm.trans h
    refine lv_iload_n hx hb dX4_stood_9 rfl (lv_at hl 2 rfl) ?_
    by_cases c3 : a2 = (0 : Int32)
    · replace h := (if_pos c3).symm.trans h
      refine lv_lookup (off := 26) (tgt := 36) hx hb dX4_stood_10 (by decide) (by rw [c3]; rfl) (by decide) ?_
      refine lv_aload_n hx hb dX4_stood_36 rfl (lv_at hl 0 rfl) ?_
      refine lv_iload_n hx hb dX4_stood_37 rfl (lv_at hl 1 rfl) ?_
      obtain ⟨x4, hx4, h⟩ := Option.bind_eq_some_iff.mp h
      refine m_callV (As := [.int a1]) (st1 := [.int x4]) hx hb (hml.trans hl.1.symm) hown hts hKv hXs hXk hM (kX4_fittingPlaces l D cI ad hX0 a1 M _ hx4) (cwV 1 hts gX4_stood_X4_fittingPlaces rfl rfl rfl (by decide +kernel) ⟨Nat.le_of_ble_eq_true rfl, Nat.le_of_ble_eq_true rfl⟩) (by decide) at_X4 rfl rfl rfl rfl (Nat.le_of_ble_eq_true rfl) dX4_stood_38 ⟨Nat.zero_le _, Nat.zero_le _⟩ (fun H locs hM => ?_)
      exact m_iret hx hb hr hlocks hM (Option.some.inj h) rfl dX4_stood_41
    replace h := (if_neg c3).symm.trans h
    by_cases c5 : a2 = (1 : Int32)
    · replace h := (if_pos c5).symm.trans h
      refine lv_lookup (off := 32) (tgt := 42) hx hb dX4_stood_10 (by decide) (by rw [c5]; rfl) (by decide) ?_
      refine lv_aload_n hx hb dX4_stood_42 rfl (lv_at hl 0 rfl) ?_
      refine lv_iload_n hx hb dX4_stood_43 rfl (lv_at hl 1 rfl) ?_
      obtain ⟨x6, hx6, h⟩ := Option.bind_eq_some_iff.mp h
      refine m_callV (As := [.int a1]) (st1 := [.int x6]) hx hb (hml.trans hl.1.symm) hown hts hKv hXs hXk hM (kX4_firstFitting l D cI ad hX0 a1 M _ hx6) (cwV 1 hts gX4_stood_X4_firstFitting rfl rfl rfl (by decide +kernel) ⟨Nat.le_of_ble_eq_true rfl, Nat.le_of_ble_eq_true rfl⟩) (by decide) at_X4 rfl rfl rfl rfl (Nat.le_of_ble_eq_true rfl) dX4_stood_44 ⟨Nat.zero_le _, Nat.zero_le _⟩ (fun H locs hM => ?_)
      exact m_iret hx hb hr hlocks hM (Option.some.inj h) rfl dX4_stood_47
    replace h := (if_neg c5).symm.trans h
    refine lv_lookup (off := 38) (tgt := 48) hx hb dX4_stood_10 (by decide) (by show Op.lookupswitch.offset [((0 : Int), (26 : Int)), ((1 : Int), (32 : Int))] 38 _ = _; rw [lv_osw (a := 0) c3 (by decide), lv_osw (a := 1) c5 (by decide)]; rfl) (by decide) ?_
    refine lv_iconst (v := (-1 : Int32)) hx hb dX4_stood_48 (by decide) ?_
    exact m_iret hx hb hr hlocks hM (Option.some.inj h) rfl dX4_stood_49
  · replace h := (if_pos c2).symm.trans h
    refine lv_iconst (v := (-1 : Int32)) hx hb dX4_stood_7 (by decide) ?_
    exact m_iret hx hb hr hlocks hM (Option.some.inj h) rfl dX4_stood_8
set_option maxHeartbeats 4000000 in
set_option maxRecDepth 100000 in
theorem wX4_two_2 {p : Program} {l : Launch} {e : Env} {s : State} {m : MethodId} {args : Array Value} {below : List Frame} {meth : Method} {c : Code} {D : va_G} {cI : ClassId} {ad : Nat → Nat} {X : State → Prop} (Z : mZ p s m args meth c cX4_two 2 (some .int) wsX4_two RX4 D [(cI, .int)] X) {aS : Nat → Nat} (hX0 : cX D ad aS X)    (M : Mem) {K : Option Int32} (res : Int32) (hKc : K = some res → ∀ (H : Heap) (locs : List Loc) (ls : Array Slot), lv_has ls 2 [] → mH D ad 40 (Ec ad cI M) s.heap H locs → W p l e { frames := 5, cells := 0, slots := 0, locals := 114 } s m args below meth c H locs 0 0 (MQ below (mQ D ad 40 (some (.int res)) (Ec ad cI M)) args s 0 0 (mA ad 40)) (F0 m 39 ls [])) :
    ∀ (n : Nat) (v1 : Int32), fX4_two_2 M K n v1 = some res → ∀ (H : Heap) (locs : List Loc) (ls : Array Slot), lv_has ls 2 [(0, .ref (ad 0)), (1, .int v1)] → mH D ad 40 (Ec ad cI M) s.heap H locs → W p l e { frames := 5, cells := 0, slots := 0, locals := 114 } s m args below meth c H locs 0 0 (MQ below (mQ D ad 40 (some (.int res)) (Ec ad cI M)) args s 0 0 (mA ad 40)) (F0 m 2 ls []) := by
  obtain ⟨hx, hb, hml, hr, hlocks, hts, hown, hKv, hXs⟩ := id Z
  have hXk := hX0.1
  have k0 := hts (Cond.fieldLink RX4 36 "NoonWalker" "present" "LNoonWalker$Memory;") (List.mem_of_getElem? (i := 1) rfl)
  have k1 := hts (Cond.fieldLink RX4 168 "NoonWalker$Memory" "seen" "I") (List.mem_of_getElem? (i := 2) rfl)
  have k2 := hts (Cond.fieldLink RX4 178 "NoonWalker$Memory" "hours" "[I") (List.mem_of_getElem? (i := 3) rfl)
  intro n
  induction n with
  | zero => intro _ h; exact absurd h (by unfold fX4_two_2; exact fun h => by cases h)
  | succ n ih =>
    intro v1 h H locs ls hl hM
    rw [fX4_two_2] at h
    refine lv_iload_n hx hb dX4_two_2 rfl (lv_at hl 1 rfl) ?_
    refine lv_aload_n hx hb dX4_two_3 rfl (lv_at hl 0 rfl) ?_
    refine m_get hx hb hts hown hKv hM (fun _ h => List.mem_cons_of_mem _ (List.mem_append_left _ (List.mem_append_left _ (List.mem_append_right _ (h))))) (by decide) at_X4 rfl 4 (by decide) k0 (v := .ref (ad 28)) rfl dX4_two_4 ?_
    refine m_get hx hb hts hown hKv hM (fun _ h => List.mem_cons_of_mem _ (List.mem_append_left _ (List.mem_append_right _ (h)))) (lt_X2 isM_28) (at_X2 isM_28) rfl 1 (by decide) k1 (v := .int (M.1 28 1)) rfl dX4_two_7 ?_
    refine lv_icmp_ge (tgt := 39) hx hb dX4_two_10 (by decide) (fun c1 => ?_) (fun c1 => ?_)
    · replace h := (if_pos c1).symm.trans h
      exact hKc  h _ _ _ (lv_sub hl [] rfl) hM
    · replace h := (if_neg c1).symm.trans h
      refine lv_aload_n hx hb dX4_two_13 rfl (lv_at hl 0 rfl) ?_
      refine lv_aload_n hx hb dX4_two_14 rfl (lv_at hl 0 rfl) ?_
      refine m_get hx hb hts hown hKv hM (fun _ h => List.mem_cons_of_mem _ (List.mem_append_left _ (List.mem_append_left _ (List.mem_append_right _ (h))))) (by decide) at_X4 rfl 4 (by decide) k0 (v := .ref (ad 28)) rfl dX4_two_15 ?_
      refine m_get hx hb hts hown hKv hM (fun _ h => List.mem_cons_of_mem _ (List.mem_append_left _ (List.mem_append_right _ (h)))) (lt_X2 isM_28) (at_X2 isM_28) rfl 4 (by decide) k2 (v := .ref (ad (28 + 3))) rfl dX4_two_18 ?_
      refine lv_iload_n hx hb dX4_two_21 rfl (lv_at hl 1 rfl) ?_
      obtain ⟨x2, hx2, h⟩ := Option.bind_eq_some_iff.mp h
      refine m_iald hx hb hKv hM (lt_X2_3 isM_28) (at_X2_3 isM_28) 0 rfl hx2 dX4_two_22 ?_
      obtain ⟨x3, hx3, h⟩ := Option.bind_eq_some_iff.mp h
      refine m_callV (As := [.int x2]) (st1 := [.int x3]) hx hb (hml.trans hl.1.symm) hown hts hKv hXs hXk hM (kX4_firstFitting l D cI ad hX0 x2 M _ hx3) (cwV 1 hts gX4_two_X4_firstFitting rfl rfl rfl (by decide +kernel) ⟨Nat.le_of_ble_eq_true rfl, Nat.le_of_ble_eq_true rfl⟩) (by decide) at_X4 rfl rfl rfl rfl (Nat.le_of_ble_eq_true rfl) dX4_two_23 ⟨Nat.zero_le _, Nat.zero_le _⟩ (fun H locs hM => ?_)
      refine lv_bipush (v := (-9 : Int32)) hx hb dX4_two_26 (by decide) ?_
      refine lv_icmp_ne (tgt := 33) hx hb dX4_two_28 (by decide) (fun c4 => ?_) (fun c4 => ?_)
      · replace h := (if_neg c4).symm.trans h
        refine lv_iinc (v := (v1 + 1)) (lv' := [(1, .int (v1 + 1)), (0, .ref (ad 0))]) hx hb dX4_two_33 hl (k := 1) rfl rfl (by decide) rfl (fun ls hl => ?_)
        refine lv_goto (tgt := 2) hx hb dX4_two_36 (by decide) ?_
        exact ih _ h _ _ _ (lv_sub hl [1, 0] rfl) hM
      · replace h := (if_pos c4).symm.trans h
        refine lv_iconst (v := (1 : Int32)) hx hb dX4_two_31 (by decide) ?_
        exact m_iret hx hb hr hlocks hM (Option.some.inj h) rfl dX4_two_32
set_option maxHeartbeats 4000000 in
set_option maxRecDepth 100000 in
theorem kX4_two (l : Launch) (D : va_G) (cI : ClassId) (ad : Nat → Nat) {X : State → Prop} {aS : Nat → Nat} (hX0 : cX D ad aS X)  (M : Mem) (res : Int32) (h : fX4_two M = some res) : mC l yX4_two wsX4_two { frames := 5, cells := 0, slots := 0, locals := 114 } D [(cI, .int)] ad 40 X [.ref (ad 0)] (Ec ad cI M) (some (.int res)) (Ec ad cI M) := by
  refine m_ofW (cc := cX4_two) (maxL := 2) (ret := (some .int)) (by decide) rfl (Nat.le_of_ble_eq_true rfl) ?_
  intro p e s m args below meth c hx hb hml hr hlocks hts hown hKv hXs ls hl hM
  have hXk := hX0.1
  have Z : mZ p s m args meth c cX4_two 2 (some .int) wsX4_two RX4 D [(cI, .int)] X := ⟨hx, hb, hml, hr, hlocks, hts, hown, hKv, hXs⟩
  replace hown : s.vm.findClass RX4 = some m.cls := hown
  have hl : lv_has ls 2 [(0, .ref (ad 0))] := hl
  unfold fX4_two at h
  refine lv_iconst (v := (0 : Int32)) hx hb dX4_two_0 (by decide) ?_
  refine lv_istore_n (lv' := [(1, .int (0 : Int32)), (0, .ref (ad 0))]) hx hb dX4_two_1 rfl hl (by decide) rfl (fun ls hl => ?_)
  refine wX4_two_2 Z hX0 M _ (fun  h H locs ls hl hM => ?_) _ _ h _ _ _ (lv_sub hl [1, 0] rfl) hM
  refine lv_iconst (v := (0 : Int32)) hx hb dX4_two_39 (by decide) ?_
  exact m_iret hx hb hr hlocks hM (Option.some.inj h) rfl dX4_two_40
set_option maxHeartbeats 4000000 in
set_option maxRecDepth 100000 in
theorem kX4_go (l : Launch) (D : va_G) (cI : ClassId) (ad : Nat → Nat) {X : State → Prop} {aS : Nat → Nat} (hX0 : cX D ad aS X) (a1 : Int32) (M : Mem) (res : (Int32 × Mem)) (h : fX4_go a1 M = some res) : mC l yX4_go wsX4_go { frames := 1, cells := 0, slots := 0, locals := 21 } D [(cI, .int)] ad 40 X [.ref (ad 0), .int a1] (Ec ad cI M) (some (.int res.1)) (Ec ad cI res.2) := by
  refine m_ofW (cc := cX4_go) (maxL := 2) (ret := (some .int)) (by decide) rfl (Nat.le_of_ble_eq_true rfl) ?_
  intro p e s m args below meth c hx hb hml hr hlocks hts hown hKv hXs ls hl hM
  have hXk := hX0.1
  have Z : mZ p s m args meth c cX4_go 2 (some .int) wsX4_go RX4 D [(cI, .int)] X := ⟨hx, hb, hml, hr, hlocks, hts, hown, hKv, hXs⟩
  replace hown : s.vm.findClass RX4 = some m.cls := hown
  have hl : lv_has ls 2 [(0, .ref (ad 0)), (1, .int a1)] := hl
  have k0 := hts (Cond.fieldLink RX4 36 "NoonWalker" "present" "LNoonWalker$Memory;") (List.mem_of_getElem? (i := 1) rfl)
  have k1 := hts (Cond.fieldLink RX4 190 "NoonWalker$Memory" "now" "I") (List.mem_of_getElem? (i := 2) rfl)
  have k2 := hts (Cond.methodLink RX4 193 Lib.Math.min.name) (List.mem_of_getElem? (i := 3) rfl)
  have k3 := hts (Cond.static Lib.Math.min.name) (List.mem_of_getElem? (i := 4) rfl)
  have k4 := hts (Cond.initialized "java/lang/Math") (List.mem_of_getElem? (i := 5) rfl)
  have k5 := hts (Cond.code Lib.Math.min.name Lib.Math.min.code 2 (some .int)) (List.mem_of_getElem? (i := 6) rfl)
  unfold fX4_go at h
  refine lv_iload_n hx hb dX4_go_0 rfl (lv_at hl 1 rfl) ?_
  refine lv_iconst (v := (1 : Int32)) hx hb dX4_go_1 (by decide) ?_
  refine lv_icmp_lt (tgt := 12) hx hb dX4_go_2 (by decide) (fun c1 => ?_) (fun c1 => ?_)
  · replace h := (if_pos c1).symm.trans h
    refine lv_iconst (v := (-1 : Int32)) hx hb dX4_go_12 (by decide) ?_
    exact m_iret hx hb hr hlocks hM (congrArg (a₁ := ((-1 : Int32), M)) Prod.fst (Option.some.inj h)) (congrArg (a₁ := ((-1 : Int32), M)) (fun z => Ec ad cI z.2) (Option.some.inj h)) dX4_go_13
  · replace h := (if_neg c1).symm.trans h
    refine lv_iload_n hx hb dX4_go_5 rfl (lv_at hl 1 rfl) ?_
    refine lv_sipush (v := (999 : Int32)) hx hb dX4_go_6 (by decide) ?_
    refine lv_icmp_le (tgt := 14) hx hb dX4_go_9 (by decide) (fun c2 => ?_) (fun c2 => ?_)
    · replace h := (if_pos c2).symm.trans h
      refine lv_aload_n hx hb dX4_go_14 rfl (lv_at hl 0 rfl) ?_
      refine m_get hx hb hts hown hKv hM (fun _ h => List.mem_cons_of_mem _ (List.mem_append_left _ (List.mem_append_right _ (h)))) (by decide) at_X4 rfl 4 (by decide) k0 (v := .ref (ad 28)) rfl dX4_go_15 ?_
      refine m_get hx hb hts hown hKv hM (fun _ h => List.mem_cons_of_mem _ (List.mem_append_right _ (h))) (lt_X2 isM_28) (at_X2 isM_28) rfl 0 (by decide) k1 (v := .int (M.1 28 0)) rfl dX4_go_18 ?_
      refine lv_sipush (v := (999 : Int32)) hx hb dX4_go_21 (by decide) ?_
      refine lv_icmp_lt (tgt := 30) hx hb dX4_go_24 (by decide) (fun c3 => ?_) (fun c3 => ?_)
      · replace h := (if_pos c3).symm.trans h
        refine lv_aload_n hx hb dX4_go_30 rfl (lv_at hl 0 rfl) ?_
        refine m_get hx hb hts hown hKv hM (fun _ h => List.mem_cons_of_mem _ (List.mem_append_left _ (List.mem_append_right _ (h)))) (by decide) at_X4 rfl 4 (by decide) k0 (v := .ref (ad 28)) rfl dX4_go_31 ?_
        refine lv_aload_n hx hb dX4_go_34 rfl (lv_at hl 0 rfl) ?_
        refine m_get hx hb hts hown hKv hM (fun _ h => List.mem_cons_of_mem _ (List.mem_append_left _ (List.mem_append_right _ (h)))) (by decide) at_X4 rfl 4 (by decide) k0 (v := .ref (ad 28)) rfl dX4_go_35 ?_
        refine m_get hx hb hts hown hKv hM (fun _ h => List.mem_cons_of_mem _ (List.mem_append_right _ (h))) (lt_X2 isM_28) (at_X2 isM_28) rfl 0 (by decide) k1 (v := .int (M.1 28 0)) rfl dX4_go_38 ?_
        refine lv_iload_n hx hb dX4_go_41 rfl (lv_at hl 1 rfl) ?_
        refine lv_iadd hx hb dX4_go_42 ?_
        refine lv_sipush (v := (999 : Int32)) hx hb dX4_go_43 (by decide) ?_
        refine va_mmin hx hb (hml.trans hl.1.symm) hown k2 k3 k4 k5 (Nat.le_of_ble_eq_true rfl) (Nat.le_of_ble_eq_true rfl) (Nat.zero_le _) (Nat.zero_le _) dX4_go_46 ?_
        obtain ⟨M4, hM4, h⟩ := Option.bind_eq_some_iff.mp h
        refine m_put hx hb hts hown hKv hM (fun _ h => List.mem_cons_of_mem _ (List.mem_append_right _ (h))) tyX2 tyX2_ok nmX2 (lt_X2 isM_28) (at_X2 isM_28) rfl 0 (by decide) k1 rfl rfl rfl (Nat.le_of_ble_eq_true rfl) (pt_X2_0 isM_28 (Option.some.inj hM4)) dX4_go_49 (fun H locs hM => ?_)
        refine lv_aload_n hx hb dX4_go_52 rfl (lv_at hl 0 rfl) ?_
        refine m_get hx hb hts hown hKv hM (fun _ h => List.mem_cons_of_mem _ (List.mem_append_left _ (List.mem_append_right _ (h)))) (by decide) at_X4 rfl 4 (by decide) k0 (v := .ref (ad 28)) rfl dX4_go_53 ?_
        refine m_get hx hb hts hown hKv hM (fun _ h => List.mem_cons_of_mem _ (List.mem_append_right _ (h))) (lt_X2 isM_28) (at_X2 isM_28) rfl 0 (by decide) k1 (v := .int (M4.1 28 0)) rfl dX4_go_56 ?_
        exact m_iret hx hb hr hlocks hM (congrArg (a₁ := ((M4.1 28 0), M4)) Prod.fst (Option.some.inj h)) (congrArg (a₁ := ((M4.1 28 0), M4)) (fun z => Ec ad cI z.2) (Option.some.inj h)) dX4_go_59
      · replace h := (if_neg c3).symm.trans h
        refine lv_bipush (v := (-2 : Int32)) hx hb dX4_go_27 (by decide) ?_
        exact m_iret hx hb hr hlocks hM (congrArg (a₁ := ((-2 : Int32), M)) Prod.fst (Option.some.inj h)) (congrArg (a₁ := ((-2 : Int32), M)) (fun z => Ec ad cI z.2) (Option.some.inj h)) dX4_go_29
    · replace h := (if_neg c2).symm.trans h
      refine lv_iconst (v := (-1 : Int32)) hx hb dX4_go_12 (by decide) ?_
      exact m_iret hx hb hr hlocks hM (congrArg (a₁ := ((-1 : Int32), M)) Prod.fst (Option.some.inj h)) (congrArg (a₁ := ((-1 : Int32), M)) (fun z => Ec ad cI z.2) (Option.some.inj h)) dX4_go_13
set_option maxHeartbeats 4000000 in
set_option maxRecDepth 100000 in
theorem wX4_ill_24 {p : Program} {l : Launch} {e : Env} {s : State} {m : MethodId} {args : Array Value} {below : List Frame} {meth : Method} {c : Code} {D : va_G} {cI : ClassId} {ad : Nat → Nat} {X : State → Prop} (Z : mZ p s m args meth c cX4_ill 6 (some .int) wsX4_ill RX4 D [(cI, .int)] X) {aS : Nat → Nat} (hX0 : cX D ad aS X)   (u1 : Int32) (u2 : Int32) (M : Mem) {K : Int32 → Option Int32} (res : Int32) (hKc : ∀ (y3 : Int32), K y3 = some res → ∀ (H : Heap) (locs : List Loc) (ls : Array Slot), lv_has ls 6 [(3, .int y3)] → mH D ad 40 (Ec ad cI M) s.heap H locs → W p l e { frames := 1, cells := 0, slots := 0, locals := 20 } s m args below meth c H locs 0 0 (MQ below (mQ D ad 40 (some (.int res)) (Ec ad cI M)) args s 0 0 (mA ad 40)) (F0 m 89 ls [])) :
    ∀ (n : Nat) (v3 : Int32) (v4 : Int32), fX4_ill_24 u1 u2 M K n v3 v4 = some res → ∀ (H : Heap) (locs : List Loc) (ls : Array Slot), lv_has ls 6 [(0, .ref (ad 0)), (1, .int u1), (2, .int u2), (3, .int v3), (4, .int v4)] → mH D ad 40 (Ec ad cI M) s.heap H locs → W p l e { frames := 1, cells := 0, slots := 0, locals := 20 } s m args below meth c H locs 0 0 (MQ below (mQ D ad 40 (some (.int res)) (Ec ad cI M)) args s 0 0 (mA ad 40)) (F0 m 24 ls []) := by
  obtain ⟨hx, hb, hml, hr, hlocks, hts, hown, hKv, hXs⟩ := id Z
  have hXk := hX0.1
  have k0 := hts (Cond.fieldLink RX4 19 "NoonWalker" "told" "LNoonWalker$Land;") (List.mem_of_getElem? (i := 1) rfl)
  have k1 := hts (Cond.fieldLink RX4 196 "NoonWalker$Land" "stops" "I") (List.mem_of_getElem? (i := 2) rfl)
  have k2 := hts (Cond.fieldLink RX4 107 "NoonWalker$Land" "comes" "[I") (List.mem_of_getElem? (i := 3) rfl)
  have k3 := hts (Cond.fieldLink RX4 36 "NoonWalker" "present" "LNoonWalker$Memory;") (List.mem_of_getElem? (i := 4) rfl)
  have k4 := hts (Cond.fieldLink RX4 190 "NoonWalker$Memory" "now" "I") (List.mem_of_getElem? (i := 5) rfl)
  intro n
  induction n with
  | zero => intro _ _ h; exact absurd h (by unfold fX4_ill_24; exact fun h => by cases h)
  | succ n ih =>
    intro v3 v4 h H locs ls hl hM
    rw [fX4_ill_24] at h
    refine lv_iload hx hb dX4_ill_24 (lv_at hl 4 rfl) ?_
    refine lv_aload_n hx hb dX4_ill_26 rfl (lv_at hl 0 rfl) ?_
    refine m_get hx hb hts hown hKv hM (fun _ h => List.mem_cons_of_mem _ (List.mem_append_left _ (List.mem_append_left _ (List.mem_append_right _ (h))))) (by decide) at_X4 rfl 1 (by decide) k0 (v := .ref (ad (lp (M.1 0 1)))) rfl dX4_ill_27 ?_
    refine m_get hx hb hts hown hKv hM (fun _ h => List.mem_cons_of_mem _ (List.mem_append_left _ (List.mem_append_right _ (h)))) (lt_X1 (lp_ok _)) (at_X1 (lp_ok _)) rfl 6 (by decide) k1 (v := .int (M.1 (lp (M.1 0 1)) 6)) rfl dX4_ill_30 ?_
    refine lv_icmp_ge (tgt := 89) hx hb dX4_ill_33 (by decide) (fun c1 => ?_) (fun c1 => ?_)
    · replace h := (if_pos c1).symm.trans h
      exact hKc _ h _ _ _ (lv_sub hl [3] rfl) hM
    · replace h := (if_neg c1).symm.trans h
      refine lv_aload_n hx hb dX4_ill_36 rfl (lv_at hl 0 rfl) ?_
      refine m_get hx hb hts hown hKv hM (fun _ h => List.mem_cons_of_mem _ (List.mem_append_left _ (List.mem_append_left _ (List.mem_append_right _ (h))))) (by decide) at_X4 rfl 1 (by decide) k0 (v := .ref (ad (lp (M.1 0 1)))) rfl dX4_ill_37 ?_
      refine m_get hx hb hts hown hKv hM (fun _ h => List.mem_cons_of_mem _ (List.mem_append_left _ (List.mem_append_right _ (h)))) (lt_X1 (lp_ok _)) (at_X1 (lp_ok _)) rfl 9 (by decide) k2 (v := .ref (ad ((lp (M.1 0 1)) + 7))) rfl dX4_ill_40 ?_
      refine lv_iload hx hb dX4_ill_43 (lv_at hl 4 rfl) ?_
      obtain ⟨x2, hx2, h⟩ := Option.bind_eq_some_iff.mp h
      refine m_iald hx hb hKv hM (lt_X1_7 (lp_ok _)) (at_X1_7 (lp_ok _)) 0 rfl hx2 dX4_ill_45 ?_
      refine lv_aload_n hx hb dX4_ill_46 rfl (lv_at hl 0 rfl) ?_
      refine m_get hx hb hts hown hKv hM (fun _ h => List.mem_cons_of_mem _ (List.mem_append_left _ (List.mem_append_left _ (List.mem_append_right _ (h))))) (by decide) at_X4 rfl 4 (by decide) k3 (v := .ref (ad 28)) rfl dX4_ill_47 ?_
      refine m_get hx hb hts hown hKv hM (fun _ h => List.mem_cons_of_mem _ (List.mem_append_right _ (h))) (lt_X2 isM_28) (at_X2 isM_28) rfl 0 (by decide) k4 (v := .int (M.1 28 0)) rfl dX4_ill_50 ?_
      refine lv_icmp_le (tgt := 60) hx hb dX4_ill_53 (by decide) (fun c3 => ?_) (fun c3 => ?_)
      · replace h := (if_pos c3).symm.trans h
        refine lv_iconst (v := (0 : Int32)) hx hb dX4_ill_60 (by decide) ?_
        refine lv_istore (lv' := [(5, .int (0 : Int32)), (0, .ref (ad 0)), (1, .int u1), (2, .int u2), (3, .int v3), (4, .int v4)]) hx hb dX4_ill_61 hl (by decide) rfl (fun ls hl => ?_)
        refine lv_aload_n hx hb dX4_ill_63 rfl (lv_at hl 1 rfl) ?_
        refine m_get hx hb hts hown hKv hM (fun _ h => List.mem_cons_of_mem _ (List.mem_append_left _ (List.mem_append_left _ (List.mem_append_right _ (h))))) (by decide) at_X4 rfl 1 (by decide) k0 (v := .ref (ad (lp (M.1 0 1)))) rfl dX4_ill_64 ?_
        refine m_get hx hb hts hown hKv hM (fun _ h => List.mem_cons_of_mem _ (List.mem_append_left _ (List.mem_append_right _ (h)))) (lt_X1 (lp_ok _)) (at_X1 (lp_ok _)) rfl 9 (by decide) k2 (v := .ref (ad ((lp (M.1 0 1)) + 7))) rfl dX4_ill_67 ?_
        refine lv_iload hx hb dX4_ill_70 (lv_at hl 5 rfl) ?_
        obtain ⟨x4, hx4, h⟩ := Option.bind_eq_some_iff.mp h
        refine m_iald hx hb hKv hM (lt_X1_7 (lp_ok _)) (at_X1_7 (lp_ok _)) 0 rfl hx4 dX4_ill_72 ?_
        refine lv_iload hx hb dX4_ill_73 (lv_at hl 0 rfl) ?_
        refine lv_iadd hx hb dX4_ill_75 ?_
        refine lv_iload_n hx hb dX4_ill_76 rfl (lv_at hl 3 rfl) ?_
        refine lv_icmp_gt (tgt := 83) hx hb dX4_ill_77 (by decide) (fun c5 => ?_) (fun c5 => ?_)
        · replace h := (if_pos c5).symm.trans h
          refine lv_iinc (v := (v4 + 1)) (lv' := [(4, .int (v4 + 1)), (5, .int (0 : Int32)), (0, .ref (ad 0)), (1, .int u1), (2, .int u2), (3, .int v3)]) hx hb dX4_ill_83 hl (k := 5) rfl rfl (by decide) rfl (fun ls hl => ?_)
          refine lv_goto (tgt := 24) hx hb dX4_ill_86 (by decide) ?_
          exact ih _ _ h _ _ _ (lv_sub hl [2, 3, 4, 5, 0] rfl) hM
        · replace h := (if_neg c5).symm.trans h
          refine lv_iinc (v := (v3 + 1)) (lv' := [(3, .int (v3 + 1)), (5, .int (0 : Int32)), (0, .ref (ad 0)), (1, .int u1), (2, .int u2), (4, .int v4)]) hx hb dX4_ill_80 hl (k := 4) rfl rfl (by decide) rfl (fun ls hl => ?_)
          refine lv_iinc (v := (v4 + 1)) (lv' := [(4, .int (v4 + 1)), (3, .int (v3 + 1)), (5, .int (0 : Int32)), (0, .ref (ad 0)), (1, .int u1), (2, .int u2)]) hx hb dX4_ill_83 hl (k := 5) rfl rfl (by decide) rfl (fun ls hl => ?_)
          refine lv_goto (tgt := 24) hx hb dX4_ill_86 (by decide) ?_
          exact ih _ _ h _ _ _ (lv_sub hl [3, 4, 5, 1, 0] rfl) hM
      · replace h := (if_neg c3).symm.trans h
        refine lv_iload_n hx hb dX4_ill_56 rfl (lv_at hl 1 rfl) ?_
        refine lv_goto (tgt := 61) hx hb dX4_ill_57 (by decide) ?_
        refine lv_istore (lv' := [(5, .int u1), (0, .ref (ad 0)), (1, .int u1), (2, .int u2), (3, .int v3), (4, .int v4)]) hx hb dX4_ill_61 hl (by decide) rfl (fun ls hl => ?_)
        refine lv_aload_n hx hb dX4_ill_63 rfl (lv_at hl 1 rfl) ?_
        refine m_get hx hb hts hown hKv hM (fun _ h => List.mem_cons_of_mem _ (List.mem_append_left _ (List.mem_append_left _ (List.mem_append_right _ (h))))) (by decide) at_X4 rfl 1 (by decide) k0 (v := .ref (ad (lp (M.1 0 1)))) rfl dX4_ill_64 ?_
        refine m_get hx hb hts hown hKv hM (fun _ h => List.mem_cons_of_mem _ (List.mem_append_left _ (List.mem_append_right _ (h)))) (lt_X1 (lp_ok _)) (at_X1 (lp_ok _)) rfl 9 (by decide) k2 (v := .ref (ad ((lp (M.1 0 1)) + 7))) rfl dX4_ill_67 ?_
        refine lv_iload hx hb dX4_ill_70 (lv_at hl 5 rfl) ?_
        obtain ⟨x6, hx6, h⟩ := Option.bind_eq_some_iff.mp h
        refine m_iald hx hb hKv hM (lt_X1_7 (lp_ok _)) (at_X1_7 (lp_ok _)) 0 rfl hx6 dX4_ill_72 ?_
        refine lv_iload hx hb dX4_ill_73 (lv_at hl 0 rfl) ?_
        refine lv_iadd hx hb dX4_ill_75 ?_
        refine lv_iload_n hx hb dX4_ill_76 rfl (lv_at hl 3 rfl) ?_
        refine lv_icmp_gt (tgt := 83) hx hb dX4_ill_77 (by decide) (fun c7 => ?_) (fun c7 => ?_)
        · replace h := (if_pos c7).symm.trans h
          refine lv_iinc (v := (v4 + 1)) (lv' := [(4, .int (v4 + 1)), (5, .int u1), (0, .ref (ad 0)), (1, .int u1), (2, .int u2), (3, .int v3)]) hx hb dX4_ill_83 hl (k := 5) rfl rfl (by decide) rfl (fun ls hl => ?_)
          refine lv_goto (tgt := 24) hx hb dX4_ill_86 (by decide) ?_
          exact ih _ _ h _ _ _ (lv_sub hl [2, 3, 4, 5, 0] rfl) hM
        · replace h := (if_neg c7).symm.trans h
          refine lv_iinc (v := (v3 + 1)) (lv' := [(3, .int (v3 + 1)), (5, .int u1), (0, .ref (ad 0)), (1, .int u1), (2, .int u2), (4, .int v4)]) hx hb dX4_ill_80 hl (k := 4) rfl rfl (by decide) rfl (fun ls hl => ?_)
          refine lv_iinc (v := (v4 + 1)) (lv' := [(4, .int (v4 + 1)), (3, .int (v3 + 1)), (5, .int u1), (0, .ref (ad 0)), (1, .int u1), (2, .int u2)]) hx hb dX4_ill_83 hl (k := 5) rfl rfl (by decide) rfl (fun ls hl => ?_)
          refine lv_goto (tgt := 24) hx hb dX4_ill_86 (by decide) ?_
          exact ih _ _ h _ _ _ (lv_sub hl [3, 4, 5, 1, 0] rfl) hM
set_option maxHeartbeats 4000000 in
set_option maxRecDepth 100000 in
theorem kX4_ill (l : Launch) (D : va_G) (cI : ClassId) (ad : Nat → Nat) {X : State → Prop} {aS : Nat → Nat} (hX0 : cX D ad aS X) (a1 : Int32) (a2 : Int32) (M : Mem) (res : Int32) (h : fX4_ill a1 a2 M = some res) : mC l yX4_ill wsX4_ill { frames := 1, cells := 0, slots := 0, locals := 20 } D [(cI, .int)] ad 40 X [.ref (ad 0), .int a1, .int a2] (Ec ad cI M) (some (.int res)) (Ec ad cI M) := by
  refine m_ofW (cc := cX4_ill) (maxL := 6) (ret := (some .int)) (by decide) rfl (Nat.le_of_ble_eq_true rfl) ?_
  intro p e s m args below meth c hx hb hml hr hlocks hts hown hKv hXs ls hl hM
  have hXk := hX0.1
  have Z : mZ p s m args meth c cX4_ill 6 (some .int) wsX4_ill RX4 D [(cI, .int)] X := ⟨hx, hb, hml, hr, hlocks, hts, hown, hKv, hXs⟩
  replace hown : s.vm.findClass RX4 = some m.cls := hown
  have hl : lv_has ls 6 [(0, .ref (ad 0)), (1, .int a1), (2, .int a2)] := hl
  unfold fX4_ill at h
  refine lv_iload_n hx hb dX4_ill_0 rfl (lv_at hl 1 rfl) ?_
  refine lv_if_lt (tgt := 17) hx hb dX4_ill_1 (by decide) (fun c1 => ?_) (fun c1 => ?_)
  · replace h := (if_pos c1).symm.trans h
    refine lv_iconst (v := (-1 : Int32)) hx hb dX4_ill_17 (by decide) ?_
    exact m_iret hx hb hr hlocks hM (Option.some.inj h) rfl dX4_ill_18
  · replace h := (if_neg c1).symm.trans h
    refine lv_iload_n hx hb dX4_ill_4 rfl (lv_at hl 1 rfl) ?_
    refine lv_bipush (v := (99 : Int32)) hx hb dX4_ill_5 (by decide) ?_
    refine lv_icmp_gt (tgt := 17) hx hb dX4_ill_7 (by decide) (fun c2 => ?_) (fun c2 => ?_)
    · replace h := (if_pos c2).symm.trans h
      refine lv_iconst (v := (-1 : Int32)) hx hb dX4_ill_17 (by decide) ?_
      exact m_iret hx hb hr hlocks hM (Option.some.inj h) rfl dX4_ill_18
    · replace h := (if_neg c2).symm.trans h
      refine lv_iload_n hx hb dX4_ill_10 rfl (lv_at hl 2 rfl) ?_
      obtain ⟨x3, hx3, h⟩ := Option.bind_eq_some_iff.mp h
      refine m_callS (As := [.int a2]) (st1 := [.int x3]) hx hb (hml.trans hl.1.symm) hown hts hKv hXs hXk hM (kX4_isHour l D cI ad hX0 a2 M _ hx3) (va_cwS 1 hts gX4_ill_X4_isHour rfl rfl rfl (by decide +kernel) ⟨Nat.le_of_ble_eq_true rfl, Nat.le_of_ble_eq_true rfl⟩) rfl rfl rfl (Nat.le_of_ble_eq_true rfl) dX4_ill_11 ⟨Nat.zero_le _, Nat.zero_le _⟩ (fun H locs hM => ?_)
      refine lv_if_ne (tgt := 19) hx hb dX4_ill_14 (by decide) (fun c4 => ?_) (fun c4 => ?_)
      · replace h := (if_neg c4).symm.trans h
        refine lv_iconst (v := (0 : Int32)) hx hb dX4_ill_19 (by decide) ?_
        refine lv_istore_n (lv' := [(3, .int (0 : Int32)), (0, .ref (ad 0)), (1, .int a1), (2, .int a2)]) hx hb dX4_ill_20 rfl hl (by decide) rfl (fun ls hl => ?_)
        refine lv_iconst (v := (0 : Int32)) hx hb dX4_ill_21 (by decide) ?_
        refine lv_istore (lv' := [(4, .int (0 : Int32)), (3, .int (0 : Int32)), (0, .ref (ad 0)), (1, .int a1), (2, .int a2)]) hx hb dX4_ill_22 hl (by decide) rfl (fun ls hl => ?_)
        refine wX4_ill_24 Z hX0 a1 a2 M _ (fun y5 h H locs ls hl hM => ?_) _ _ _ h _ _ _ (lv_sub hl [2, 3, 4, 1, 0] rfl) hM
        refine lv_iload_n hx hb dX4_ill_89 rfl (lv_at hl 0 rfl) ?_
        exact m_iret hx hb hr hlocks hM (Option.some.inj h) rfl dX4_ill_90
      · replace h := (if_pos c4).symm.trans h
        refine lv_iconst (v := (-1 : Int32)) hx hb dX4_ill_17 (by decide) ?_
        exact m_iret hx hb hr hlocks hM (Option.some.inj h) rfl dX4_ill_18
set_option maxHeartbeats 4000000 in
set_option maxRecDepth 100000 in
theorem kX4_townRate (l : Launch) (D : va_G) (cI : ClassId) (ad : Nat → Nat) {X : State → Prop} {aS : Nat → Nat} (hX0 : cX D ad aS X) (a1 : Int32) (M : Mem) (res : (Int32 × Mem)) (h : fX4_townRate a1 M = some res) : mC l yX4_townRate wsX4_townRate { frames := 2, cells := 0, slots := 0, locals := 42 } D [(cI, .int)] ad 40 X [.ref (ad 0), .int a1] (Ec ad cI M) (some (.int res.1)) (Ec ad cI res.2) := by
  refine m_ofW (cc := cX4_townRate) (maxL := 2) (ret := (some .int)) (by decide) rfl (Nat.le_of_ble_eq_true rfl) ?_
  intro p e s m args below meth c hx hb hml hr hlocks hts hown hKv hXs ls hl hM
  have hXk := hX0.1
  have Z : mZ p s m args meth c cX4_townRate 2 (some .int) wsX4_townRate RX4 D [(cI, .int)] X := ⟨hx, hb, hml, hr, hlocks, hts, hown, hKv, hXs⟩
  replace hown : s.vm.findClass RX4 = some m.cls := hown
  have hl : lv_has ls 2 [(0, .ref (ad 0)), (1, .int a1)] := hl
  have k0 := hts (Cond.fieldLink RX4 46 "NoonWalker" "asked" "J") (List.mem_of_getElem? (i := 1) rfl)
  have k1 := hts (Cond.fieldLink RX4 19 "NoonWalker" "told" "LNoonWalker$Land;") (List.mem_of_getElem? (i := 2) rfl)
  unfold fX4_townRate at h
  refine lv_aload_n hx hb dX4_townRate_0 rfl (lv_at hl 0 rfl) ?_
  refine lv_dup hx hb dX4_townRate_1 rfl ?_
  refine m_get hx hb hts hown hKv hM (fun _ h => List.mem_cons_of_mem _ (List.mem_append_left _ (List.mem_append_right _ (h)))) (by decide) at_X4 rfl 7 (by decide) k0 (v := .long M.2) rfl dX4_townRate_2 ?_
  refine lv_lconst (v := (1 : Int64)) hx hb dX4_townRate_5 rfl ?_
  refine lv_ladd hx hb dX4_townRate_6 ?_
  obtain ⟨M1, hM1, h⟩ := Option.bind_eq_some_iff.mp h
  refine m_put hx hb hts hown hKv hM (fun _ h => List.mem_cons_of_mem _ (List.mem_append_left _ (List.mem_append_right _ (h)))) tyX4 tyX4_ok nmX4 (by decide) at_X4 rfl 7 (by decide) k0 rfl rfl rfl (Nat.le_of_ble_eq_true rfl) (pt_X4_7 (Option.some.inj hM1)) dX4_townRate_7 (fun H locs hM => ?_)
  refine lv_aload_n hx hb dX4_townRate_10 rfl (lv_at hl 0 rfl) ?_
  refine m_get hx hb hts hown hKv hM (fun _ h => List.mem_cons_of_mem _ (List.mem_append_left _ (List.mem_append_right _ (h)))) (by decide) at_X4 rfl 1 (by decide) k1 (v := .ref (ad (lp (M1.1 0 1)))) rfl dX4_townRate_11 ?_
  refine lv_iload_n hx hb dX4_townRate_14 rfl (lv_at hl 1 rfl) ?_
  obtain ⟨x2, hx2, h⟩ := Option.bind_eq_some_iff.mp h
  refine m_callV (As := [.int a1]) (st1 := [.int x2]) hx hb (hml.trans hl.1.symm) hown hts hKv hXs hXk hM (kX1_bidOf l D cI ad hX0 (lp (M1.1 0 1)) (lp_ok _) a1 M1 _ hx2) (cwV 1 hts gX4_townRate_X1_bidOf rfl rfl rfl (by decide +kernel) ⟨Nat.le_of_ble_eq_true rfl, Nat.le_of_ble_eq_true rfl⟩) (lt_X1 (lp_ok _)) (at_X1 (lp_ok _)) rfl rfl rfl rfl (Nat.le_of_ble_eq_true rfl) dX4_townRate_15 ⟨Nat.zero_le _, Nat.zero_le _⟩ (fun H locs hM => ?_)
  exact m_iret hx hb hr hlocks hM (congrArg (a₁ := (x2, M1)) Prod.fst (Option.some.inj h)) (congrArg (a₁ := (x2, M1)) (fun z => Ec ad cI z.2) (Option.some.inj h)) dX4_townRate_18
set_option maxHeartbeats 4000000 in
set_option maxRecDepth 100000 in
theorem kX4_marketRate (l : Launch) (D : va_G) (cI : ClassId) (ad : Nat → Nat) {X : State → Prop} {aS : Nat → Nat} (hX0 : cX D ad aS X) (a1 : Int32) (M : Mem) (res : (Int32 × Mem)) (h : fX4_marketRate a1 M = some res) : mC l yX4_marketRate wsX4_marketRate { frames := 3, cells := 0, slots := 0, locals := 63 } D [(cI, .int)] ad 40 X [.ref (ad 0), .int a1] (Ec ad cI M) (some (.int res.1)) (Ec ad cI res.2) := by
  refine m_ofW (cc := cX4_marketRate) (maxL := 2) (ret := (some .int)) (by decide) rfl (Nat.le_of_ble_eq_true rfl) ?_
  intro p e s m args below meth c hx hb hml hr hlocks hts hown hKv hXs ls hl hM
  have hXk := hX0.1
  have Z : mZ p s m args meth c cX4_marketRate 2 (some .int) wsX4_marketRate RX4 D [(cI, .int)] X := ⟨hx, hb, hml, hr, hlocks, hts, hown, hKv, hXs⟩
  replace hown : s.vm.findClass RX4 = some m.cls := hown
  have hl : lv_has ls 2 [(0, .ref (ad 0)), (1, .int a1)] := hl
  have k0 := hts (Cond.fieldLink RX4 46 "NoonWalker" "asked" "J") (List.mem_of_getElem? (i := 1) rfl)
  have k1 := hts (Cond.constantLong RX4 252 (10)) (List.mem_of_getElem? (i := 2) rfl)
  have k2 := hts (Cond.fieldLink RX4 19 "NoonWalker" "told" "LNoonWalker$Land;") (List.mem_of_getElem? (i := 3) rfl)
  unfold fX4_marketRate at h
  refine lv_aload_n hx hb dX4_marketRate_0 rfl (lv_at hl 0 rfl) ?_
  refine lv_dup hx hb dX4_marketRate_1 rfl ?_
  refine m_get hx hb hts hown hKv hM (fun _ h => List.mem_cons_of_mem _ (List.mem_append_left _ (List.mem_append_right _ (h)))) (by decide) at_X4 rfl 7 (by decide) k0 (v := .long M.2) rfl dX4_marketRate_2 ?_
  refine lv_ldc2 (v := (10 : Int64)) hx hb hown k1 dX4_marketRate_5 ?_
  refine lv_ladd hx hb dX4_marketRate_8 ?_
  obtain ⟨M1, hM1, h⟩ := Option.bind_eq_some_iff.mp h
  refine m_put hx hb hts hown hKv hM (fun _ h => List.mem_cons_of_mem _ (List.mem_append_left _ (List.mem_append_right _ (h)))) tyX4 tyX4_ok nmX4 (by decide) at_X4 rfl 7 (by decide) k0 rfl rfl rfl (Nat.le_of_ble_eq_true rfl) (pt_X4_7 (Option.some.inj hM1)) dX4_marketRate_9 (fun H locs hM => ?_)
  refine lv_aload_n hx hb dX4_marketRate_12 rfl (lv_at hl 0 rfl) ?_
  refine lv_iload_n hx hb dX4_marketRate_13 rfl (lv_at hl 1 rfl) ?_
  obtain ⟨x2, hx2, h⟩ := Option.bind_eq_some_iff.mp h
  refine m_callV (As := [.int a1]) (st1 := [.int x2.1]) hx hb (hml.trans hl.1.symm) hown hts hKv hXs hXk hM (kX4_townRate l D cI ad hX0 a1 M1 _ hx2) (cwV 1 hts gX4_marketRate_X4_townRate rfl rfl rfl (by decide +kernel) ⟨Nat.le_of_ble_eq_true rfl, Nat.le_of_ble_eq_true rfl⟩) (by decide) at_X4 rfl rfl rfl rfl (Nat.le_of_ble_eq_true rfl) dX4_marketRate_14 ⟨Nat.zero_le _, Nat.zero_le _⟩ (fun H locs hM => ?_)
  refine lv_aload_n hx hb dX4_marketRate_17 rfl (lv_at hl 0 rfl) ?_
  refine m_get hx hb hts hown hKv hM (fun _ h => List.mem_cons_of_mem _ (List.mem_append_left _ (List.mem_append_right _ (h)))) (by decide) at_X4 rfl 1 (by decide) k2 (v := .ref (ad (lp (x2.2.1 0 1)))) rfl dX4_marketRate_18 ?_
  refine lv_iload_n hx hb dX4_marketRate_21 rfl (lv_at hl 1 rfl) ?_
  obtain ⟨x3, hx3, h⟩ := Option.bind_eq_some_iff.mp h
  refine m_callV (As := [.int a1]) (st1 := [.int x3, .int x2.1]) hx hb (hml.trans hl.1.symm) hown hts hKv hXs hXk hM (kX1_roadsOf l D cI ad hX0 (lp (x2.2.1 0 1)) (lp_ok _) a1 x2.2 _ hx3) (cwV 1 hts gX4_marketRate_X1_roadsOf rfl rfl rfl (by decide +kernel) ⟨Nat.le_of_ble_eq_true rfl, Nat.le_of_ble_eq_true rfl⟩) (lt_X1 (lp_ok _)) (at_X1 (lp_ok _)) rfl rfl rfl rfl (Nat.le_of_ble_eq_true rfl) dX4_marketRate_22 ⟨Nat.zero_le _, Nat.zero_le _⟩ (fun H locs hM => ?_)
  refine lv_iadd hx hb dX4_marketRate_25 ?_
  exact m_iret hx hb hr hlocks hM (congrArg (a₁ := ((x2.1 + x3), x2.2)) Prod.fst (Option.some.inj h)) (congrArg (a₁ := ((x2.1 + x3), x2.2)) (fun z => Ec ad cI z.2) (Option.some.inj h)) dX4_marketRate_26
set_option maxHeartbeats 4000000 in
set_option maxRecDepth 100000 in
theorem kX4_innRate (l : Launch) (D : va_G) (cI : ClassId) (ad : Nat → Nat) {X : State → Prop} {aS : Nat → Nat} (hX0 : cX D ad aS X) (a1 : Int32) (M : Mem) (res : (Int32 × Mem)) (h : fX4_innRate a1 M = some res) : mC l yX4_innRate wsX4_innRate { frames := 5, cells := 0, slots := 0, locals := 113 } D [(cI, .int)] ad 40 X [.ref (ad 0), .int a1] (Ec ad cI M) (some (.int res.1)) (Ec ad cI res.2) := by
  refine m_ofW (cc := cX4_innRate) (maxL := 3) (ret := (some .int)) (by decide) rfl (Nat.le_of_ble_eq_true rfl) ?_
  intro p e s m args below meth c hx hb hml hr hlocks hts hown hKv hXs ls hl hM
  have hXk := hX0.1
  have Z : mZ p s m args meth c cX4_innRate 3 (some .int) wsX4_innRate RX4 D [(cI, .int)] X := ⟨hx, hb, hml, hr, hlocks, hts, hown, hKv, hXs⟩
  replace hown : s.vm.findClass RX4 = some m.cls := hown
  have hl : lv_has ls 3 [(0, .ref (ad 0)), (1, .int a1)] := hl
  have k0 := hts (Cond.fieldLink RX4 46 "NoonWalker" "asked" "J") (List.mem_of_getElem? (i := 1) rfl)
  have k1 := hts (Cond.constantLong RX4 254 (100)) (List.mem_of_getElem? (i := 2) rfl)
  have k2 := hts (Cond.fieldLink RX4 19 "NoonWalker" "told" "LNoonWalker$Land;") (List.mem_of_getElem? (i := 3) rfl)
  have k3 := hts (Cond.fieldLink RX4 36 "NoonWalker" "present" "LNoonWalker$Memory;") (List.mem_of_getElem? (i := 4) rfl)
  have k4 := hts (Cond.fieldLink RX4 190 "NoonWalker$Memory" "now" "I") (List.mem_of_getElem? (i := 5) rfl)
  unfold fX4_innRate at h
  refine lv_aload_n hx hb dX4_innRate_0 rfl (lv_at hl 0 rfl) ?_
  refine lv_dup hx hb dX4_innRate_1 rfl ?_
  refine m_get hx hb hts hown hKv hM (fun _ h => List.mem_cons_of_mem _ (List.mem_append_left _ (List.mem_append_left _ (List.mem_append_right _ (h))))) (by decide) at_X4 rfl 7 (by decide) k0 (v := .long M.2) rfl dX4_innRate_2 ?_
  refine lv_ldc2 (v := (100 : Int64)) hx hb hown k1 dX4_innRate_5 ?_
  refine lv_ladd hx hb dX4_innRate_8 ?_
  obtain ⟨M1, hM1, h⟩ := Option.bind_eq_some_iff.mp h
  refine m_put hx hb hts hown hKv hM (fun _ h => List.mem_cons_of_mem _ (List.mem_append_left _ (List.mem_append_left _ (List.mem_append_right _ (h))))) tyX4 tyX4_ok nmX4 (by decide) at_X4 rfl 7 (by decide) k0 rfl rfl rfl (Nat.le_of_ble_eq_true rfl) (pt_X4_7 (Option.some.inj hM1)) dX4_innRate_9 (fun H locs hM => ?_)
  refine lv_aload_n hx hb dX4_innRate_12 rfl (lv_at hl 0 rfl) ?_
  refine m_get hx hb hts hown hKv hM (fun _ h => List.mem_cons_of_mem _ (List.mem_append_left _ (List.mem_append_left _ (List.mem_append_right _ (h))))) (by decide) at_X4 rfl 1 (by decide) k2 (v := .ref (ad (lp (M1.1 0 1)))) rfl dX4_innRate_13 ?_
  refine lv_iload_n hx hb dX4_innRate_16 rfl (lv_at hl 1 rfl) ?_
  refine lv_aload_n hx hb dX4_innRate_17 rfl (lv_at hl 0 rfl) ?_
  refine m_get hx hb hts hown hKv hM (fun _ h => List.mem_cons_of_mem _ (List.mem_append_left _ (List.mem_append_left _ (List.mem_append_right _ (h))))) (by decide) at_X4 rfl 4 (by decide) k3 (v := .ref (ad 28)) rfl dX4_innRate_18 ?_
  refine m_get hx hb hts hown hKv hM (fun _ h => List.mem_cons_of_mem _ (List.mem_append_left _ (List.mem_append_right _ (h)))) (lt_X2 isM_28) (at_X2 isM_28) rfl 0 (by decide) k4 (v := .int (M1.1 28 0)) rfl dX4_innRate_21 ?_
  obtain ⟨x2, hx2, h⟩ := Option.bind_eq_some_iff.mp h
  refine m_callV (As := [.int a1, .int (M1.1 28 0)]) (st1 := [.int x2]) hx hb (hml.trans hl.1.symm) hown hts hKv hXs hXk hM (kX1_clockAt l D cI ad hX0 (lp (M1.1 0 1)) (lp_ok _) a1 (M1.1 28 0) M1 _ hx2) (cwV 2 hts gX4_innRate_X1_clockAt rfl rfl rfl (by decide +kernel) ⟨Nat.le_of_ble_eq_true rfl, Nat.le_of_ble_eq_true rfl⟩) (lt_X1 (lp_ok _)) (at_X1 (lp_ok _)) rfl rfl rfl rfl (Nat.le_of_ble_eq_true rfl) dX4_innRate_24 ⟨Nat.zero_le _, Nat.zero_le _⟩ (fun H locs hM => ?_)
  refine lv_istore_n (lv' := [(2, .int x2), (0, .ref (ad 0)), (1, .int a1)]) hx hb dX4_innRate_27 rfl hl (by decide) rfl (fun ls hl => ?_)
  refine lv_aload_n hx hb dX4_innRate_28 rfl (lv_at hl 1 rfl) ?_
  refine lv_iload_n hx hb dX4_innRate_29 rfl (lv_at hl 2 rfl) ?_
  obtain ⟨x3, hx3, h⟩ := Option.bind_eq_some_iff.mp h
  refine m_callV (As := [.int a1]) (st1 := [.int x3.1]) hx hb (hml.trans hl.1.symm) hown hts hKv hXs hXk hM (kX4_townRate l D cI ad hX0 a1 M1 _ hx3) (cwV 1 hts gX4_innRate_X4_townRate rfl rfl rfl (by decide +kernel) ⟨Nat.le_of_ble_eq_true rfl, Nat.le_of_ble_eq_true rfl⟩) (by decide) at_X4 rfl rfl rfl rfl (Nat.le_of_ble_eq_true rfl) dX4_innRate_30 ⟨Nat.zero_le _, Nat.zero_le _⟩ (fun H locs hM => ?_)
  refine lv_iload_n hx hb dX4_innRate_33 rfl (lv_at hl 0 rfl) ?_
  refine lv_bipush (v := (-9 : Int32)) hx hb dX4_innRate_34 (by decide) ?_
  refine lv_icmp_ne (tgt := 43) hx hb dX4_innRate_36 (by decide) (fun c4 => ?_) (fun c4 => ?_)
  · replace h := (if_neg c4).symm.trans h
    refine lv_iload_n hx hb dX4_innRate_43 rfl (lv_at hl 0 rfl) ?_
    refine lv_isub hx hb dX4_innRate_44 ?_
    exact m_iret hx hb hr hlocks hM (congrArg (a₁ := ((x3.1 - x2), x3.2)) Prod.fst (Option.some.inj h)) (congrArg (a₁ := ((x3.1 - x2), x3.2)) (fun z => Ec ad cI z.2) (Option.some.inj h)) dX4_innRate_45
  · replace h := (if_pos c4).symm.trans h
    refine lv_iconst (v := (0 : Int32)) hx hb dX4_innRate_39 (by decide) ?_
    refine lv_goto (tgt := 44) hx hb dX4_innRate_40 (by decide) ?_
    refine lv_isub hx hb dX4_innRate_44 ?_
    exact m_iret hx hb hr hlocks hM (congrArg (a₁ := ((x3.1 - (0 : Int32)), x3.2)) Prod.fst (Option.some.inj h)) (congrArg (a₁ := ((x3.1 - (0 : Int32)), x3.2)) (fun z => Ec ad cI z.2) (Option.some.inj h)) dX4_innRate_45
set_option maxHeartbeats 4000000 in
set_option maxRecDepth 100000 in
theorem kX4_fairRate (l : Launch) (D : va_G) (cI : ClassId) (ad : Nat → Nat) {X : State → Prop} {aS : Nat → Nat} (hX0 : cX D ad aS X) (a1 : Int32) (M : Mem) (res : (Int32 × Mem)) (h : fX4_fairRate a1 M = some res) : mC l yX4_fairRate wsX4_fairRate { frames := 4, cells := 0, slots := 0, locals := 84 } D [(cI, .int)] ad 40 X [.ref (ad 0), .int a1] (Ec ad cI M) (some (.int res.1)) (Ec ad cI res.2) := by
  refine m_ofW (cc := cX4_fairRate) (maxL := 2) (ret := (some .int)) (by decide) rfl (Nat.le_of_ble_eq_true rfl) ?_
  intro p e s m args below meth c hx hb hml hr hlocks hts hown hKv hXs ls hl hM
  have hXk := hX0.1
  have Z : mZ p s m args meth c cX4_fairRate 2 (some .int) wsX4_fairRate RX4 D [(cI, .int)] X := ⟨hx, hb, hml, hr, hlocks, hts, hown, hKv, hXs⟩
  replace hown : s.vm.findClass RX4 = some m.cls := hown
  have hl : lv_has ls 2 [(0, .ref (ad 0)), (1, .int a1)] := hl
  have k0 := hts (Cond.fieldLink RX4 46 "NoonWalker" "asked" "J") (List.mem_of_getElem? (i := 1) rfl)
  have k1 := hts (Cond.constantLong RX4 256 (1000)) (List.mem_of_getElem? (i := 2) rfl)
  unfold fX4_fairRate at h
  refine lv_aload_n hx hb dX4_fairRate_0 rfl (lv_at hl 0 rfl) ?_
  refine lv_dup hx hb dX4_fairRate_1 rfl ?_
  refine m_get hx hb hts hown hKv hM (fun _ h => List.mem_cons_of_mem _ (List.mem_append_left _ (List.mem_append_right _ (h)))) (by decide) at_X4 rfl 7 (by decide) k0 (v := .long M.2) rfl dX4_fairRate_2 ?_
  refine lv_ldc2 (v := (1000 : Int64)) hx hb hown k1 dX4_fairRate_5 ?_
  refine lv_ladd hx hb dX4_fairRate_8 ?_
  obtain ⟨M1, hM1, h⟩ := Option.bind_eq_some_iff.mp h
  refine m_put hx hb hts hown hKv hM (fun _ h => List.mem_cons_of_mem _ (List.mem_append_left _ (List.mem_append_right _ (h)))) tyX4 tyX4_ok nmX4 (by decide) at_X4 rfl 7 (by decide) k0 rfl rfl rfl (Nat.le_of_ble_eq_true rfl) (pt_X4_7 (Option.some.inj hM1)) dX4_fairRate_9 (fun H locs hM => ?_)
  refine lv_iconst (v := (2 : Int32)) hx hb dX4_fairRate_12 (by decide) ?_
  refine lv_aload_n hx hb dX4_fairRate_13 rfl (lv_at hl 0 rfl) ?_
  refine lv_iload_n hx hb dX4_fairRate_14 rfl (lv_at hl 1 rfl) ?_
  obtain ⟨x2, hx2, h⟩ := Option.bind_eq_some_iff.mp h
  refine m_callV (As := [.int a1]) (st1 := [.int x2.1, .int (2 : Int32)]) hx hb (hml.trans hl.1.symm) hown hts hKv hXs hXk hM (kX4_marketRate l D cI ad hX0 a1 M1 _ hx2) (cwV 1 hts gX4_fairRate_X4_marketRate rfl rfl rfl (by decide +kernel) ⟨Nat.le_of_ble_eq_true rfl, Nat.le_of_ble_eq_true rfl⟩) (by decide) at_X4 rfl rfl rfl rfl (Nat.le_of_ble_eq_true rfl) dX4_fairRate_15 ⟨Nat.zero_le _, Nat.zero_le _⟩ (fun H locs hM => ?_)
  refine lv_imul hx hb dX4_fairRate_18 ?_
  exact m_iret hx hb hr hlocks hM (congrArg (a₁ := (((2 : Int32) * x2.1), x2.2)) Prod.fst (Option.some.inj h)) (congrArg (a₁ := (((2 : Int32) * x2.1), x2.2)) (fun z => Ec ad cI z.2) (Option.some.inj h)) dX4_fairRate_19
set_option maxHeartbeats 4000000 in
set_option maxRecDepth 100000 in
theorem kX4_ferryRate (l : Launch) (D : va_G) (cI : ClassId) (ad : Nat → Nat) {X : State → Prop} {aS : Nat → Nat} (hX0 : cX D ad aS X) (a1 : Int32) (M : Mem) (res : (Int32 × Mem)) (h : fX4_ferryRate a1 M = some res) : mC l yX4_ferryRate wsX4_ferryRate { frames := 6, cells := 0, slots := 0, locals := 135 } D [(cI, .int)] ad 40 X [.ref (ad 0), .int a1] (Ec ad cI M) (some (.int res.1)) (Ec ad cI res.2) := by
  refine m_ofW (cc := cX4_ferryRate) (maxL := 2) (ret := (some .int)) (by decide) rfl (Nat.le_of_ble_eq_true rfl) ?_
  intro p e s m args below meth c hx hb hml hr hlocks hts hown hKv hXs ls hl hM
  have hXk := hX0.1
  have Z : mZ p s m args meth c cX4_ferryRate 2 (some .int) wsX4_ferryRate RX4 D [(cI, .int)] X := ⟨hx, hb, hml, hr, hlocks, hts, hown, hKv, hXs⟩
  replace hown : s.vm.findClass RX4 = some m.cls := hown
  have hl : lv_has ls 2 [(0, .ref (ad 0)), (1, .int a1)] := hl
  have k0 := hts (Cond.fieldLink RX4 46 "NoonWalker" "asked" "J") (List.mem_of_getElem? (i := 1) rfl)
  have k1 := hts (Cond.constantLong RX4 258 (10000)) (List.mem_of_getElem? (i := 2) rfl)
  unfold fX4_ferryRate at h
  refine lv_aload_n hx hb dX4_ferryRate_0 rfl (lv_at hl 0 rfl) ?_
  refine lv_dup hx hb dX4_ferryRate_1 rfl ?_
  refine m_get hx hb hts hown hKv hM (fun _ h => List.mem_cons_of_mem _ (List.mem_append_left _ (List.mem_append_left _ (List.mem_append_right _ (h))))) (by decide) at_X4 rfl 7 (by decide) k0 (v := .long M.2) rfl dX4_ferryRate_2 ?_
  refine lv_ldc2 (v := (10000 : Int64)) hx hb hown k1 dX4_ferryRate_5 ?_
  refine lv_ladd hx hb dX4_ferryRate_8 ?_
  obtain ⟨M1, hM1, h⟩ := Option.bind_eq_some_iff.mp h
  refine m_put hx hb hts hown hKv hM (fun _ h => List.mem_cons_of_mem _ (List.mem_append_left _ (List.mem_append_left _ (List.mem_append_right _ (h))))) tyX4 tyX4_ok nmX4 (by decide) at_X4 rfl 7 (by decide) k0 rfl rfl rfl (Nat.le_of_ble_eq_true rfl) (pt_X4_7 (Option.some.inj hM1)) dX4_ferryRate_9 (fun H locs hM => ?_)
  refine lv_aload_n hx hb dX4_ferryRate_12 rfl (lv_at hl 0 rfl) ?_
  refine lv_iload_n hx hb dX4_ferryRate_13 rfl (lv_at hl 1 rfl) ?_
  obtain ⟨x2, hx2, h⟩ := Option.bind_eq_some_iff.mp h
  refine m_callV (As := [.int a1]) (st1 := [.int x2.1]) hx hb (hml.trans hl.1.symm) hown hts hKv hXs hXk hM (kX4_innRate l D cI ad hX0 a1 M1 _ hx2) (cwV 1 hts gX4_ferryRate_X4_innRate rfl rfl rfl (by decide +kernel) ⟨Nat.le_of_ble_eq_true rfl, Nat.le_of_ble_eq_true rfl⟩) (by decide) at_X4 rfl rfl rfl rfl (Nat.le_of_ble_eq_true rfl) dX4_ferryRate_14 ⟨Nat.zero_le _, Nat.zero_le _⟩ (fun H locs hM => ?_)
  refine lv_iload_n hx hb dX4_ferryRate_17 rfl (lv_at hl 1 rfl) ?_
  refine lv_iadd hx hb dX4_ferryRate_18 ?_
  exact m_iret hx hb hr hlocks hM (congrArg (a₁ := ((x2.1 + a1), x2.2)) Prod.fst (Option.some.inj h)) (congrArg (a₁ := ((x2.1 + a1), x2.2)) (fun z => Ec ad cI z.2) (Option.some.inj h)) dX4_ferryRate_19
set_option maxHeartbeats 4000000 in
set_option maxRecDepth 100000 in
theorem kX4_millRate (l : Launch) (D : va_G) (cI : ClassId) (ad : Nat → Nat) {X : State → Prop} {aS : Nat → Nat} (hX0 : cX D ad aS X) (a1 : Int32) (M : Mem) (res : (Int32 × Mem)) (h : fX4_millRate a1 M = some res) : mC l yX4_millRate wsX4_millRate { frames := 3, cells := 0, slots := 0, locals := 63 } D [(cI, .int)] ad 40 X [.ref (ad 0), .int a1] (Ec ad cI M) (some (.int res.1)) (Ec ad cI res.2) := by
  refine m_ofW (cc := cX4_millRate) (maxL := 2) (ret := (some .int)) (by decide) rfl (Nat.le_of_ble_eq_true rfl) ?_
  intro p e s m args below meth c hx hb hml hr hlocks hts hown hKv hXs ls hl hM
  have hXk := hX0.1
  have Z : mZ p s m args meth c cX4_millRate 2 (some .int) wsX4_millRate RX4 D [(cI, .int)] X := ⟨hx, hb, hml, hr, hlocks, hts, hown, hKv, hXs⟩
  replace hown : s.vm.findClass RX4 = some m.cls := hown
  have hl : lv_has ls 2 [(0, .ref (ad 0)), (1, .int a1)] := hl
  have k0 := hts (Cond.fieldLink RX4 46 "NoonWalker" "asked" "J") (List.mem_of_getElem? (i := 1) rfl)
  have k1 := hts (Cond.constantLong RX4 260 (100000)) (List.mem_of_getElem? (i := 2) rfl)
  have k2 := hts (Cond.fieldLink RX4 36 "NoonWalker" "present" "LNoonWalker$Memory;") (List.mem_of_getElem? (i := 3) rfl)
  have k3 := hts (Cond.fieldLink RX4 190 "NoonWalker$Memory" "now" "I") (List.mem_of_getElem? (i := 4) rfl)
  unfold fX4_millRate at h
  refine lv_aload_n hx hb dX4_millRate_0 rfl (lv_at hl 0 rfl) ?_
  refine lv_dup hx hb dX4_millRate_1 rfl ?_
  refine m_get hx hb hts hown hKv hM (fun _ h => List.mem_cons_of_mem _ (List.mem_append_left _ (List.mem_append_left _ (List.mem_append_right _ (h))))) (by decide) at_X4 rfl 7 (by decide) k0 (v := .long M.2) rfl dX4_millRate_2 ?_
  refine lv_ldc2 (v := (100000 : Int64)) hx hb hown k1 dX4_millRate_5 ?_
  refine lv_ladd hx hb dX4_millRate_8 ?_
  obtain ⟨M1, hM1, h⟩ := Option.bind_eq_some_iff.mp h
  refine m_put hx hb hts hown hKv hM (fun _ h => List.mem_cons_of_mem _ (List.mem_append_left _ (List.mem_append_left _ (List.mem_append_right _ (h))))) tyX4 tyX4_ok nmX4 (by decide) at_X4 rfl 7 (by decide) k0 rfl rfl rfl (Nat.le_of_ble_eq_true rfl) (pt_X4_7 (Option.some.inj hM1)) dX4_millRate_9 (fun H locs hM => ?_)
  refine lv_aload_n hx hb dX4_millRate_12 rfl (lv_at hl 0 rfl) ?_
  refine lv_iload_n hx hb dX4_millRate_13 rfl (lv_at hl 1 rfl) ?_
  obtain ⟨x2, hx2, h⟩ := Option.bind_eq_some_iff.mp h
  refine m_callV (As := [.int a1]) (st1 := [.int x2.1]) hx hb (hml.trans hl.1.symm) hown hts hKv hXs hXk hM (kX4_townRate l D cI ad hX0 a1 M1 _ hx2) (cwV 1 hts gX4_millRate_X4_townRate rfl rfl rfl (by decide +kernel) ⟨Nat.le_of_ble_eq_true rfl, Nat.le_of_ble_eq_true rfl⟩) (by decide) at_X4 rfl rfl rfl rfl (Nat.le_of_ble_eq_true rfl) dX4_millRate_14 ⟨Nat.zero_le _, Nat.zero_le _⟩ (fun H locs hM => ?_)
  refine lv_aload_n hx hb dX4_millRate_17 rfl (lv_at hl 0 rfl) ?_
  refine m_get hx hb hts hown hKv hM (fun _ h => List.mem_cons_of_mem _ (List.mem_append_left _ (List.mem_append_left _ (List.mem_append_right _ (h))))) (by decide) at_X4 rfl 4 (by decide) k2 (v := .ref (ad 28)) rfl dX4_millRate_18 ?_
  refine m_get hx hb hts hown hKv hM (fun _ h => List.mem_cons_of_mem _ (List.mem_append_left _ (List.mem_append_right _ (h)))) (lt_X2 isM_28) (at_X2 isM_28) rfl 0 (by decide) k3 (v := .int (x2.2.1 28 0)) rfl dX4_millRate_21 ?_
  refine lv_iadd hx hb dX4_millRate_24 ?_
  exact m_iret hx hb hr hlocks hM (congrArg (a₁ := ((x2.1 + (x2.2.1 28 0)), x2.2)) Prod.fst (Option.some.inj h)) (congrArg (a₁ := ((x2.1 + (x2.2.1 28 0)), x2.2)) (fun z => Ec ad cI z.2) (Option.some.inj h)) dX4_millRate_25
set_option maxHeartbeats 4000000 in
set_option maxRecDepth 100000 in
theorem kX4_rate (l : Launch) (D : va_G) (cI : ClassId) (ad : Nat → Nat) {X : State → Prop} {aS : Nat → Nat} (hX0 : cX D ad aS X) (a1 : Int32) (a2 : Int32) (M : Mem) (res : (Int32 × Mem)) (h : fX4_rate a1 a2 M = some res) : mC l yX4_rate wsX4_rate { frames := 7, cells := 0, slots := 0, locals := 156 } D [(cI, .int)] ad 40 X [.ref (ad 0), .int a1, .int a2] (Ec ad cI M) (some (.int res.1)) (Ec ad cI res.2) := by
  refine m_ofW (cc := cX4_rate) (maxL := 3) (ret := (some .int)) (by decide) rfl (Nat.le_of_ble_eq_true rfl) ?_
  intro p e s m args below meth c hx hb hml hr hlocks hts hown hKv hXs ls hl hM
  have hXk := hX0.1
  have Z : mZ p s m args meth c cX4_rate 3 (some .int) wsX4_rate RX4 D [(cI, .int)] X := ⟨hx, hb, hml, hr, hlocks, hts, hown, hKv, hXs⟩
  replace hown : s.vm.findClass RX4 = some m.cls := hown
  have hl : lv_has ls 3 [(0, .ref (ad 0)), (1, .int a1), (2, .int a2)] := hl
  have k0 := hts (Cond.fieldLink RX4 19 "NoonWalker" "told" "LNoonWalker$Land;") (List.mem_of_getElem? (i := 1) rfl)
  have k1 := hts (Cond.constant RX4 138 (-1000000)) (List.mem_of_getElem? (i := 2) rfl)
  unfold fX4_rate at h
  refine lv_aload_n hx hb dX4_rate_0 rfl (lv_at hl 0 rfl) ?_
  refine m_get hx hb hts hown hKv hM (fun _ h => List.mem_cons_of_mem _ (List.mem_append_left _ (List.mem_append_left _ (List.mem_append_right _ (h))))) (by decide) at_X4 rfl 1 (by decide) k0 (v := .ref (ad (lp (M.1 0 1)))) rfl dX4_rate_1 ?_
  refine lv_iload_n hx hb dX4_rate_4 rfl (lv_at hl 2 rfl) ?_
  obtain ⟨x1, hx1, h⟩ := Option.bind_eq_some_iff.mp h
  refine m_callV (As := [.int a2]) (st1 := [.int x1]) hx hb (hml.trans hl.1.symm) hown hts hKv hXs hXk hM (kX1_isTown l D cI ad hX0 (lp (M.1 0 1)) (lp_ok _) a2 M _ hx1) (cwV 1 hts gX4_rate_X1_isTown rfl rfl rfl (by decide +kernel) ⟨Nat.le_of_ble_eq_true rfl, Nat.le_of_ble_eq_true rfl⟩) (lt_X1 (lp_ok _)) (at_X1 (lp_ok _)) rfl rfl rfl rfl (Nat.le_of_ble_eq_true rfl) dX4_rate_5 ⟨Nat.zero_le _, Nat.zero_le _⟩ (fun H locs hM => ?_)
  refine lv_if_ne (tgt := 14) hx hb dX4_rate_8 (by decide) (fun c2 => ?_) (fun c2 => ?_)
  · replace h := (if_neg c2).symm.trans h
    refine lv_iload_n hx hb dX4_rate_14 rfl (lv_at hl 1 rfl) ?_
    by_cases c3 : a1 = (0 : Int32)
    · replace h := (if_pos c3).symm.trans h
      refine lv_tableIn (off := 37) (tgt := 52) hx hb dX4_rate_15 (by rw [c3]; decide) (by rw [c3]; decide) (by rw [c3]; rfl) (by decide) ?_
      refine lv_aload_n hx hb dX4_rate_52 rfl (lv_at hl 0 rfl) ?_
      refine lv_iload_n hx hb dX4_rate_53 rfl (lv_at hl 2 rfl) ?_
      obtain ⟨x4, hx4, h⟩ := Option.bind_eq_some_iff.mp h
      refine m_callV (As := [.int a2]) (st1 := [.int x4.1]) hx hb (hml.trans hl.1.symm) hown hts hKv hXs hXk hM (kX4_townRate l D cI ad hX0 a2 M _ hx4) (cwV 1 hts gX4_rate_X4_townRate rfl rfl rfl (by decide +kernel) ⟨Nat.le_of_ble_eq_true rfl, Nat.le_of_ble_eq_true rfl⟩) (by decide) at_X4 rfl rfl rfl rfl (Nat.le_of_ble_eq_true rfl) dX4_rate_54 ⟨Nat.zero_le _, Nat.zero_le _⟩ (fun H locs hM => ?_)
      exact m_iret hx hb hr hlocks hM (congrArg (a₁ := (x4.1, x4.2)) Prod.fst (Option.some.inj h)) (congrArg (a₁ := (x4.1, x4.2)) (fun z => Ec ad cI z.2) (Option.some.inj h)) dX4_rate_57
    replace h := (if_neg c3).symm.trans h
    by_cases c5 : a1 = (1 : Int32)
    · replace h := (if_pos c5).symm.trans h
      refine lv_tableIn (off := 43) (tgt := 58) hx hb dX4_rate_15 (by rw [c5]; decide) (by rw [c5]; decide) (by rw [c5]; rfl) (by decide) ?_
      refine lv_aload_n hx hb dX4_rate_58 rfl (lv_at hl 0 rfl) ?_
      refine lv_iload_n hx hb dX4_rate_59 rfl (lv_at hl 2 rfl) ?_
      obtain ⟨x6, hx6, h⟩ := Option.bind_eq_some_iff.mp h
      refine m_callV (As := [.int a2]) (st1 := [.int x6.1]) hx hb (hml.trans hl.1.symm) hown hts hKv hXs hXk hM (kX4_marketRate l D cI ad hX0 a2 M _ hx6) (cwV 1 hts gX4_rate_X4_marketRate rfl rfl rfl (by decide +kernel) ⟨Nat.le_of_ble_eq_true rfl, Nat.le_of_ble_eq_true rfl⟩) (by decide) at_X4 rfl rfl rfl rfl (Nat.le_of_ble_eq_true rfl) dX4_rate_60 ⟨Nat.zero_le _, Nat.zero_le _⟩ (fun H locs hM => ?_)
      exact m_iret hx hb hr hlocks hM (congrArg (a₁ := (x6.1, x6.2)) Prod.fst (Option.some.inj h)) (congrArg (a₁ := (x6.1, x6.2)) (fun z => Ec ad cI z.2) (Option.some.inj h)) dX4_rate_63
    replace h := (if_neg c5).symm.trans h
    by_cases c7 : a1 = (2 : Int32)
    · replace h := (if_pos c7).symm.trans h
      refine lv_tableIn (off := 49) (tgt := 64) hx hb dX4_rate_15 (by rw [c7]; decide) (by rw [c7]; decide) (by rw [c7]; rfl) (by decide) ?_
      refine lv_aload_n hx hb dX4_rate_64 rfl (lv_at hl 0 rfl) ?_
      refine lv_iload_n hx hb dX4_rate_65 rfl (lv_at hl 2 rfl) ?_
      obtain ⟨x8, hx8, h⟩ := Option.bind_eq_some_iff.mp h
      refine m_callV (As := [.int a2]) (st1 := [.int x8.1]) hx hb (hml.trans hl.1.symm) hown hts hKv hXs hXk hM (kX4_innRate l D cI ad hX0 a2 M _ hx8) (cwV 1 hts gX4_rate_X4_innRate rfl rfl rfl (by decide +kernel) ⟨Nat.le_of_ble_eq_true rfl, Nat.le_of_ble_eq_true rfl⟩) (by decide) at_X4 rfl rfl rfl rfl (Nat.le_of_ble_eq_true rfl) dX4_rate_66 ⟨Nat.zero_le _, Nat.zero_le _⟩ (fun H locs hM => ?_)
      exact m_iret hx hb hr hlocks hM (congrArg (a₁ := (x8.1, x8.2)) Prod.fst (Option.some.inj h)) (congrArg (a₁ := (x8.1, x8.2)) (fun z => Ec ad cI z.2) (Option.some.inj h)) dX4_rate_69
    replace h := (if_neg c7).symm.trans h
    by_cases c9 : a1 = (3 : Int32)
    · replace h := (if_pos c9).symm.trans h
      refine lv_tableIn (off := 55) (tgt := 70) hx hb dX4_rate_15 (by rw [c9]; decide) (by rw [c9]; decide) (by rw [c9]; rfl) (by decide) ?_
      refine lv_aload_n hx hb dX4_rate_70 rfl (lv_at hl 0 rfl) ?_
      refine lv_iload_n hx hb dX4_rate_71 rfl (lv_at hl 2 rfl) ?_
      obtain ⟨x10, hx10, h⟩ := Option.bind_eq_some_iff.mp h
      refine m_callV (As := [.int a2]) (st1 := [.int x10.1]) hx hb (hml.trans hl.1.symm) hown hts hKv hXs hXk hM (kX4_fairRate l D cI ad hX0 a2 M _ hx10) (cwV 1 hts gX4_rate_X4_fairRate rfl rfl rfl (by decide +kernel) ⟨Nat.le_of_ble_eq_true rfl, Nat.le_of_ble_eq_true rfl⟩) (by decide) at_X4 rfl rfl rfl rfl (Nat.le_of_ble_eq_true rfl) dX4_rate_72 ⟨Nat.zero_le _, Nat.zero_le _⟩ (fun H locs hM => ?_)
      exact m_iret hx hb hr hlocks hM (congrArg (a₁ := (x10.1, x10.2)) Prod.fst (Option.some.inj h)) (congrArg (a₁ := (x10.1, x10.2)) (fun z => Ec ad cI z.2) (Option.some.inj h)) dX4_rate_75
    replace h := (if_neg c9).symm.trans h
    by_cases c11 : a1 = (4 : Int32)
    · replace h := (if_pos c11).symm.trans h
      refine lv_tableIn (off := 61) (tgt := 76) hx hb dX4_rate_15 (by rw [c11]; decide) (by rw [c11]; decide) (by rw [c11]; rfl) (by decide) ?_
      refine lv_aload_n hx hb dX4_rate_76 rfl (lv_at hl 0 rfl) ?_
      refine lv_iload_n hx hb dX4_rate_77 rfl (lv_at hl 2 rfl) ?_
      obtain ⟨x12, hx12, h⟩ := Option.bind_eq_some_iff.mp h
      refine m_callV (As := [.int a2]) (st1 := [.int x12.1]) hx hb (hml.trans hl.1.symm) hown hts hKv hXs hXk hM (kX4_ferryRate l D cI ad hX0 a2 M _ hx12) (cwV 1 hts gX4_rate_X4_ferryRate rfl rfl rfl (by decide +kernel) ⟨Nat.le_of_ble_eq_true rfl, Nat.le_of_ble_eq_true rfl⟩) (by decide) at_X4 rfl rfl rfl rfl (Nat.le_of_ble_eq_true rfl) dX4_rate_78 ⟨Nat.zero_le _, Nat.zero_le _⟩ (fun H locs hM => ?_)
      exact m_iret hx hb hr hlocks hM (congrArg (a₁ := (x12.1, x12.2)) Prod.fst (Option.some.inj h)) (congrArg (a₁ := (x12.1, x12.2)) (fun z => Ec ad cI z.2) (Option.some.inj h)) dX4_rate_81
    replace h := (if_neg c11).symm.trans h
    by_cases c13 : a1 = (5 : Int32)
    · replace h := (if_pos c13).symm.trans h
      refine lv_tableIn (off := 67) (tgt := 82) hx hb dX4_rate_15 (by rw [c13]; decide) (by rw [c13]; decide) (by rw [c13]; rfl) (by decide) ?_
      refine lv_aload_n hx hb dX4_rate_82 rfl (lv_at hl 0 rfl) ?_
      refine lv_iload_n hx hb dX4_rate_83 rfl (lv_at hl 2 rfl) ?_
      obtain ⟨x14, hx14, h⟩ := Option.bind_eq_some_iff.mp h
      refine m_callV (As := [.int a2]) (st1 := [.int x14.1]) hx hb (hml.trans hl.1.symm) hown hts hKv hXs hXk hM (kX4_millRate l D cI ad hX0 a2 M _ hx14) (cwV 1 hts gX4_rate_X4_millRate rfl rfl rfl (by decide +kernel) ⟨Nat.le_of_ble_eq_true rfl, Nat.le_of_ble_eq_true rfl⟩) (by decide) at_X4 rfl rfl rfl rfl (Nat.le_of_ble_eq_true rfl) dX4_rate_84 ⟨Nat.zero_le _, Nat.zero_le _⟩ (fun H locs hM => ?_)
      exact m_iret hx hb hr hlocks hM (congrArg (a₁ := (x14.1, x14.2)) Prod.fst (Option.some.inj h)) (congrArg (a₁ := (x14.1, x14.2)) (fun z => Ec ad cI z.2) (Option.some.inj h)) dX4_rate_87
    replace h := (if_neg c13).symm.trans h
    refine lv_tableOut (tgt := 88) hx hb dX4_rate_15 (by have e0 := lv_neT c3 (a := 0) rfl; have e1 := lv_neT c5 (a := 1) rfl; have e2 := lv_neT c7 (a := 2) rfl; have e3 := lv_neT c9 (a := 3) rfl; have e4 := lv_neT c11 (a := 4) rfl; have e5 := lv_neT c13 (a := 5) rfl; omega) (by decide) ?_
    refine lv_ldc (v := (-1000000 : Int32)) hx hb hown k1 dX4_rate_88 ?_
    exact m_iret hx hb hr hlocks hM (congrArg (a₁ := ((-1000000 : Int32), M)) Prod.fst (Option.some.inj h)) (congrArg (a₁ := ((-1000000 : Int32), M)) (fun z => Ec ad cI z.2) (Option.some.inj h)) dX4_rate_90
  · replace h := (if_pos c2).symm.trans h
    refine lv_ldc (v := (-1000000 : Int32)) hx hb hown k1 dX4_rate_11 ?_
    exact m_iret hx hb hr hlocks hM (congrArg (a₁ := ((-1000000 : Int32), M)) Prod.fst (Option.some.inj h)) (congrArg (a₁ := ((-1000000 : Int32), M)) (fun z => Ec ad cI z.2) (Option.some.inj h)) dX4_rate_13
set_option maxHeartbeats 4000000 in
set_option maxRecDepth 100000 in
theorem kX4_isImage (l : Launch) (D : va_G) (cI : ClassId) (ad : Nat → Nat) {X : State → Prop} {aS : Nat → Nat} (hX0 : cX D ad aS X) (a0 : Int32) (M : Mem) (res : Int32) (h : fX4_isImage a0 = some res) : mC l yX4_isImage wsX4_isImage { frames := 0, cells := 0, slots := 0, locals := 0 } D [(cI, .int)] ad 40 X [.int a0] (Ec ad cI M) (some (.int res)) (Ec ad cI M) := by
  refine m_ofW (cc := cX4_isImage) (maxL := 1) (ret := (some .boolean)) (by decide) rfl (Nat.le_of_ble_eq_true rfl) ?_
  intro p e s m args below meth c hx hb hml hr hlocks hts hown hKv hXs ls hl hM
  have hXk := hX0.1
  have Z : mZ p s m args meth c cX4_isImage 1 (some .boolean) wsX4_isImage RX4 D [(cI, .int)] X := ⟨hx, hb, hml, hr, hlocks, hts, hown, hKv, hXs⟩
  replace hown : s.vm.findClass RX4 = some m.cls := hown
  have hl : lv_has ls 1 [(0, .int a0)] := hl
  unfold fX4_isImage at h
  refine lv_iload_n hx hb dX4_isImage_0 rfl (lv_at hl 0 rfl) ?_
  refine lv_if_eq (tgt := 9) hx hb dX4_isImage_1 (by decide) (fun c1 => ?_) (fun c1 => ?_)
  · replace h := (if_pos c1).symm.trans h
    refine lv_iconst (v := (1 : Int32)) hx hb dX4_isImage_9 (by decide) ?_
    refine lv_goto (tgt := 14) hx hb dX4_isImage_10 (by decide) ?_
    exact m_zret hx hb hr hlocks hM (Option.some.inj h) rfl rfl dX4_isImage_14
  · replace h := (if_neg c1).symm.trans h
    refine lv_iload_n hx hb dX4_isImage_4 rfl (lv_at hl 0 rfl) ?_
    refine lv_iconst (v := (1 : Int32)) hx hb dX4_isImage_5 (by decide) ?_
    refine lv_icmp_ne (tgt := 13) hx hb dX4_isImage_6 (by decide) (fun c2 => ?_) (fun c2 => ?_)
    · replace h := (if_neg c2).symm.trans h
      refine lv_iconst (v := (0 : Int32)) hx hb dX4_isImage_13 (by decide) ?_
      exact m_zret hx hb hr hlocks hM (Option.some.inj h) rfl rfl dX4_isImage_14
    · replace h := (if_pos c2).symm.trans h
      refine lv_iconst (v := (1 : Int32)) hx hb dX4_isImage_9 (by decide) ?_
      refine lv_goto (tgt := 14) hx hb dX4_isImage_10 (by decide) ?_
      exact m_zret hx hb hr hlocks hM (Option.some.inj h) rfl rfl dX4_isImage_14
set_option maxHeartbeats 4000000 in
set_option maxRecDepth 100000 in
theorem kX4_imageOf (l : Launch) (D : va_G) (cI : ClassId) (ad : Nat → Nat) {X : State → Prop} {aS : Nat → Nat} (hX0 : cX D ad aS X) (a1 : Int32) (M : Mem) (res : Nat) (h : fX4_imageOf a1 M = some res) : mC l yX4_imageOf wsX4_imageOf { frames := 0, cells := 0, slots := 0, locals := 0 } D [(cI, .int)] ad 40 X [.ref (ad 0), .int a1] (Ec ad cI M) (some (.ref (ad res))) (Ec ad cI M) := by
  refine m_ofW (cc := cX4_imageOf) (maxL := 2) (ret := (some (.object "NoonWalker$Memory"))) (by decide) rfl (Nat.le_of_ble_eq_true rfl) ?_
  intro p e s m args below meth c hx hb hml hr hlocks hts hown hKv hXs ls hl hM
  have hXk := hX0.1
  have Z : mZ p s m args meth c cX4_imageOf 2 (some (.object "NoonWalker$Memory")) wsX4_imageOf RX4 D [(cI, .int)] X := ⟨hx, hb, hml, hr, hlocks, hts, hown, hKv, hXs⟩
  replace hown : s.vm.findClass RX4 = some m.cls := hown
  have hl : lv_has ls 2 [(0, .ref (ad 0)), (1, .int a1)] := hl
  have k0 := hts (Cond.fieldLink RX4 43 "NoonWalker" "image1" "LNoonWalker$Memory;") (List.mem_of_getElem? (i := 2) rfl)
  have k1 := hts (Cond.fieldLink RX4 40 "NoonWalker" "image0" "LNoonWalker$Memory;") (List.mem_of_getElem? (i := 1) rfl)
  unfold fX4_imageOf at h
  refine lv_iload_n hx hb dX4_imageOf_0 rfl (lv_at hl 1 rfl) ?_
  refine lv_if_ne (tgt := 11) hx hb dX4_imageOf_1 (by decide) (fun c1 => ?_) (fun c1 => ?_)
  · replace h := (if_neg c1).symm.trans h
    refine lv_aload_n hx hb dX4_imageOf_11 rfl (lv_at hl 0 rfl) ?_
    refine m_get hx hb hts hown hKv hM (fun _ h => List.mem_cons_of_mem _ (List.mem_append_right _ (h))) (by decide) at_X4 rfl 6 (by decide) k0 (v := .ref (ad 36)) rfl dX4_imageOf_12 ?_
    exact m_aret hx hb hr hlocks hM (Option.some.inj h) rfl dX4_imageOf_15
  · replace h := (if_pos c1).symm.trans h
    refine lv_aload_n hx hb dX4_imageOf_4 rfl (lv_at hl 0 rfl) ?_
    refine m_get hx hb hts hown hKv hM (fun _ h => List.mem_cons_of_mem _ (List.mem_append_right _ (h))) (by decide) at_X4 rfl 5 (by decide) k1 (v := .ref (ad 32)) rfl dX4_imageOf_5 ?_
    refine lv_goto (tgt := 15) hx hb dX4_imageOf_8 (by decide) ?_
    exact m_aret hx hb hr hlocks hM (Option.some.inj h) rfl dX4_imageOf_15
set_option maxHeartbeats 4000000 in
set_option maxRecDepth 100000 in
theorem kX4_keep (l : Launch) (D : va_G) (cI : ClassId) (ad : Nat → Nat) {X : State → Prop} {aS : Nat → Nat} (hX0 : cX D ad aS X) (a1 : Int32) (M : Mem) (res : (Int32 × Mem)) (h : fX4_keep a1 M = some res) : mC l yX4_keep wsX4_keep { frames := 2, cells := 0, slots := 0, locals := 45 } D [(cI, .int)] ad 40 X [.ref (ad 0), .int a1] (Ec ad cI M) (some (.int res.1)) (Ec ad cI res.2) := by
  refine m_ofW (cc := cX4_keep) (maxL := 3) (ret := (some .int)) (by decide) rfl (Nat.le_of_ble_eq_true rfl) ?_
  intro p e s m args below meth c hx hb hml hr hlocks hts hown hKv hXs ls hl hM
  have hXk := hX0.1
  have Z : mZ p s m args meth c cX4_keep 3 (some .int) wsX4_keep RX4 D [(cI, .int)] X := ⟨hx, hb, hml, hr, hlocks, hts, hown, hKv, hXs⟩
  replace hown : s.vm.findClass RX4 = some m.cls := hown
  have hl : lv_has ls 3 [(0, .ref (ad 0)), (1, .int a1)] := hl
  have k0 := hts (Cond.fieldLink RX4 36 "NoonWalker" "present" "LNoonWalker$Memory;") (List.mem_of_getElem? (i := 1) rfl)
  have k1 := hts (Cond.fieldLink RX4 228 "NoonWalker$Memory" "full" "Z") (List.mem_of_getElem? (i := 2) rfl)
  have k2 := hts (Cond.fieldLink RX4 190 "NoonWalker$Memory" "now" "I") (List.mem_of_getElem? (i := 3) rfl)
  unfold fX4_keep at h
  refine lv_iload_n hx hb dX4_keep_0 rfl (lv_at hl 1 rfl) ?_
  obtain ⟨x1, hx1, h⟩ := Option.bind_eq_some_iff.mp h
  refine m_callS (As := [.int a1]) (st1 := [.int x1]) hx hb (hml.trans hl.1.symm) hown hts hKv hXs hXk hM (kX4_isImage l D cI ad hX0 a1 M _ hx1) (va_cwS 1 hts gX4_keep_X4_isImage rfl rfl rfl (by decide +kernel) ⟨Nat.le_of_ble_eq_true rfl, Nat.le_of_ble_eq_true rfl⟩) rfl rfl rfl (Nat.le_of_ble_eq_true rfl) dX4_keep_1 ⟨Nat.zero_le _, Nat.zero_le _⟩ (fun H locs hM => ?_)
  refine lv_if_ne (tgt := 9) hx hb dX4_keep_4 (by decide) (fun c2 => ?_) (fun c2 => ?_)
  · replace h := (if_neg c2).symm.trans h
    refine lv_aload_n hx hb dX4_keep_9 rfl (lv_at hl 0 rfl) ?_
    refine lv_iload_n hx hb dX4_keep_10 rfl (lv_at hl 1 rfl) ?_
    obtain ⟨x3, hx3, h⟩ := Option.bind_eq_some_iff.mp h
    refine m_callV (As := [.int a1]) (st1 := [.ref (ad x3)]) hx hb (hml.trans hl.1.symm) hown hts hKv hXs hXk hM (kX4_imageOf l D cI ad hX0 a1 M _ hx3) (cwV 1 hts gX4_keep_X4_imageOf rfl rfl rfl (by decide +kernel) ⟨Nat.le_of_ble_eq_true rfl, Nat.le_of_ble_eq_true rfl⟩) (by decide) at_X4 rfl rfl rfl rfl (Nat.le_of_ble_eq_true rfl) dX4_keep_11 ⟨Nat.zero_le _, Nat.zero_le _⟩ (fun H locs hM => ?_)
    refine lv_astore_n (lv' := [(2, .ref (ad x3)), (0, .ref (ad 0)), (1, .int a1)]) hx hb dX4_keep_14 rfl hl (by decide) rfl (fun ls hl => ?_)
    refine lv_aload_n hx hb dX4_keep_15 rfl (lv_at hl 0 rfl) ?_
    refine lv_aload_n hx hb dX4_keep_16 rfl (lv_at hl 1 rfl) ?_
    refine m_get hx hb hts hown hKv hM (fun _ h => List.mem_cons_of_mem _ (List.mem_append_left _ (List.mem_append_right _ (h)))) (by decide) at_X4 rfl 4 (by decide) k0 (v := .ref (ad 28)) rfl dX4_keep_17 ?_
    obtain ⟨x4, hx4, h⟩ := Option.bind_eq_some_iff.mp h
    refine m_callV (As := [.ref (ad 28)]) (st1 := []) hx hb (hml.trans hl.1.symm) hown hts hKv hXs hXk hM (kX2_copy l D cI ad hX0 x3 (imageOf_M hx3) 28 isM_28 M _ hx4) (cwV 1 hts gX4_keep_X2_copy rfl rfl rfl (by decide +kernel) ⟨Nat.le_of_ble_eq_true rfl, Nat.le_of_ble_eq_true rfl⟩) (lt_X2 (imageOf_M hx3)) (at_X2 (imageOf_M hx3)) rfl rfl rfl rfl (Nat.le_of_ble_eq_true rfl) dX4_keep_20 ⟨Nat.zero_le _, Nat.zero_le _⟩ (fun H locs hM => ?_)
    refine lv_aload_n hx hb dX4_keep_23 rfl (lv_at hl 0 rfl) ?_
    refine lv_iconst (v := (1 : Int32)) hx hb dX4_keep_24 (by decide) ?_
    obtain ⟨M5, hM5, h⟩ := Option.bind_eq_some_iff.mp h
    refine m_put hx hb hts hown hKv hM (fun _ h => List.mem_cons_of_mem _ (List.mem_append_right _ (h))) tyX2 tyX2_ok nmX2 (lt_X2 (imageOf_M hx3)) (at_X2 (imageOf_M hx3)) rfl 5 (by decide) k1 rfl (by first | rfl | decide) (by first | rfl | decide) (Nat.le_of_ble_eq_true rfl) (pt_X2_5 (imageOf_M hx3) (Option.some.inj hM5)) dX4_keep_25 (fun H locs hM => ?_)
    refine lv_aload_n hx hb dX4_keep_28 rfl (lv_at hl 1 rfl) ?_
    refine m_get hx hb hts hown hKv hM (fun _ h => List.mem_cons_of_mem _ (List.mem_append_left _ (List.mem_append_right _ (h)))) (by decide) at_X4 rfl 4 (by decide) k0 (v := .ref (ad 28)) rfl dX4_keep_29 ?_
    refine m_get hx hb hts hown hKv hM (fun _ h => List.mem_cons_of_mem _ (List.mem_append_right _ (h))) (lt_X2 isM_28) (at_X2 isM_28) rfl 0 (by decide) k2 (v := .int (M5.1 28 0)) rfl dX4_keep_32 ?_
    exact m_iret hx hb hr hlocks hM (congrArg (a₁ := ((M5.1 28 0), M5)) Prod.fst (Option.some.inj h)) (congrArg (a₁ := ((M5.1 28 0), M5)) (fun z => Ec ad cI z.2) (Option.some.inj h)) dX4_keep_35
  · replace h := (if_pos c2).symm.trans h
    refine lv_iconst (v := (-1 : Int32)) hx hb dX4_keep_7 (by decide) ?_
    exact m_iret hx hb hr hlocks hM (congrArg (a₁ := ((-1 : Int32), M)) Prod.fst (Option.some.inj h)) (congrArg (a₁ := ((-1 : Int32), M)) (fun z => Ec ad cI z.2) (Option.some.inj h)) dX4_keep_8
set_option maxHeartbeats 4000000 in
set_option maxRecDepth 100000 in
theorem kX4_back (l : Launch) (D : va_G) (cI : ClassId) (ad : Nat → Nat) {X : State → Prop} {aS : Nat → Nat} (hX0 : cX D ad aS X) (a1 : Int32) (M : Mem) (res : (Int32 × Mem)) (h : fX4_back a1 M = some res) : mC l yX4_back wsX4_back { frames := 2, cells := 0, slots := 0, locals := 45 } D [(cI, .int)] ad 40 X [.ref (ad 0), .int a1] (Ec ad cI M) (some (.int res.1)) (Ec ad cI res.2) := by
  refine m_ofW (cc := cX4_back) (maxL := 3) (ret := (some .int)) (by decide) rfl (Nat.le_of_ble_eq_true rfl) ?_
  intro p e s m args below meth c hx hb hml hr hlocks hts hown hKv hXs ls hl hM
  have hXk := hX0.1
  have Z : mZ p s m args meth c cX4_back 3 (some .int) wsX4_back RX4 D [(cI, .int)] X := ⟨hx, hb, hml, hr, hlocks, hts, hown, hKv, hXs⟩
  replace hown : s.vm.findClass RX4 = some m.cls := hown
  have hl : lv_has ls 3 [(0, .ref (ad 0)), (1, .int a1)] := hl
  have k0 := hts (Cond.fieldLink RX4 228 "NoonWalker$Memory" "full" "Z") (List.mem_of_getElem? (i := 1) rfl)
  have k1 := hts (Cond.fieldLink RX4 36 "NoonWalker" "present" "LNoonWalker$Memory;") (List.mem_of_getElem? (i := 2) rfl)
  have k2 := hts (Cond.fieldLink RX4 190 "NoonWalker$Memory" "now" "I") (List.mem_of_getElem? (i := 3) rfl)
  unfold fX4_back at h
  refine lv_iload_n hx hb dX4_back_0 rfl (lv_at hl 1 rfl) ?_
  obtain ⟨x1, hx1, h⟩ := Option.bind_eq_some_iff.mp h
  refine m_callS (As := [.int a1]) (st1 := [.int x1]) hx hb (hml.trans hl.1.symm) hown hts hKv hXs hXk hM (kX4_isImage l D cI ad hX0 a1 M _ hx1) (va_cwS 1 hts gX4_back_X4_isImage rfl rfl rfl (by decide +kernel) ⟨Nat.le_of_ble_eq_true rfl, Nat.le_of_ble_eq_true rfl⟩) rfl rfl rfl (Nat.le_of_ble_eq_true rfl) dX4_back_1 ⟨Nat.zero_le _, Nat.zero_le _⟩ (fun H locs hM => ?_)
  refine lv_if_ne (tgt := 9) hx hb dX4_back_4 (by decide) (fun c2 => ?_) (fun c2 => ?_)
  · replace h := (if_neg c2).symm.trans h
    refine lv_aload_n hx hb dX4_back_9 rfl (lv_at hl 0 rfl) ?_
    refine lv_iload_n hx hb dX4_back_10 rfl (lv_at hl 1 rfl) ?_
    obtain ⟨x3, hx3, h⟩ := Option.bind_eq_some_iff.mp h
    refine m_callV (As := [.int a1]) (st1 := [.ref (ad x3)]) hx hb (hml.trans hl.1.symm) hown hts hKv hXs hXk hM (kX4_imageOf l D cI ad hX0 a1 M _ hx3) (cwV 1 hts gX4_back_X4_imageOf rfl rfl rfl (by decide +kernel) ⟨Nat.le_of_ble_eq_true rfl, Nat.le_of_ble_eq_true rfl⟩) (by decide) at_X4 rfl rfl rfl rfl (Nat.le_of_ble_eq_true rfl) dX4_back_11 ⟨Nat.zero_le _, Nat.zero_le _⟩ (fun H locs hM => ?_)
    refine lv_astore_n (lv' := [(2, .ref (ad x3)), (0, .ref (ad 0)), (1, .int a1)]) hx hb dX4_back_14 rfl hl (by decide) rfl (fun ls hl => ?_)
    refine lv_aload_n hx hb dX4_back_15 rfl (lv_at hl 0 rfl) ?_
    refine m_get hx hb hts hown hKv hM (fun _ h => List.mem_cons_of_mem _ (List.mem_append_left _ (List.mem_append_right _ (h)))) (lt_X2 (imageOf_M hx3)) (at_X2 (imageOf_M hx3)) rfl 5 (by decide) k0 (v := .int (M.1 x3 5)) rfl dX4_back_16 ?_
    refine lv_if_ne (tgt := 25) hx hb dX4_back_19 (by decide) (fun c4 => ?_) (fun c4 => ?_)
    · replace h := (if_neg c4).symm.trans h
      refine lv_aload_n hx hb dX4_back_25 rfl (lv_at hl 1 rfl) ?_
      refine m_get hx hb hts hown hKv hM (fun _ h => List.mem_cons_of_mem _ (List.mem_append_right _ (h))) (by decide) at_X4 rfl 4 (by decide) k1 (v := .ref (ad 28)) rfl dX4_back_26 ?_
      refine lv_aload_n hx hb dX4_back_29 rfl (lv_at hl 0 rfl) ?_
      obtain ⟨x5, hx5, h⟩ := Option.bind_eq_some_iff.mp h
      refine m_callV (As := [.ref (ad x3)]) (st1 := []) hx hb (hml.trans hl.1.symm) hown hts hKv hXs hXk hM (kX2_copy l D cI ad hX0 28 isM_28 x3 (imageOf_M hx3) M _ hx5) (cwV 1 hts gX4_back_X2_copy rfl rfl rfl (by decide +kernel) ⟨Nat.le_of_ble_eq_true rfl, Nat.le_of_ble_eq_true rfl⟩) (lt_X2 isM_28) (at_X2 isM_28) rfl rfl rfl rfl (Nat.le_of_ble_eq_true rfl) dX4_back_30 ⟨Nat.zero_le _, Nat.zero_le _⟩ (fun H locs hM => ?_)
      refine lv_aload_n hx hb dX4_back_33 rfl (lv_at hl 1 rfl) ?_
      refine m_get hx hb hts hown hKv hM (fun _ h => List.mem_cons_of_mem _ (List.mem_append_right _ (h))) (by decide) at_X4 rfl 4 (by decide) k1 (v := .ref (ad 28)) rfl dX4_back_34 ?_
      refine m_get hx hb hts hown hKv hM (fun _ h => List.mem_cons_of_mem _ (List.mem_append_left _ (List.mem_append_right _ (h)))) (lt_X2 isM_28) (at_X2 isM_28) rfl 0 (by decide) k2 (v := .int (x5.1 28 0)) rfl dX4_back_37 ?_
      exact m_iret hx hb hr hlocks hM (congrArg (a₁ := ((x5.1 28 0), x5)) Prod.fst (Option.some.inj h)) (congrArg (a₁ := ((x5.1 28 0), x5)) (fun z => Ec ad cI z.2) (Option.some.inj h)) dX4_back_40
    · replace h := (if_pos c4).symm.trans h
      refine lv_bipush (v := (-2 : Int32)) hx hb dX4_back_22 (by decide) ?_
      exact m_iret hx hb hr hlocks hM (congrArg (a₁ := ((-2 : Int32), M)) Prod.fst (Option.some.inj h)) (congrArg (a₁ := ((-2 : Int32), M)) (fun z => Ec ad cI z.2) (Option.some.inj h)) dX4_back_24
  · replace h := (if_pos c2).symm.trans h
    refine lv_iconst (v := (-1 : Int32)) hx hb dX4_back_7 (by decide) ?_
    exact m_iret hx hb hr hlocks hM (congrArg (a₁ := ((-1 : Int32), M)) Prod.fst (Option.some.inj h)) (congrArg (a₁ := ((-1 : Int32), M)) (fun z => Ec ad cI z.2) (Option.some.inj h)) dX4_back_8
set_option maxHeartbeats 4000000 in
set_option maxRecDepth 100000 in
theorem kX4_count (l : Launch) (D : va_G) (cI : ClassId) (ad : Nat → Nat) {X : State → Prop} {aS : Nat → Nat} (hX0 : cX D ad aS X) (a1 : Int32) (M : Mem) (res : Int32) (h : fX4_count a1 M = some res) : mC l yX4_count wsX4_count { frames := 0, cells := 0, slots := 0, locals := 0 } D [(cI, .int)] ad 40 X [.ref (ad 0), .int a1] (Ec ad cI M) (some (.int res)) (Ec ad cI M) := by
  refine m_ofW (cc := cX4_count) (maxL := 2) (ret := (some .int)) (by decide) rfl (Nat.le_of_ble_eq_true rfl) ?_
  intro p e s m args below meth c hx hb hml hr hlocks hts hown hKv hXs ls hl hM
  have hXk := hX0.1
  have Z : mZ p s m args meth c cX4_count 2 (some .int) wsX4_count RX4 D [(cI, .int)] X := ⟨hx, hb, hml, hr, hlocks, hts, hown, hKv, hXs⟩
  replace hown : s.vm.findClass RX4 = some m.cls := hown
  have hl : lv_has ls 2 [(0, .ref (ad 0)), (1, .int a1)] := hl
  have k0 := hts (Cond.fieldLink RX4 19 "NoonWalker" "told" "LNoonWalker$Land;") (List.mem_of_getElem? (i := 1) rfl)
  have k1 := hts (Cond.fieldLink RX4 232 "NoonWalker$Land" "towns" "I") (List.mem_of_getElem? (i := 2) rfl)
  have k2 := hts (Cond.fieldLink RX4 234 "NoonWalker$Land" "roads" "I") (List.mem_of_getElem? (i := 3) rfl)
  have k3 := hts (Cond.fieldLink RX4 196 "NoonWalker$Land" "stops" "I") (List.mem_of_getElem? (i := 4) rfl)
  have k4 := hts (Cond.fieldLink RX4 36 "NoonWalker" "present" "LNoonWalker$Memory;") (List.mem_of_getElem? (i := 5) rfl)
  have k5 := hts (Cond.fieldLink RX4 168 "NoonWalker$Memory" "seen" "I") (List.mem_of_getElem? (i := 6) rfl)
  have k6 := hts (Cond.fieldLink RX4 190 "NoonWalker$Memory" "now" "I") (List.mem_of_getElem? (i := 7) rfl)
  have k7 := hts (Cond.fieldLink RX4 12 "NoonWalker" "reader" "LNoonWalker$Reader;") (List.mem_of_getElem? (i := 8) rfl)
  have k8 := hts (Cond.fieldLink RX4 50 "NoonWalker$Reader" "length" "I") (List.mem_of_getElem? (i := 9) rfl)
  unfold fX4_count at h
  refine lv_iload_n hx hb dX4_count_0 rfl (lv_at hl 1 rfl) ?_
  by_cases c1 : a1 = (0 : Int32)
  · replace h := (if_pos c1).symm.trans h
    refine lv_tableIn (off := 39) (tgt := 40) hx hb dX4_count_1 (by rw [c1]; decide) (by rw [c1]; decide) (by rw [c1]; rfl) (by decide) ?_
    refine lv_aload_n hx hb dX4_count_40 rfl (lv_at hl 0 rfl) ?_
    refine m_get hx hb hts hown hKv hM (fun _ h => List.mem_cons_of_mem _ (List.mem_append_left _ (List.mem_append_left _ (List.mem_append_left _ (List.mem_append_right _ (h)))))) (by decide) at_X4 rfl 1 (by decide) k0 (v := .ref (ad (lp (M.1 0 1)))) rfl dX4_count_41 ?_
    refine m_get hx hb hts hown hKv hM (fun _ h => List.mem_cons_of_mem _ (List.mem_append_left _ (List.mem_append_left _ (List.mem_append_right _ (h))))) (lt_X1 (lp_ok _)) (at_X1 (lp_ok _)) rfl 0 (by decide) k1 (v := .int (M.1 (lp (M.1 0 1)) 0)) rfl dX4_count_44 ?_
    exact m_iret hx hb hr hlocks hM (Option.some.inj h) rfl dX4_count_47
  replace h := (if_neg c1).symm.trans h
  by_cases c2 : a1 = (1 : Int32)
  · replace h := (if_pos c2).symm.trans h
    refine lv_tableIn (off := 47) (tgt := 48) hx hb dX4_count_1 (by rw [c2]; decide) (by rw [c2]; decide) (by rw [c2]; rfl) (by decide) ?_
    refine lv_aload_n hx hb dX4_count_48 rfl (lv_at hl 0 rfl) ?_
    refine m_get hx hb hts hown hKv hM (fun _ h => List.mem_cons_of_mem _ (List.mem_append_left _ (List.mem_append_left _ (List.mem_append_left _ (List.mem_append_right _ (h)))))) (by decide) at_X4 rfl 1 (by decide) k0 (v := .ref (ad (lp (M.1 0 1)))) rfl dX4_count_49 ?_
    refine m_get hx hb hts hown hKv hM (fun _ h => List.mem_cons_of_mem _ (List.mem_append_left _ (List.mem_append_left _ (List.mem_append_right _ (h))))) (lt_X1 (lp_ok _)) (at_X1 (lp_ok _)) rfl 2 (by decide) k2 (v := .int (M.1 (lp (M.1 0 1)) 2)) rfl dX4_count_52 ?_
    exact m_iret hx hb hr hlocks hM (Option.some.inj h) rfl dX4_count_55
  replace h := (if_neg c2).symm.trans h
  by_cases c3 : a1 = (2 : Int32)
  · replace h := (if_pos c3).symm.trans h
    refine lv_tableIn (off := 55) (tgt := 56) hx hb dX4_count_1 (by rw [c3]; decide) (by rw [c3]; decide) (by rw [c3]; rfl) (by decide) ?_
    refine lv_aload_n hx hb dX4_count_56 rfl (lv_at hl 0 rfl) ?_
    refine m_get hx hb hts hown hKv hM (fun _ h => List.mem_cons_of_mem _ (List.mem_append_left _ (List.mem_append_left _ (List.mem_append_left _ (List.mem_append_right _ (h)))))) (by decide) at_X4 rfl 1 (by decide) k0 (v := .ref (ad (lp (M.1 0 1)))) rfl dX4_count_57 ?_
    refine m_get hx hb hts hown hKv hM (fun _ h => List.mem_cons_of_mem _ (List.mem_append_left _ (List.mem_append_left _ (List.mem_append_right _ (h))))) (lt_X1 (lp_ok _)) (at_X1 (lp_ok _)) rfl 6 (by decide) k3 (v := .int (M.1 (lp (M.1 0 1)) 6)) rfl dX4_count_60 ?_
    exact m_iret hx hb hr hlocks hM (Option.some.inj h) rfl dX4_count_63
  replace h := (if_neg c3).symm.trans h
  by_cases c4 : a1 = (3 : Int32)
  · replace h := (if_pos c4).symm.trans h
    refine lv_tableIn (off := 63) (tgt := 64) hx hb dX4_count_1 (by rw [c4]; decide) (by rw [c4]; decide) (by rw [c4]; rfl) (by decide) ?_
    refine lv_aload_n hx hb dX4_count_64 rfl (lv_at hl 0 rfl) ?_
    refine m_get hx hb hts hown hKv hM (fun _ h => List.mem_cons_of_mem _ (List.mem_append_left _ (List.mem_append_left _ (List.mem_append_left _ (List.mem_append_right _ (h)))))) (by decide) at_X4 rfl 4 (by decide) k4 (v := .ref (ad 28)) rfl dX4_count_65 ?_
    refine m_get hx hb hts hown hKv hM (fun _ h => List.mem_cons_of_mem _ (List.mem_append_left _ (List.mem_append_right _ (h)))) (lt_X2 isM_28) (at_X2 isM_28) rfl 1 (by decide) k5 (v := .int (M.1 28 1)) rfl dX4_count_68 ?_
    exact m_iret hx hb hr hlocks hM (Option.some.inj h) rfl dX4_count_71
  replace h := (if_neg c4).symm.trans h
  by_cases c5 : a1 = (4 : Int32)
  · replace h := (if_pos c5).symm.trans h
    refine lv_tableIn (off := 71) (tgt := 72) hx hb dX4_count_1 (by rw [c5]; decide) (by rw [c5]; decide) (by rw [c5]; rfl) (by decide) ?_
    refine lv_aload_n hx hb dX4_count_72 rfl (lv_at hl 0 rfl) ?_
    refine m_get hx hb hts hown hKv hM (fun _ h => List.mem_cons_of_mem _ (List.mem_append_left _ (List.mem_append_left _ (List.mem_append_left _ (List.mem_append_right _ (h)))))) (by decide) at_X4 rfl 4 (by decide) k4 (v := .ref (ad 28)) rfl dX4_count_73 ?_
    refine m_get hx hb hts hown hKv hM (fun _ h => List.mem_cons_of_mem _ (List.mem_append_left _ (List.mem_append_right _ (h)))) (lt_X2 isM_28) (at_X2 isM_28) rfl 0 (by decide) k6 (v := .int (M.1 28 0)) rfl dX4_count_76 ?_
    exact m_iret hx hb hr hlocks hM (Option.some.inj h) rfl dX4_count_79
  replace h := (if_neg c5).symm.trans h
  by_cases c6 : a1 = (5 : Int32)
  · replace h := (if_pos c6).symm.trans h
    refine lv_tableIn (off := 79) (tgt := 80) hx hb dX4_count_1 (by rw [c6]; decide) (by rw [c6]; decide) (by rw [c6]; rfl) (by decide) ?_
    refine lv_aload_n hx hb dX4_count_80 rfl (lv_at hl 0 rfl) ?_
    refine m_get hx hb hts hown hKv hM (fun _ h => List.mem_cons_of_mem _ (List.mem_append_left _ (List.mem_append_left _ (List.mem_append_left _ (List.mem_append_right _ (h)))))) (by decide) at_X4 rfl 0 (by decide) k7 (v := .ref (ad 1)) rfl dX4_count_81 ?_
    refine m_get hx hb hts hown hKv hM (fun _ h => List.mem_cons_of_mem _ (List.mem_append_right _ (h))) (by decide) at_X3 rfl 1 (by decide) k8 (v := .int (M.1 1 1)) rfl dX4_count_84 ?_
    exact m_iret hx hb hr hlocks hM (Option.some.inj h) rfl dX4_count_87
  replace h := (if_neg c6).symm.trans h
  refine lv_tableOut (tgt := 88) hx hb dX4_count_1 (by have e0 := lv_neT c1 (a := 0) rfl; have e1 := lv_neT c2 (a := 1) rfl; have e2 := lv_neT c3 (a := 2) rfl; have e3 := lv_neT c4 (a := 3) rfl; have e4 := lv_neT c5 (a := 4) rfl; have e5 := lv_neT c6 (a := 5) rfl; omega) (by decide) ?_
  refine lv_iconst (v := (-1 : Int32)) hx hb dX4_count_88 (by decide) ?_
  exact m_iret hx hb hr hlocks hM (Option.some.inj h) rfl dX4_count_89
set_option maxHeartbeats 4000000 in
set_option maxRecDepth 100000 in
theorem kX4_trace (l : Launch) (D : va_G) (cI : ClassId) (ad : Nat → Nat) {X : State → Prop} {aS : Nat → Nat} (hX0 : cX D ad aS X)  (M : Mem) (res : Int64) (h : fX4_trace M = some res) : mC l yX4_trace wsX4_trace { frames := 0, cells := 0, slots := 0, locals := 0 } D [(cI, .int)] ad 40 X [.ref (ad 0)] (Ec ad cI M) (some (.long res)) (Ec ad cI M) := by
  refine m_ofW (cc := cX4_trace) (maxL := 1) (ret := (some .long)) (by decide) rfl (Nat.le_of_ble_eq_true rfl) ?_
  intro p e s m args below meth c hx hb hml hr hlocks hts hown hKv hXs ls hl hM
  have hXk := hX0.1
  have Z : mZ p s m args meth c cX4_trace 1 (some .long) wsX4_trace RX4 D [(cI, .int)] X := ⟨hx, hb, hml, hr, hlocks, hts, hown, hKv, hXs⟩
  replace hown : s.vm.findClass RX4 = some m.cls := hown
  have hl : lv_has ls 1 [(0, .ref (ad 0))] := hl
  have k0 := hts (Cond.fieldLink RX4 46 "NoonWalker" "asked" "J") (List.mem_of_getElem? (i := 1) rfl)
  unfold fX4_trace at h
  refine lv_aload_n hx hb dX4_trace_0 rfl (lv_at hl 0 rfl) ?_
  refine m_get hx hb hts hown hKv hM (fun _ h => List.mem_cons_of_mem _ (List.mem_append_right _ (h))) (by decide) at_X4 rfl 7 (by decide) k0 (v := .long M.2) rfl dX4_trace_1 ?_
  exact m_lret hx hb hr hlocks hM (Option.some.inj h) rfl dX4_trace_4
