/-! contracts -/
set_option maxHeartbeats 4000000 in
set_option maxRecDepth 100000 in
theorem kX5_seeks (l : Launch) (D : va_G) (cI cZ : ClassId) (ad : Nat → Nat) {X : State → Prop} (hX0 : mX ad 14 X) (a1 : Int32) (M : Mem) (res : Mem) (h : fX5_seeks a1 M = some res) : mC l yX5_seeks wsX5_seeks { frames := 1, cells := 0, slots := 0, locals := 23 } D [(cI, .int), (cZ, .boolean)] ad 14 X [.ref (ad 0), .int a1] (Em ad cI cZ M) none (Em ad cI cZ res) := by
  refine m_ofW (cc := cX5_seeks) (maxL := 4) (ret := none) (by decide) rfl (Nat.le_of_ble_eq_true rfl) ?_
  intro p e s m args below meth c hx hb hml hr hlocks hts hown hKv hXs ls hl hM
  have hXk := hX0
  have Z : mZ p s m args meth c cX5_seeks 4 none wsX5_seeks RX5 D [(cI, .int), (cZ, .boolean)] X := ⟨hx, hb, hml, hr, hlocks, hts, hown, hKv, hXs⟩
  replace hown : s.vm.findClass RX5 = some m.cls := hown
  have hl : lv_has ls 4 [(0, .ref (ad 0)), (1, .int a1)] := hl
  have k0 := hts (Cond.fieldLink RX5 154 "NoonWalkerModel" "atTown" "I") (List.mem_of_getElem? (i := 1) rfl)
  have k1 := hts (Cond.fieldLink RX5 157 "NoonWalkerModel" "atRoad" "I") (List.mem_of_getElem? (i := 2) rfl)
  have k2 := hts (Cond.fieldLink RX5 160 "NoonWalkerModel" "on" "I") (List.mem_of_getElem? (i := 3) rfl)
  have k3 := hts (Cond.fieldLink RX5 163 "NoonWalkerModel" "left" "I") (List.mem_of_getElem? (i := 4) rfl)
  have k4 := hts (Cond.fieldLink RX5 31 "NoonWalkerModel" "comes" "[I") (List.mem_of_getElem? (i := 5) rfl)
  have k5 := hts (Cond.fieldLink RX5 22 "NoonWalkerModel" "rest" "[I") (List.mem_of_getElem? (i := 6) rfl)
  have k6 := hts (Cond.fieldLink RX5 19 "NoonWalkerModel" "haltAt" "[I") (List.mem_of_getElem? (i := 8) rfl)
  have k7 := hts (Cond.fieldLink RX5 137 "NoonWalkerModel" "halts" "I") (List.mem_of_getElem? (i := 7) rfl)
  have k8 := hts (Cond.fieldLink RX5 28 "NoonWalkerModel" "by" "[I") (List.mem_of_getElem? (i := 9) rfl)
  unfold fX5_seeks at h
  refine lv_aload_n hx hb dX5_seeks_0 rfl (lv_at hl 0 rfl) ?_
  refine lv_bipush (v := (-9 : Int32)) hx hb dX5_seeks_1 (by decide) ?_
  obtain ⟨M1, hM1, h⟩ := Option.bind_eq_some_iff.mp h
  refine m_put hx hb hts hown hKv hM (fun _ h => List.mem_cons_of_mem _ (List.mem_append_right _ (h))) tyX5 tyX5_ok nmX5 (by decide) at_X5 rfl 25 (by decide) k0 rfl rfl rfl (Nat.le_of_ble_eq_true rfl) (pt_X5_25 (Option.some.inj hM1)) dX5_seeks_3 (fun H locs hM => ?_)
  refine lv_aload_n hx hb dX5_seeks_6 rfl (lv_at hl 0 rfl) ?_
  refine lv_bipush (v := (-9 : Int32)) hx hb dX5_seeks_7 (by decide) ?_
  obtain ⟨M2, hM2, h⟩ := Option.bind_eq_some_iff.mp h
  refine m_put hx hb hts hown hKv hM (fun _ h => List.mem_cons_of_mem _ (List.mem_append_right _ (h))) tyX5 tyX5_ok nmX5 (by decide) at_X5 rfl 26 (by decide) k1 rfl rfl rfl (Nat.le_of_ble_eq_true rfl) (pt_X5_26 (Option.some.inj hM2)) dX5_seeks_9 (fun H locs hM => ?_)
  refine lv_aload_n hx hb dX5_seeks_12 rfl (lv_at hl 0 rfl) ?_
  refine lv_iconst (v := (0 : Int32)) hx hb dX5_seeks_13 (by decide) ?_
  obtain ⟨M3, hM3, h⟩ := Option.bind_eq_some_iff.mp h
  refine m_put hx hb hts hown hKv hM (fun _ h => List.mem_cons_of_mem _ (List.mem_append_right _ (h))) tyX5 tyX5_ok nmX5 (by decide) at_X5 rfl 27 (by decide) k2 rfl rfl rfl (Nat.le_of_ble_eq_true rfl) (pt_X5_27 (Option.some.inj hM3)) dX5_seeks_14 (fun H locs hM => ?_)
  refine lv_aload_n hx hb dX5_seeks_17 rfl (lv_at hl 0 rfl) ?_
  refine lv_bipush (v := (-9 : Int32)) hx hb dX5_seeks_18 (by decide) ?_
  obtain ⟨M4, hM4, h⟩ := Option.bind_eq_some_iff.mp h
  refine m_put hx hb hts hown hKv hM (fun _ h => List.mem_cons_of_mem _ (List.mem_append_right _ (h))) tyX5 tyX5_ok nmX5 (by decide) at_X5 rfl 28 (by decide) k3 rfl rfl rfl (Nat.le_of_ble_eq_true rfl) (pt_X5_28 (Option.some.inj hM4)) dX5_seeks_20 (fun H locs hM => ?_)
  refine lv_aload_n hx hb dX5_seeks_23 rfl (lv_at hl 0 rfl) ?_
  refine lv_iload_n hx hb dX5_seeks_24 rfl (lv_at hl 1 rfl) ?_
  obtain ⟨x5, hx5, h⟩ := Option.bind_eq_some_iff.mp h
  refine m_callV (As := [.int a1]) (st1 := [.int x5]) hx hb (hml.trans hl.1.symm) hown hts hKv hXs hXk hM (kX5_cameTo l D cI cZ ad hX0 a1 M4 _ hx5) (cwV 1 hts gX5_seeks_X5_cameTo rfl rfl rfl (by decide +kernel) ⟨Nat.le_of_ble_eq_true rfl, Nat.le_of_ble_eq_true rfl⟩) (by decide) at_X5 rfl rfl rfl rfl (Nat.le_of_ble_eq_true rfl) dX5_seeks_25 ⟨Nat.zero_le _, Nat.zero_le _⟩ (fun H locs hM => ?_)
  refine lv_iconst (v := (1 : Int32)) hx hb dX5_seeks_28 (by decide) ?_
  refine lv_isub hx hb dX5_seeks_29 ?_
  refine lv_istore_n (lv' := [(2, .int (x5 - (1 : Int32))), (0, .ref (ad 0)), (1, .int a1)]) hx hb dX5_seeks_30 rfl hl (by decide) rfl (fun ls hl => ?_)
  refine lv_iload_n hx hb dX5_seeks_31 rfl (lv_at hl 0 rfl) ?_
  refine lv_if_ge (tgt := 36) hx hb dX5_seeks_32 (by decide) (fun c6 => ?_) (fun c6 => ?_)
  · replace h := (if_pos c6).symm.trans h
    refine lv_aload_n hx hb dX5_seeks_36 rfl (lv_at hl 1 rfl) ?_
    refine m_get hx hb hts hown hKv hM (fun _ h => List.mem_cons_of_mem _ (List.mem_append_right _ (h))) (by decide) at_X5 rfl 21 (by decide) k4 (v := .ref (ad 8)) rfl dX5_seeks_37 ?_
    refine lv_iload_n hx hb dX5_seeks_40 rfl (lv_at hl 0 rfl) ?_
    obtain ⟨x7, hx7, h⟩ := Option.bind_eq_some_iff.mp h
    refine m_iald hx hb hKv hM (by decide) at_X5_8 0 rfl hx7 dX5_seeks_41 ?_
    refine lv_aload_n hx hb dX5_seeks_42 rfl (lv_at hl 1 rfl) ?_
    refine m_get hx hb hts hown hKv hM (fun _ h => List.mem_cons_of_mem _ (List.mem_append_right _ (h))) (by decide) at_X5 rfl 12 (by decide) k5 (v := .ref (ad 5)) rfl dX5_seeks_43 ?_
    refine lv_iload_n hx hb dX5_seeks_46 rfl (lv_at hl 0 rfl) ?_
    obtain ⟨x8, hx8, h⟩ := Option.bind_eq_some_iff.mp h
    refine m_iald hx hb hKv hM (by decide) at_X5_5 0 rfl hx8 dX5_seeks_47 ?_
    refine lv_iadd hx hb dX5_seeks_48 ?_
    refine lv_istore_n (lv' := [(3, .int (x7 + x8)), (2, .int (x5 - (1 : Int32))), (0, .ref (ad 0)), (1, .int a1)]) hx hb dX5_seeks_49 rfl hl (by decide) rfl (fun ls hl => ?_)
    refine lv_iload_n hx hb dX5_seeks_50 rfl (lv_at hl 3 rfl) ?_
    refine lv_iload_n hx hb dX5_seeks_51 rfl (lv_at hl 0 rfl) ?_
    refine lv_icmp_le (tgt := 65) hx hb dX5_seeks_52 (by decide) (fun c9 => ?_) (fun c9 => ?_)
    · replace h := (if_pos c9).symm.trans h
      refine lv_aload_n hx hb dX5_seeks_65 rfl (lv_at hl 2 rfl) ?_
      refine lv_aload_n hx hb dX5_seeks_66 rfl (lv_at hl 2 rfl) ?_
      refine m_get hx hb hts hown hKv hM (fun _ h => List.mem_cons_of_mem _ (List.mem_append_right _ (h))) (by decide) at_X5 rfl 11 (by decide) k6 (v := .ref (ad 4)) rfl dX5_seeks_67 ?_
      refine lv_iload_n hx hb dX5_seeks_70 rfl (lv_at hl 1 rfl) ?_
      obtain ⟨x10, hx10, h⟩ := Option.bind_eq_some_iff.mp h
      refine m_iald hx hb hKv hM (by decide) at_X5_4 0 rfl hx10 dX5_seeks_71 ?_
      obtain ⟨M11, hM11, h⟩ := Option.bind_eq_some_iff.mp h
      refine m_put hx hb hts hown hKv hM (fun _ h => List.mem_cons_of_mem _ (List.mem_append_right _ (h))) tyX5 tyX5_ok nmX5 (by decide) at_X5 rfl 25 (by decide) k0 rfl rfl rfl (Nat.le_of_ble_eq_true rfl) (pt_X5_25 (Option.some.inj hM11)) dX5_seeks_72 (fun H locs hM => ?_)
      refine lv_goto (tgt := 107) hx hb dX5_seeks_75 (by decide) ?_
      exact m_vret hx hb hr hlocks hM (congrArg (a₁ := M11) (fun z => Em ad cI cZ z) (Option.some.inj h)) dX5_seeks_107
    · replace h := (if_neg c9).symm.trans h
      refine lv_iload_n hx hb dX5_seeks_55 rfl (lv_at hl 1 rfl) ?_
      refine lv_aload_n hx hb dX5_seeks_56 rfl (lv_at hl 2 rfl) ?_
      refine m_get hx hb hts hown hKv hM (fun _ h => List.mem_cons_of_mem _ (List.mem_append_right _ (h))) (by decide) at_X5 rfl 15 (by decide) k7 (v := .int (M4.1 0 15)) rfl dX5_seeks_57 ?_
      refine lv_iconst (v := (1 : Int32)) hx hb dX5_seeks_60 (by decide) ?_
      refine lv_isub hx hb dX5_seeks_61 ?_
      refine lv_icmp_ne (tgt := 78) hx hb dX5_seeks_62 (by decide) (fun c12 => ?_) (fun c12 => ?_)
      · replace h := (if_neg c12).symm.trans h
        refine lv_aload_n hx hb dX5_seeks_78 rfl (lv_at hl 2 rfl) ?_
        refine lv_aload_n hx hb dX5_seeks_79 rfl (lv_at hl 2 rfl) ?_
        refine m_get hx hb hts hown hKv hM (fun _ h => List.mem_cons_of_mem _ (List.mem_append_right _ (h))) (by decide) at_X5 rfl 20 (by decide) k8 (v := .ref (ad 7)) rfl dX5_seeks_80 ?_
        refine lv_iload_n hx hb dX5_seeks_83 rfl (lv_at hl 1 rfl) ?_
        refine lv_iconst (v := (1 : Int32)) hx hb dX5_seeks_84 (by decide) ?_
        refine lv_iadd hx hb dX5_seeks_85 ?_
        obtain ⟨x13, hx13, h⟩ := Option.bind_eq_some_iff.mp h
        refine m_iald hx hb hKv hM (by decide) at_X5_7 0 rfl hx13 dX5_seeks_86 ?_
        obtain ⟨M14, hM14, h⟩ := Option.bind_eq_some_iff.mp h
        refine m_put hx hb hts hown hKv hM (fun _ h => List.mem_cons_of_mem _ (List.mem_append_right _ (h))) tyX5 tyX5_ok nmX5 (by decide) at_X5 rfl 26 (by decide) k1 rfl rfl rfl (Nat.le_of_ble_eq_true rfl) (pt_X5_26 (Option.some.inj hM14)) dX5_seeks_87 (fun H locs hM => ?_)
        refine lv_aload_n hx hb dX5_seeks_90 rfl (lv_at hl 2 rfl) ?_
        refine lv_iload_n hx hb dX5_seeks_91 rfl (lv_at hl 3 rfl) ?_
        refine lv_iload_n hx hb dX5_seeks_92 rfl (lv_at hl 0 rfl) ?_
        refine lv_isub hx hb dX5_seeks_93 ?_
        obtain ⟨M15, hM15, h⟩ := Option.bind_eq_some_iff.mp h
        refine m_put hx hb hts hown hKv hM (fun _ h => List.mem_cons_of_mem _ (List.mem_append_right _ (h))) tyX5 tyX5_ok nmX5 (by decide) at_X5 rfl 27 (by decide) k2 rfl rfl rfl (Nat.le_of_ble_eq_true rfl) (pt_X5_27 (Option.some.inj hM15)) dX5_seeks_94 (fun H locs hM => ?_)
        refine lv_aload_n hx hb dX5_seeks_97 rfl (lv_at hl 2 rfl) ?_
        refine lv_aload_n hx hb dX5_seeks_98 rfl (lv_at hl 2 rfl) ?_
        refine m_get hx hb hts hown hKv hM (fun _ h => List.mem_cons_of_mem _ (List.mem_append_right _ (h))) (by decide) at_X5 rfl 11 (by decide) k6 (v := .ref (ad 4)) rfl dX5_seeks_99 ?_
        refine lv_iload_n hx hb dX5_seeks_102 rfl (lv_at hl 1 rfl) ?_
        obtain ⟨x16, hx16, h⟩ := Option.bind_eq_some_iff.mp h
        refine m_iald hx hb hKv hM (by decide) at_X5_4 0 rfl hx16 dX5_seeks_103 ?_
        obtain ⟨M17, hM17, h⟩ := Option.bind_eq_some_iff.mp h
        refine m_put hx hb hts hown hKv hM (fun _ h => List.mem_cons_of_mem _ (List.mem_append_right _ (h))) tyX5 tyX5_ok nmX5 (by decide) at_X5 rfl 28 (by decide) k3 rfl rfl rfl (Nat.le_of_ble_eq_true rfl) (pt_X5_28 (Option.some.inj hM17)) dX5_seeks_104 (fun H locs hM => ?_)
        exact m_vret hx hb hr hlocks hM (congrArg (a₁ := M17) (fun z => Em ad cI cZ z) (Option.some.inj h)) dX5_seeks_107
      · replace h := (if_pos c12).symm.trans h
        refine lv_aload_n hx hb dX5_seeks_65 rfl (lv_at hl 2 rfl) ?_
        refine lv_aload_n hx hb dX5_seeks_66 rfl (lv_at hl 2 rfl) ?_
        refine m_get hx hb hts hown hKv hM (fun _ h => List.mem_cons_of_mem _ (List.mem_append_right _ (h))) (by decide) at_X5 rfl 11 (by decide) k6 (v := .ref (ad 4)) rfl dX5_seeks_67 ?_
        refine lv_iload_n hx hb dX5_seeks_70 rfl (lv_at hl 1 rfl) ?_
        obtain ⟨x18, hx18, h⟩ := Option.bind_eq_some_iff.mp h
        refine m_iald hx hb hKv hM (by decide) at_X5_4 0 rfl hx18 dX5_seeks_71 ?_
        obtain ⟨M19, hM19, h⟩ := Option.bind_eq_some_iff.mp h
        refine m_put hx hb hts hown hKv hM (fun _ h => List.mem_cons_of_mem _ (List.mem_append_right _ (h))) tyX5 tyX5_ok nmX5 (by decide) at_X5 rfl 25 (by decide) k0 rfl rfl rfl (Nat.le_of_ble_eq_true rfl) (pt_X5_25 (Option.some.inj hM19)) dX5_seeks_72 (fun H locs hM => ?_)
        refine lv_goto (tgt := 107) hx hb dX5_seeks_75 (by decide) ?_
        exact m_vret hx hb hr hlocks hM (congrArg (a₁ := M19) (fun z => Em ad cI cZ z) (Option.some.inj h)) dX5_seeks_107
  · replace h := (if_neg c6).symm.trans h
    exact m_vret hx hb hr hlocks hM (congrArg (a₁ := M4) (fun z => Em ad cI cZ z) (Option.some.inj h)) dX5_seeks_35
set_option maxHeartbeats 4000000 in
set_option maxRecDepth 100000 in
theorem kX5_where (l : Launch) (D : va_G) (cI cZ : ClassId) (ad : Nat → Nat) {X : State → Prop} (hX0 : mX ad 14 X) (a1 : Int32) (a2 : Int32) (M : Mem) (res : (Int32 × Mem)) (h : fX5_where a1 a2 M = some res) : mC l yX5_where wsX5_where { frames := 2, cells := 0, slots := 0, locals := 46 } D [(cI, .int), (cZ, .boolean)] ad 14 X [.ref (ad 0), .int a1, .int a2] (Em ad cI cZ M) (some (.int res.1)) (Em ad cI cZ res.2) := by
  refine m_ofW (cc := cX5_where) (maxL := 3) (ret := (some .int)) (by decide) rfl (Nat.le_of_ble_eq_true rfl) ?_
  intro p e s m args below meth c hx hb hml hr hlocks hts hown hKv hXs ls hl hM
  have hXk := hX0
  have Z : mZ p s m args meth c cX5_where 3 (some .int) wsX5_where RX5 D [(cI, .int), (cZ, .boolean)] X := ⟨hx, hb, hml, hr, hlocks, hts, hown, hKv, hXs⟩
  replace hown : s.vm.findClass RX5 = some m.cls := hown
  have hl : lv_has ls 3 [(0, .ref (ad 0)), (1, .int a1), (2, .int a2)] := hl
  have k0 := hts (Cond.fieldLink RX5 53 "NoonWalkerModel" "thrown" "I") (List.mem_of_getElem? (i := 1) rfl)
  have k1 := hts (Cond.fieldLink RX5 160 "NoonWalkerModel" "on" "I") (List.mem_of_getElem? (i := 4) rfl)
  have k2 := hts (Cond.fieldLink RX5 157 "NoonWalkerModel" "atRoad" "I") (List.mem_of_getElem? (i := 3) rfl)
  have k3 := hts (Cond.fieldLink RX5 154 "NoonWalkerModel" "atTown" "I") (List.mem_of_getElem? (i := 2) rfl)
  unfold fX5_where at h
  refine lv_aload_n hx hb dX5_where_0 rfl (lv_at hl 0 rfl) ?_
  refine lv_iconst (v := (0 : Int32)) hx hb dX5_where_1 (by decide) ?_
  obtain ⟨M1, hM1, h⟩ := Option.bind_eq_some_iff.mp h
  refine m_put hx hb hts hown hKv hM (fun _ h => List.mem_cons_of_mem _ (List.mem_append_right _ (h))) tyX5 tyX5_ok nmX5 (by decide) at_X5 rfl 0 (by decide) k0 rfl rfl rfl (Nat.le_of_ble_eq_true rfl) (pt_X5_0 (Option.some.inj hM1)) dX5_where_2 (fun H locs hM => ?_)
  refine lv_iload_n hx hb dX5_where_5 rfl (lv_at hl 1 rfl) ?_
  obtain ⟨x2, hx2, h⟩ := Option.bind_eq_some_iff.mp h
  refine m_callS (As := [.int a1]) (st1 := [.int x2]) hx hb (hml.trans hl.1.symm) hown hts hKv hXs hXk hM (kX5_isHour l D cI cZ ad hX0 a1 M1 _ hx2) (va_cwS 1 hts gX5_where_X5_isHour rfl rfl rfl (by decide +kernel) ⟨Nat.le_of_ble_eq_true rfl, Nat.le_of_ble_eq_true rfl⟩) rfl rfl rfl (Nat.le_of_ble_eq_true rfl) dX5_where_6 ⟨Nat.zero_le _, Nat.zero_le _⟩ (fun H locs hM => ?_)
  refine lv_if_eq (tgt := 21) hx hb dX5_where_9 (by decide) (fun c3 => ?_) (fun c3 => ?_)
  · replace h := (if_pos c3).symm.trans h
    refine lv_iconst (v := (-1 : Int32)) hx hb dX5_where_21 (by decide) ?_
    exact m_iret hx hb hr hlocks hM (congrArg (a₁ := ((-1 : Int32), M1)) Prod.fst (Option.some.inj h)) (congrArg (a₁ := ((-1 : Int32), M1)) (fun z => Em ad cI cZ z.2) (Option.some.inj h)) dX5_where_22
  · replace h := (if_neg c3).symm.trans h
    refine lv_iload_n hx hb dX5_where_12 rfl (lv_at hl 2 rfl) ?_
    refine lv_iconst (v := (0 : Int32)) hx hb dX5_where_13 (by decide) ?_
    refine lv_iconst (v := (3 : Int32)) hx hb dX5_where_14 (by decide) ?_
    obtain ⟨x4, hx4, h⟩ := Option.bind_eq_some_iff.mp h
    refine m_callS (As := [.int a2, .int (0 : Int32), .int (3 : Int32)]) (st1 := [.int x4]) hx hb (hml.trans hl.1.symm) hown hts hKv hXs hXk hM (kX5_in l D cI cZ ad hX0 a2 (0 : Int32) (3 : Int32) M1 _ hx4) (va_cwS 3 hts gX5_where_X5_in rfl rfl rfl (by decide +kernel) ⟨Nat.le_of_ble_eq_true rfl, Nat.le_of_ble_eq_true rfl⟩) rfl rfl rfl (Nat.le_of_ble_eq_true rfl) dX5_where_15 ⟨Nat.zero_le _, Nat.zero_le _⟩ (fun H locs hM => ?_)
    refine lv_if_ne (tgt := 23) hx hb dX5_where_18 (by decide) (fun c5 => ?_) (fun c5 => ?_)
    · replace h := (if_neg c5).symm.trans h
      refine lv_aload_n hx hb dX5_where_23 rfl (lv_at hl 0 rfl) ?_
      refine lv_iload_n hx hb dX5_where_24 rfl (lv_at hl 1 rfl) ?_
      obtain ⟨x6, hx6, h⟩ := Option.bind_eq_some_iff.mp h
      refine m_callV (As := [.int a1]) (st1 := []) hx hb (hml.trans hl.1.symm) hown hts hKv hXs hXk hM (kX5_seeks l D cI cZ ad hX0 a1 M1 _ hx6) (cwV 1 hts gX5_where_X5_seeks rfl rfl rfl (by decide +kernel) ⟨Nat.le_of_ble_eq_true rfl, Nat.le_of_ble_eq_true rfl⟩) (by decide) at_X5 rfl rfl rfl rfl (Nat.le_of_ble_eq_true rfl) dX5_where_25 ⟨Nat.zero_le _, Nat.zero_le _⟩ (fun H locs hM => ?_)
      refine lv_iload_n hx hb dX5_where_28 rfl (lv_at hl 2 rfl) ?_
      refine lv_if_ne (tgt := 39) hx hb dX5_where_29 (by decide) (fun c7 => ?_) (fun c7 => ?_)
      · replace h := (if_neg c7).symm.trans h
        refine lv_iload_n hx hb dX5_where_39 rfl (lv_at hl 2 rfl) ?_
        refine lv_iconst (v := (1 : Int32)) hx hb dX5_where_40 (by decide) ?_
        refine lv_icmp_ne (tgt := 51) hx hb dX5_where_41 (by decide) (fun c8 => ?_) (fun c8 => ?_)
        · replace h := (if_neg c8).symm.trans h
          refine lv_iload_n hx hb dX5_where_51 rfl (lv_at hl 2 rfl) ?_
          refine lv_iconst (v := (2 : Int32)) hx hb dX5_where_52 (by decide) ?_
          refine lv_icmp_ne (tgt := 63) hx hb dX5_where_53 (by decide) (fun c9 => ?_) (fun c9 => ?_)
          · replace h := (if_neg c9).symm.trans h
            refine lv_aload_n hx hb dX5_where_63 rfl (lv_at hl 0 rfl) ?_
            refine lv_iload_n hx hb dX5_where_64 rfl (lv_at hl 1 rfl) ?_
            obtain ⟨x10, hx10, h⟩ := Option.bind_eq_some_iff.mp h
            refine m_callV (As := [.int a1]) (st1 := [.int x10]) hx hb (hml.trans hl.1.symm) hown hts hKv hXs hXk hM (kX5_cameTo l D cI cZ ad hX0 a1 x6 _ hx10) (cwV 1 hts gX5_where_X5_cameTo rfl rfl rfl (by decide +kernel) ⟨Nat.le_of_ble_eq_true rfl, Nat.le_of_ble_eq_true rfl⟩) (by decide) at_X5 rfl rfl rfl rfl (Nat.le_of_ble_eq_true rfl) dX5_where_65 ⟨Nat.zero_le _, Nat.zero_le _⟩ (fun H locs hM => ?_)
            exact m_iret hx hb hr hlocks hM (congrArg (a₁ := (x10, x6)) Prod.fst (Option.some.inj h)) (congrArg (a₁ := (x10, x6)) (fun z => Em ad cI cZ z.2) (Option.some.inj h)) dX5_where_68
          · replace h := (if_pos c9).symm.trans h
            refine lv_aload_n hx hb dX5_where_56 rfl (lv_at hl 0 rfl) ?_
            refine m_get hx hb hts hown hKv hM (fun _ h => List.mem_cons_of_mem _ (List.mem_append_right _ (h))) (by decide) at_X5 rfl 27 (by decide) k1 (v := .int (x6.1 0 27)) rfl dX5_where_57 ?_
            refine lv_goto (tgt := 68) hx hb dX5_where_60 (by decide) ?_
            exact m_iret hx hb hr hlocks hM (congrArg (a₁ := ((x6.1 0 27), x6)) Prod.fst (Option.some.inj h)) (congrArg (a₁ := ((x6.1 0 27), x6)) (fun z => Em ad cI cZ z.2) (Option.some.inj h)) dX5_where_68
        · replace h := (if_pos c8).symm.trans h
          refine lv_aload_n hx hb dX5_where_44 rfl (lv_at hl 0 rfl) ?_
          refine m_get hx hb hts hown hKv hM (fun _ h => List.mem_cons_of_mem _ (List.mem_append_right _ (h))) (by decide) at_X5 rfl 26 (by decide) k2 (v := .int (x6.1 0 26)) rfl dX5_where_45 ?_
          refine lv_goto (tgt := 68) hx hb dX5_where_48 (by decide) ?_
          exact m_iret hx hb hr hlocks hM (congrArg (a₁ := ((x6.1 0 26), x6)) Prod.fst (Option.some.inj h)) (congrArg (a₁ := ((x6.1 0 26), x6)) (fun z => Em ad cI cZ z.2) (Option.some.inj h)) dX5_where_68
      · replace h := (if_pos c7).symm.trans h
        refine lv_aload_n hx hb dX5_where_32 rfl (lv_at hl 0 rfl) ?_
        refine m_get hx hb hts hown hKv hM (fun _ h => List.mem_cons_of_mem _ (List.mem_append_right _ (h))) (by decide) at_X5 rfl 25 (by decide) k3 (v := .int (x6.1 0 25)) rfl dX5_where_33 ?_
        refine lv_goto (tgt := 68) hx hb dX5_where_36 (by decide) ?_
        exact m_iret hx hb hr hlocks hM (congrArg (a₁ := ((x6.1 0 25), x6)) Prod.fst (Option.some.inj h)) (congrArg (a₁ := ((x6.1 0 25), x6)) (fun z => Em ad cI cZ z.2) (Option.some.inj h)) dX5_where_68
    · replace h := (if_pos c5).symm.trans h
      refine lv_iconst (v := (-1 : Int32)) hx hb dX5_where_21 (by decide) ?_
      exact m_iret hx hb hr hlocks hM (congrArg (a₁ := ((-1 : Int32), M1)) Prod.fst (Option.some.inj h)) (congrArg (a₁ := ((-1 : Int32), M1)) (fun z => Em ad cI cZ z.2) (Option.some.inj h)) dX5_where_22
set_option maxHeartbeats 4000000 in
set_option maxRecDepth 100000 in
theorem kX5_farOn (l : Launch) (D : va_G) (cI cZ : ClassId) (ad : Nat → Nat) {X : State → Prop} (hX0 : mX ad 14 X) (a1 : Int32) (a2 : Int32) (a3 : Int32) (a4 : Int32) (M : Mem) (res : Int32) (h : fX5_farOn a1 a2 a3 a4 M = some res) : mC l yX5_farOn wsX5_farOn { frames := 1, cells := 0, slots := 0, locals := 22 } D [(cI, .int), (cZ, .boolean)] ad 14 X [.ref (ad 0), .int a1, .int a2, .int a3, .int a4] (Em ad cI cZ M) (some (.int res)) (Em ad cI cZ M) := by
  refine m_ofW (cc := cX5_farOn) (maxL := 9) (ret := (some .int)) (by decide) rfl (Nat.le_of_ble_eq_true rfl) ?_
  intro p e s m args below meth c hx hb hml hr hlocks hts hown hKv hXs ls hl hM
  have hXk := hX0
  have Z : mZ p s m args meth c cX5_farOn 9 (some .int) wsX5_farOn RX5 D [(cI, .int), (cZ, .boolean)] X := ⟨hx, hb, hml, hr, hlocks, hts, hown, hKv, hXs⟩
  replace hown : s.vm.findClass RX5 = some m.cls := hown
  have hl : lv_has ls 9 [(0, .ref (ad 0)), (1, .int a1), (2, .int a2), (3, .int a3), (4, .int a4)] := hl
  have k0 := hts (Cond.fieldLink RX5 16 "NoonWalkerModel" "road" "[I") (List.mem_of_getElem? (i := 1) rfl)
  unfold fX5_farOn at h
  refine lv_iload hx hb dX5_farOn_0 (lv_at hl 4 rfl) ?_
  refine lv_istore (lv' := [(5, .int a4), (0, .ref (ad 0)), (1, .int a1), (2, .int a2), (3, .int a3), (4, .int a4)]) hx hb dX5_farOn_2 hl (by decide) rfl (fun ls hl => ?_)
  refine lv_aload_n hx hb dX5_farOn_4 rfl (lv_at hl 1 rfl) ?_
  refine m_get hx hb hts hown hKv hM (fun _ h => List.mem_cons_of_mem _ (List.mem_append_right _ (h))) (by decide) at_X5 rfl 10 (by decide) k0 (v := .ref (ad 3)) rfl dX5_farOn_5 ?_
  refine lv_iconst (v := (3 : Int32)) hx hb dX5_farOn_8 (by decide) ?_
  refine lv_iload_n hx hb dX5_farOn_9 rfl (lv_at hl 3 rfl) ?_
  refine lv_imul hx hb dX5_farOn_10 ?_
  obtain ⟨x1, hx1, h⟩ := Option.bind_eq_some_iff.mp h
  refine m_iald hx hb hKv hM (by decide) at_X5_3 0 rfl hx1 dX5_farOn_11 ?_
  refine lv_iload hx hb dX5_farOn_12 (lv_at hl 5 rfl) ?_
  refine lv_icmp_ne (tgt := 30) hx hb dX5_farOn_14 (by decide) (fun c2 => ?_) (fun c2 => ?_)
  · replace h := (if_neg c2).symm.trans h
    refine lv_aload_n hx hb dX5_farOn_30 rfl (lv_at hl 1 rfl) ?_
    refine m_get hx hb hts hown hKv hM (fun _ h => List.mem_cons_of_mem _ (List.mem_append_right _ (h))) (by decide) at_X5 rfl 10 (by decide) k0 (v := .ref (ad 3)) rfl dX5_farOn_31 ?_
    refine lv_iconst (v := (3 : Int32)) hx hb dX5_farOn_34 (by decide) ?_
    refine lv_iload_n hx hb dX5_farOn_35 rfl (lv_at hl 3 rfl) ?_
    refine lv_imul hx hb dX5_farOn_36 ?_
    obtain ⟨x3, hx3, h⟩ := Option.bind_eq_some_iff.mp h
    refine m_iald hx hb hKv hM (by decide) at_X5_3 0 rfl hx3 dX5_farOn_37 ?_
    refine lv_istore (lv' := [(6, .int x3), (5, .int a4), (0, .ref (ad 0)), (1, .int a1), (2, .int a2), (3, .int a3), (4, .int a4)]) hx hb dX5_farOn_38 hl (by decide) rfl (fun ls hl => ?_)
    refine lv_aload_n hx hb dX5_farOn_40 rfl (lv_at hl 2 rfl) ?_
    refine lv_iload_n hx hb dX5_farOn_41 rfl (lv_at hl 3 rfl) ?_
    refine lv_iload hx hb dX5_farOn_42 (lv_at hl 1 rfl) ?_
    obtain ⟨x4, hx4, h⟩ := Option.bind_eq_some_iff.mp h
    refine m_callV (As := [.int a1, .int a4]) (st1 := [.int x4]) hx hb (hml.trans hl.1.symm) hown hts hKv hXs hXk hM (kX5_farOf l D cI cZ ad hX0 a1 a4 M _ hx4) (cwV 2 hts gX5_farOn_X5_farOf rfl rfl rfl (by decide +kernel) ⟨Nat.le_of_ble_eq_true rfl, Nat.le_of_ble_eq_true rfl⟩) (by decide) at_X5 rfl rfl rfl rfl (Nat.le_of_ble_eq_true rfl) dX5_farOn_44 ⟨Nat.zero_le _, Nat.zero_le _⟩ (fun H locs hM => ?_)
    refine lv_istore (lv' := [(7, .int x4), (6, .int x3), (5, .int a4), (0, .ref (ad 0)), (1, .int a1), (2, .int a2), (3, .int a3), (4, .int a4)]) hx hb dX5_farOn_47 hl (by decide) rfl (fun ls hl => ?_)
    refine lv_aload_n hx hb dX5_farOn_49 rfl (lv_at hl 3 rfl) ?_
    refine lv_iload_n hx hb dX5_farOn_50 rfl (lv_at hl 4 rfl) ?_
    refine lv_iload hx hb dX5_farOn_51 (lv_at hl 1 rfl) ?_
    obtain ⟨x5, hx5, h⟩ := Option.bind_eq_some_iff.mp h
    refine m_callV (As := [.int a1, .int x3]) (st1 := [.int x5]) hx hb (hml.trans hl.1.symm) hown hts hKv hXs hXk hM (kX5_farOf l D cI cZ ad hX0 a1 x3 M _ hx5) (cwV 2 hts gX5_farOn_X5_farOf rfl rfl rfl (by decide +kernel) ⟨Nat.le_of_ble_eq_true rfl, Nat.le_of_ble_eq_true rfl⟩) (by decide) at_X5 rfl rfl rfl rfl (Nat.le_of_ble_eq_true rfl) dX5_farOn_53 ⟨Nat.zero_le _, Nat.zero_le _⟩ (fun H locs hM => ?_)
    refine lv_istore (lv' := [(8, .int x5), (7, .int x4), (6, .int x3), (5, .int a4), (0, .ref (ad 0)), (1, .int a1), (2, .int a2), (3, .int a3), (4, .int a4)]) hx hb dX5_farOn_56 hl (by decide) rfl (fun ls hl => ?_)
    refine lv_iload hx hb dX5_farOn_58 (lv_at hl 1 rfl) ?_
    refine lv_bipush (v := (-9 : Int32)) hx hb dX5_farOn_60 (by decide) ?_
    refine lv_icmp_ne (tgt := 70) hx hb dX5_farOn_62 (by decide) (fun c6 => ?_) (fun c6 => ?_)
    · replace h := (if_neg c6).symm.trans h
      refine lv_iload hx hb dX5_farOn_70 (lv_at hl 1 rfl) ?_
      refine lv_iload_n hx hb dX5_farOn_72 rfl (lv_at hl 7 rfl) ?_
      refine lv_iadd hx hb dX5_farOn_73 ?_
      refine lv_iload hx hb dX5_farOn_74 (lv_at hl 0 rfl) ?_
      refine lv_aload_n hx hb dX5_farOn_76 rfl (lv_at hl 4 rfl) ?_
      refine m_get hx hb hts hown hKv hM (fun _ h => List.mem_cons_of_mem _ (List.mem_append_right _ (h))) (by decide) at_X5 rfl 10 (by decide) k0 (v := .ref (ad 3)) rfl dX5_farOn_77 ?_
      refine lv_iconst (v := (3 : Int32)) hx hb dX5_farOn_80 (by decide) ?_
      refine lv_iload_n hx hb dX5_farOn_81 rfl (lv_at hl 6 rfl) ?_
      refine lv_imul hx hb dX5_farOn_82 ?_
      refine lv_iconst (v := (2 : Int32)) hx hb dX5_farOn_83 (by decide) ?_
      refine lv_iadd hx hb dX5_farOn_84 ?_
      obtain ⟨x7, hx7, h⟩ := Option.bind_eq_some_iff.mp h
      refine m_iald hx hb hKv hM (by decide) at_X5_3 0 rfl hx7 dX5_farOn_85 ?_
      refine lv_iadd hx hb dX5_farOn_86 ?_
      refine lv_iload_n hx hb dX5_farOn_87 rfl (lv_at hl 7 rfl) ?_
      refine lv_isub hx hb dX5_farOn_88 ?_
      obtain ⟨x8, hx8, h⟩ := Option.bind_eq_some_iff.mp h
      refine m_callS (As := [.int (x4 + a3), .int ((x5 + x7) - a3)]) (st1 := [.int x8]) hx hb (hml.trans hl.1.symm) hown hts hKv hXs hXk hM (kX5_lesser l D cI cZ ad hX0 (x4 + a3) ((x5 + x7) - a3) M _ hx8) (va_cwS 2 hts gX5_farOn_X5_lesser rfl rfl rfl (by decide +kernel) ⟨Nat.le_of_ble_eq_true rfl, Nat.le_of_ble_eq_true rfl⟩) rfl rfl rfl (Nat.le_of_ble_eq_true rfl) dX5_farOn_89 ⟨Nat.zero_le _, Nat.zero_le _⟩ (fun H locs hM => ?_)
      exact m_iret hx hb hr hlocks hM (Option.some.inj h) rfl dX5_farOn_92
    · replace h := (if_pos c6).symm.trans h
      refine lv_bipush (v := (-9 : Int32)) hx hb dX5_farOn_65 (by decide) ?_
      refine lv_goto (tgt := 92) hx hb dX5_farOn_67 (by decide) ?_
      exact m_iret hx hb hr hlocks hM (Option.some.inj h) rfl dX5_farOn_92
  · replace h := (if_pos c2).symm.trans h
    refine lv_aload_n hx hb dX5_farOn_17 rfl (lv_at hl 1 rfl) ?_
    refine m_get hx hb hts hown hKv hM (fun _ h => List.mem_cons_of_mem _ (List.mem_append_right _ (h))) (by decide) at_X5 rfl 10 (by decide) k0 (v := .ref (ad 3)) rfl dX5_farOn_18 ?_
    refine lv_iconst (v := (3 : Int32)) hx hb dX5_farOn_21 (by decide) ?_
    refine lv_iload_n hx hb dX5_farOn_22 rfl (lv_at hl 3 rfl) ?_
    refine lv_imul hx hb dX5_farOn_23 ?_
    refine lv_iconst (v := (1 : Int32)) hx hb dX5_farOn_24 (by decide) ?_
    refine lv_iadd hx hb dX5_farOn_25 ?_
    obtain ⟨x9, hx9, h⟩ := Option.bind_eq_some_iff.mp h
    refine m_iald hx hb hKv hM (by decide) at_X5_3 0 rfl hx9 dX5_farOn_26 ?_
    refine lv_goto (tgt := 38) hx hb dX5_farOn_27 (by decide) ?_
    refine lv_istore (lv' := [(6, .int x9), (5, .int a4), (0, .ref (ad 0)), (1, .int a1), (2, .int a2), (3, .int a3), (4, .int a4)]) hx hb dX5_farOn_38 hl (by decide) rfl (fun ls hl => ?_)
    refine lv_aload_n hx hb dX5_farOn_40 rfl (lv_at hl 2 rfl) ?_
    refine lv_iload_n hx hb dX5_farOn_41 rfl (lv_at hl 3 rfl) ?_
    refine lv_iload hx hb dX5_farOn_42 (lv_at hl 1 rfl) ?_
    obtain ⟨x10, hx10, h⟩ := Option.bind_eq_some_iff.mp h
    refine m_callV (As := [.int a1, .int a4]) (st1 := [.int x10]) hx hb (hml.trans hl.1.symm) hown hts hKv hXs hXk hM (kX5_farOf l D cI cZ ad hX0 a1 a4 M _ hx10) (cwV 2 hts gX5_farOn_X5_farOf rfl rfl rfl (by decide +kernel) ⟨Nat.le_of_ble_eq_true rfl, Nat.le_of_ble_eq_true rfl⟩) (by decide) at_X5 rfl rfl rfl rfl (Nat.le_of_ble_eq_true rfl) dX5_farOn_44 ⟨Nat.zero_le _, Nat.zero_le _⟩ (fun H locs hM => ?_)
    refine lv_istore (lv' := [(7, .int x10), (6, .int x9), (5, .int a4), (0, .ref (ad 0)), (1, .int a1), (2, .int a2), (3, .int a3), (4, .int a4)]) hx hb dX5_farOn_47 hl (by decide) rfl (fun ls hl => ?_)
    refine lv_aload_n hx hb dX5_farOn_49 rfl (lv_at hl 3 rfl) ?_
    refine lv_iload_n hx hb dX5_farOn_50 rfl (lv_at hl 4 rfl) ?_
    refine lv_iload hx hb dX5_farOn_51 (lv_at hl 1 rfl) ?_
    obtain ⟨x11, hx11, h⟩ := Option.bind_eq_some_iff.mp h
    refine m_callV (As := [.int a1, .int x9]) (st1 := [.int x11]) hx hb (hml.trans hl.1.symm) hown hts hKv hXs hXk hM (kX5_farOf l D cI cZ ad hX0 a1 x9 M _ hx11) (cwV 2 hts gX5_farOn_X5_farOf rfl rfl rfl (by decide +kernel) ⟨Nat.le_of_ble_eq_true rfl, Nat.le_of_ble_eq_true rfl⟩) (by decide) at_X5 rfl rfl rfl rfl (Nat.le_of_ble_eq_true rfl) dX5_farOn_53 ⟨Nat.zero_le _, Nat.zero_le _⟩ (fun H locs hM => ?_)
    refine lv_istore (lv' := [(8, .int x11), (7, .int x10), (6, .int x9), (5, .int a4), (0, .ref (ad 0)), (1, .int a1), (2, .int a2), (3, .int a3), (4, .int a4)]) hx hb dX5_farOn_56 hl (by decide) rfl (fun ls hl => ?_)
    refine lv_iload hx hb dX5_farOn_58 (lv_at hl 1 rfl) ?_
    refine lv_bipush (v := (-9 : Int32)) hx hb dX5_farOn_60 (by decide) ?_
    refine lv_icmp_ne (tgt := 70) hx hb dX5_farOn_62 (by decide) (fun c12 => ?_) (fun c12 => ?_)
    · replace h := (if_neg c12).symm.trans h
      refine lv_iload hx hb dX5_farOn_70 (lv_at hl 1 rfl) ?_
      refine lv_iload_n hx hb dX5_farOn_72 rfl (lv_at hl 7 rfl) ?_
      refine lv_iadd hx hb dX5_farOn_73 ?_
      refine lv_iload hx hb dX5_farOn_74 (lv_at hl 0 rfl) ?_
      refine lv_aload_n hx hb dX5_farOn_76 rfl (lv_at hl 4 rfl) ?_
      refine m_get hx hb hts hown hKv hM (fun _ h => List.mem_cons_of_mem _ (List.mem_append_right _ (h))) (by decide) at_X5 rfl 10 (by decide) k0 (v := .ref (ad 3)) rfl dX5_farOn_77 ?_
      refine lv_iconst (v := (3 : Int32)) hx hb dX5_farOn_80 (by decide) ?_
      refine lv_iload_n hx hb dX5_farOn_81 rfl (lv_at hl 6 rfl) ?_
      refine lv_imul hx hb dX5_farOn_82 ?_
      refine lv_iconst (v := (2 : Int32)) hx hb dX5_farOn_83 (by decide) ?_
      refine lv_iadd hx hb dX5_farOn_84 ?_
      obtain ⟨x13, hx13, h⟩ := Option.bind_eq_some_iff.mp h
      refine m_iald hx hb hKv hM (by decide) at_X5_3 0 rfl hx13 dX5_farOn_85 ?_
      refine lv_iadd hx hb dX5_farOn_86 ?_
      refine lv_iload_n hx hb dX5_farOn_87 rfl (lv_at hl 7 rfl) ?_
      refine lv_isub hx hb dX5_farOn_88 ?_
      obtain ⟨x14, hx14, h⟩ := Option.bind_eq_some_iff.mp h
      refine m_callS (As := [.int (x10 + a3), .int ((x11 + x13) - a3)]) (st1 := [.int x14]) hx hb (hml.trans hl.1.symm) hown hts hKv hXs hXk hM (kX5_lesser l D cI cZ ad hX0 (x10 + a3) ((x11 + x13) - a3) M _ hx14) (va_cwS 2 hts gX5_farOn_X5_lesser rfl rfl rfl (by decide +kernel) ⟨Nat.le_of_ble_eq_true rfl, Nat.le_of_ble_eq_true rfl⟩) rfl rfl rfl (Nat.le_of_ble_eq_true rfl) dX5_farOn_89 ⟨Nat.zero_le _, Nat.zero_le _⟩ (fun H locs hM => ?_)
      exact m_iret hx hb hr hlocks hM (Option.some.inj h) rfl dX5_farOn_92
    · replace h := (if_pos c12).symm.trans h
      refine lv_bipush (v := (-9 : Int32)) hx hb dX5_farOn_65 (by decide) ?_
      refine lv_goto (tgt := 92) hx hb dX5_farOn_67 (by decide) ?_
      exact m_iret hx hb hr hlocks hM (Option.some.inj h) rfl dX5_farOn_92
set_option maxHeartbeats 4000000 in
set_option maxRecDepth 100000 in
theorem kX5_offIn (l : Launch) (D : va_G) (cI cZ : ClassId) (ad : Nat → Nat) {X : State → Prop} (hX0 : mX ad 14 X) (a1 : Int32) (a2 : Int32) (M : Mem) (res : (Int32 × Mem)) (h : fX5_offIn a1 a2 M = some res) : mC l yX5_offIn wsX5_offIn { frames := 2, cells := 0, slots := 0, locals := 50 } D [(cI, .int), (cZ, .boolean)] ad 14 X [.ref (ad 0), .int a1, .int a2] (Em ad cI cZ M) (some (.int res.1)) (Em ad cI cZ res.2) := by
  refine m_ofW (cc := cX5_offIn) (maxL := 3) (ret := (some .int)) (by decide) rfl (Nat.le_of_ble_eq_true rfl) ?_
  intro p e s m args below meth c hx hb hml hr hlocks hts hown hKv hXs ls hl hM
  have hXk := hX0
  have Z : mZ p s m args meth c cX5_offIn 3 (some .int) wsX5_offIn RX5 D [(cI, .int), (cZ, .boolean)] X := ⟨hx, hb, hml, hr, hlocks, hts, hown, hKv, hXs⟩
  replace hown : s.vm.findClass RX5 = some m.cls := hown
  have hl : lv_has ls 3 [(0, .ref (ad 0)), (1, .int a1), (2, .int a2)] := hl
  have k0 := hts (Cond.fieldLink RX5 154 "NoonWalkerModel" "atTown" "I") (List.mem_of_getElem? (i := 1) rfl)
  have k1 := hts (Cond.fieldLink RX5 157 "NoonWalkerModel" "atRoad" "I") (List.mem_of_getElem? (i := 2) rfl)
  have k2 := hts (Cond.fieldLink RX5 160 "NoonWalkerModel" "on" "I") (List.mem_of_getElem? (i := 3) rfl)
  have k3 := hts (Cond.fieldLink RX5 163 "NoonWalkerModel" "left" "I") (List.mem_of_getElem? (i := 4) rfl)
  unfold fX5_offIn at h
  refine lv_aload_n hx hb dX5_offIn_0 rfl (lv_at hl 0 rfl) ?_
  refine lv_iload_n hx hb dX5_offIn_1 rfl (lv_at hl 2 rfl) ?_
  obtain ⟨x1, hx1, h⟩ := Option.bind_eq_some_iff.mp h
  refine m_callV (As := [.int a2]) (st1 := []) hx hb (hml.trans hl.1.symm) hown hts hKv hXs hXk hM (kX5_seeks l D cI cZ ad hX0 a2 M _ hx1) (cwV 1 hts gX5_offIn_X5_seeks rfl rfl rfl (by decide +kernel) ⟨Nat.le_of_ble_eq_true rfl, Nat.le_of_ble_eq_true rfl⟩) (by decide) at_X5 rfl rfl rfl rfl (Nat.le_of_ble_eq_true rfl) dX5_offIn_2 ⟨Nat.zero_le _, Nat.zero_le _⟩ (fun H locs hM => ?_)
  refine lv_aload_n hx hb dX5_offIn_5 rfl (lv_at hl 0 rfl) ?_
  refine m_get hx hb hts hown hKv hM (fun _ h => List.mem_cons_of_mem _ (List.mem_append_right _ (h))) (by decide) at_X5 rfl 25 (by decide) k0 (v := .int (x1.1 0 25)) rfl dX5_offIn_6 ?_
  refine lv_bipush (v := (-9 : Int32)) hx hb dX5_offIn_9 (by decide) ?_
  refine lv_icmp_eq (tgt := 26) hx hb dX5_offIn_11 (by decide) (fun c2 => ?_) (fun c2 => ?_)
  · replace h := (if_pos c2).symm.trans h
    refine lv_aload_n hx hb dX5_offIn_26 rfl (lv_at hl 0 rfl) ?_
    refine m_get hx hb hts hown hKv hM (fun _ h => List.mem_cons_of_mem _ (List.mem_append_right _ (h))) (by decide) at_X5 rfl 26 (by decide) k1 (v := .int (x1.1 0 26)) rfl dX5_offIn_27 ?_
    refine lv_bipush (v := (-9 : Int32)) hx hb dX5_offIn_30 (by decide) ?_
    refine lv_icmp_eq (tgt := 55) hx hb dX5_offIn_32 (by decide) (fun c3 => ?_) (fun c3 => ?_)
    · replace h := (if_pos c3).symm.trans h
      refine lv_bipush (v := (-9 : Int32)) hx hb dX5_offIn_55 (by decide) ?_
      exact m_iret hx hb hr hlocks hM (congrArg (a₁ := ((-9 : Int32), x1)) Prod.fst (Option.some.inj h)) (congrArg (a₁ := ((-9 : Int32), x1)) (fun z => Em ad cI cZ z.2) (Option.some.inj h)) dX5_offIn_57
    · replace h := (if_neg c3).symm.trans h
      refine lv_aload_n hx hb dX5_offIn_35 rfl (lv_at hl 0 rfl) ?_
      refine lv_iload_n hx hb dX5_offIn_36 rfl (lv_at hl 1 rfl) ?_
      refine lv_aload_n hx hb dX5_offIn_37 rfl (lv_at hl 0 rfl) ?_
      refine m_get hx hb hts hown hKv hM (fun _ h => List.mem_cons_of_mem _ (List.mem_append_right _ (h))) (by decide) at_X5 rfl 26 (by decide) k1 (v := .int (x1.1 0 26)) rfl dX5_offIn_38 ?_
      refine lv_aload_n hx hb dX5_offIn_41 rfl (lv_at hl 0 rfl) ?_
      refine m_get hx hb hts hown hKv hM (fun _ h => List.mem_cons_of_mem _ (List.mem_append_right _ (h))) (by decide) at_X5 rfl 27 (by decide) k2 (v := .int (x1.1 0 27)) rfl dX5_offIn_42 ?_
      refine lv_aload_n hx hb dX5_offIn_45 rfl (lv_at hl 0 rfl) ?_
      refine m_get hx hb hts hown hKv hM (fun _ h => List.mem_cons_of_mem _ (List.mem_append_right _ (h))) (by decide) at_X5 rfl 28 (by decide) k3 (v := .int (x1.1 0 28)) rfl dX5_offIn_46 ?_
      obtain ⟨x4, hx4, h⟩ := Option.bind_eq_some_iff.mp h
      refine m_callV (As := [.int a1, .int (x1.1 0 26), .int (x1.1 0 27), .int (x1.1 0 28)]) (st1 := [.int x4]) hx hb (hml.trans hl.1.symm) hown hts hKv hXs hXk hM (kX5_farOn l D cI cZ ad hX0 a1 (x1.1 0 26) (x1.1 0 27) (x1.1 0 28) x1 _ hx4) (cwV 4 hts gX5_offIn_X5_farOn rfl rfl rfl (by decide +kernel) ⟨Nat.le_of_ble_eq_true rfl, Nat.le_of_ble_eq_true rfl⟩) (by decide) at_X5 rfl rfl rfl rfl (Nat.le_of_ble_eq_true rfl) dX5_offIn_49 ⟨Nat.zero_le _, Nat.zero_le _⟩ (fun H locs hM => ?_)
      refine lv_goto (tgt := 57) hx hb dX5_offIn_52 (by decide) ?_
      exact m_iret hx hb hr hlocks hM (congrArg (a₁ := (x4, x1)) Prod.fst (Option.some.inj h)) (congrArg (a₁ := (x4, x1)) (fun z => Em ad cI cZ z.2) (Option.some.inj h)) dX5_offIn_57
  · replace h := (if_neg c2).symm.trans h
    refine lv_aload_n hx hb dX5_offIn_14 rfl (lv_at hl 0 rfl) ?_
    refine lv_iload_n hx hb dX5_offIn_15 rfl (lv_at hl 1 rfl) ?_
    refine lv_aload_n hx hb dX5_offIn_16 rfl (lv_at hl 0 rfl) ?_
    refine m_get hx hb hts hown hKv hM (fun _ h => List.mem_cons_of_mem _ (List.mem_append_right _ (h))) (by decide) at_X5 rfl 25 (by decide) k0 (v := .int (x1.1 0 25)) rfl dX5_offIn_17 ?_
    obtain ⟨x5, hx5, h⟩ := Option.bind_eq_some_iff.mp h
    refine m_callV (As := [.int a1, .int (x1.1 0 25)]) (st1 := [.int x5]) hx hb (hml.trans hl.1.symm) hown hts hKv hXs hXk hM (kX5_farOf l D cI cZ ad hX0 a1 (x1.1 0 25) x1 _ hx5) (cwV 2 hts gX5_offIn_X5_farOf rfl rfl rfl (by decide +kernel) ⟨Nat.le_of_ble_eq_true rfl, Nat.le_of_ble_eq_true rfl⟩) (by decide) at_X5 rfl rfl rfl rfl (Nat.le_of_ble_eq_true rfl) dX5_offIn_20 ⟨Nat.zero_le _, Nat.zero_le _⟩ (fun H locs hM => ?_)
    refine lv_goto (tgt := 57) hx hb dX5_offIn_23 (by decide) ?_
    exact m_iret hx hb hr hlocks hM (congrArg (a₁ := (x5, x1)) Prod.fst (Option.some.inj h)) (congrArg (a₁ := (x5, x1)) (fun z => Em ad cI cZ z.2) (Option.some.inj h)) dX5_offIn_57
set_option maxHeartbeats 4000000 in
set_option maxRecDepth 100000 in
theorem kX5_clockIn (l : Launch) (D : va_G) (cI cZ : ClassId) (ad : Nat → Nat) {X : State → Prop} (hX0 : mX ad 14 X) (a1 : Int32) (a2 : Int32) (M : Mem) (res : (Int32 × Mem)) (h : fX5_clockIn a1 a2 M = some res) : mC l yX5_clockIn wsX5_clockIn { frames := 3, cells := 0, slots := 0, locals := 72 } D [(cI, .int), (cZ, .boolean)] ad 14 X [.ref (ad 0), .int a1, .int a2] (Em ad cI cZ M) (some (.int res.1)) (Em ad cI cZ res.2) := by
  refine m_ofW (cc := cX5_clockIn) (maxL := 4) (ret := (some .int)) (by decide) rfl (Nat.le_of_ble_eq_true rfl) ?_
  intro p e s m args below meth c hx hb hml hr hlocks hts hown hKv hXs ls hl hM
  have hXk := hX0
  have Z : mZ p s m args meth c cX5_clockIn 4 (some .int) wsX5_clockIn RX5 D [(cI, .int), (cZ, .boolean)] X := ⟨hx, hb, hml, hr, hlocks, hts, hown, hKv, hXs⟩
  replace hown : s.vm.findClass RX5 = some m.cls := hown
  have hl : lv_has ls 4 [(0, .ref (ad 0)), (1, .int a1), (2, .int a2)] := hl
  unfold fX5_clockIn at h
  refine lv_aload_n hx hb dX5_clockIn_0 rfl (lv_at hl 0 rfl) ?_
  refine lv_iload_n hx hb dX5_clockIn_1 rfl (lv_at hl 1 rfl) ?_
  refine lv_iload_n hx hb dX5_clockIn_2 rfl (lv_at hl 2 rfl) ?_
  obtain ⟨x1, hx1, h⟩ := Option.bind_eq_some_iff.mp h
  refine m_callV (As := [.int a1, .int a2]) (st1 := [.int x1.1]) hx hb (hml.trans hl.1.symm) hown hts hKv hXs hXk hM (kX5_offIn l D cI cZ ad hX0 a1 a2 M _ hx1) (cwV 2 hts gX5_clockIn_X5_offIn rfl rfl rfl (by decide +kernel) ⟨Nat.le_of_ble_eq_true rfl, Nat.le_of_ble_eq_true rfl⟩) (by decide) at_X5 rfl rfl rfl rfl (Nat.le_of_ble_eq_true rfl) dX5_clockIn_3 ⟨Nat.zero_le _, Nat.zero_le _⟩ (fun H locs hM => ?_)
  refine lv_istore_n (lv' := [(3, .int x1.1), (0, .ref (ad 0)), (1, .int a1), (2, .int a2)]) hx hb dX5_clockIn_6 rfl hl (by decide) rfl (fun ls hl => ?_)
  refine lv_iload_n hx hb dX5_clockIn_7 rfl (lv_at hl 0 rfl) ?_
  refine lv_bipush (v := (-9 : Int32)) hx hb dX5_clockIn_8 (by decide) ?_
  refine lv_icmp_ne (tgt := 18) hx hb dX5_clockIn_10 (by decide) (fun c2 => ?_) (fun c2 => ?_)
  · replace h := (if_neg c2).symm.trans h
    refine lv_bipush (v := (12 : Int32)) hx hb dX5_clockIn_18 (by decide) ?_
    refine lv_iload_n hx hb dX5_clockIn_20 rfl (lv_at hl 0 rfl) ?_
    refine lv_iadd hx hb dX5_clockIn_21 ?_
    refine lv_bipush (v := (24 : Int32)) hx hb dX5_clockIn_22 (by decide) ?_
    obtain ⟨x3, hx3, h⟩ := Option.bind_eq_some_iff.mp h
    refine m_irem hx hb hx3 dX5_clockIn_24 ?_
    exact m_iret hx hb hr hlocks hM (congrArg (a₁ := (x3, x1.2)) Prod.fst (Option.some.inj h)) (congrArg (a₁ := (x3, x1.2)) (fun z => Em ad cI cZ z.2) (Option.some.inj h)) dX5_clockIn_25
  · replace h := (if_pos c2).symm.trans h
    refine lv_bipush (v := (-9 : Int32)) hx hb dX5_clockIn_13 (by decide) ?_
    refine lv_goto (tgt := 25) hx hb dX5_clockIn_15 (by decide) ?_
    exact m_iret hx hb hr hlocks hM (congrArg (a₁ := ((-9 : Int32), x1.2)) Prod.fst (Option.some.inj h)) (congrArg (a₁ := ((-9 : Int32), x1.2)) (fun z => Em ad cI cZ z.2) (Option.some.inj h)) dX5_clockIn_25
set_option maxHeartbeats 4000000 in
set_option maxRecDepth 100000 in
theorem kX5_off (l : Launch) (D : va_G) (cI cZ : ClassId) (ad : Nat → Nat) {X : State → Prop} (hX0 : mX ad 14 X) (a1 : Int32) (a2 : Int32) (M : Mem) (res : (Int32 × Mem)) (h : fX5_off a1 a2 M = some res) : mC l yX5_off wsX5_off { frames := 3, cells := 0, slots := 0, locals := 72 } D [(cI, .int), (cZ, .boolean)] ad 14 X [.ref (ad 0), .int a1, .int a2] (Em ad cI cZ M) (some (.int res.1)) (Em ad cI cZ res.2) := by
  refine m_ofW (cc := cX5_off) (maxL := 3) (ret := (some .int)) (by decide) rfl (Nat.le_of_ble_eq_true rfl) ?_
  intro p e s m args below meth c hx hb hml hr hlocks hts hown hKv hXs ls hl hM
  have hXk := hX0
  have Z : mZ p s m args meth c cX5_off 3 (some .int) wsX5_off RX5 D [(cI, .int), (cZ, .boolean)] X := ⟨hx, hb, hml, hr, hlocks, hts, hown, hKv, hXs⟩
  replace hown : s.vm.findClass RX5 = some m.cls := hown
  have hl : lv_has ls 3 [(0, .ref (ad 0)), (1, .int a1), (2, .int a2)] := hl
  have k0 := hts (Cond.fieldLink RX5 53 "NoonWalkerModel" "thrown" "I") (List.mem_of_getElem? (i := 1) rfl)
  unfold fX5_off at h
  refine lv_aload_n hx hb dX5_off_0 rfl (lv_at hl 0 rfl) ?_
  refine lv_iconst (v := (0 : Int32)) hx hb dX5_off_1 (by decide) ?_
  obtain ⟨M1, hM1, h⟩ := Option.bind_eq_some_iff.mp h
  refine m_put hx hb hts hown hKv hM (fun _ h => List.mem_cons_of_mem _ (List.mem_append_right _ (h))) tyX5 tyX5_ok nmX5 (by decide) at_X5 rfl 0 (by decide) k0 rfl rfl rfl (Nat.le_of_ble_eq_true rfl) (pt_X5_0 (Option.some.inj hM1)) dX5_off_2 (fun H locs hM => ?_)
  refine lv_aload_n hx hb dX5_off_5 rfl (lv_at hl 0 rfl) ?_
  refine lv_iload_n hx hb dX5_off_6 rfl (lv_at hl 1 rfl) ?_
  obtain ⟨x2, hx2, h⟩ := Option.bind_eq_some_iff.mp h
  refine m_callV (As := [.int a1]) (st1 := [.int x2]) hx hb (hml.trans hl.1.symm) hown hts hKv hXs hXk hM (kX5_isTown l D cI cZ ad hX0 a1 M1 _ hx2) (cwV 1 hts gX5_off_X5_isTown rfl rfl rfl (by decide +kernel) ⟨Nat.le_of_ble_eq_true rfl, Nat.le_of_ble_eq_true rfl⟩) (by decide) at_X5 rfl rfl rfl rfl (Nat.le_of_ble_eq_true rfl) dX5_off_7 ⟨Nat.zero_le _, Nat.zero_le _⟩ (fun H locs hM => ?_)
  refine lv_if_eq (tgt := 29) hx hb dX5_off_10 (by decide) (fun c3 => ?_) (fun c3 => ?_)
  · replace h := (if_pos c3).symm.trans h
    refine lv_iconst (v := (-1 : Int32)) hx hb dX5_off_29 (by decide) ?_
    exact m_iret hx hb hr hlocks hM (congrArg (a₁ := ((-1 : Int32), M1)) Prod.fst (Option.some.inj h)) (congrArg (a₁ := ((-1 : Int32), M1)) (fun z => Em ad cI cZ z.2) (Option.some.inj h)) dX5_off_30
  · replace h := (if_neg c3).symm.trans h
    refine lv_iload_n hx hb dX5_off_13 rfl (lv_at hl 2 rfl) ?_
    obtain ⟨x4, hx4, h⟩ := Option.bind_eq_some_iff.mp h
    refine m_callS (As := [.int a2]) (st1 := [.int x4]) hx hb (hml.trans hl.1.symm) hown hts hKv hXs hXk hM (kX5_isHour l D cI cZ ad hX0 a2 M1 _ hx4) (va_cwS 1 hts gX5_off_X5_isHour rfl rfl rfl (by decide +kernel) ⟨Nat.le_of_ble_eq_true rfl, Nat.le_of_ble_eq_true rfl⟩) rfl rfl rfl (Nat.le_of_ble_eq_true rfl) dX5_off_14 ⟨Nat.zero_le _, Nat.zero_le _⟩ (fun H locs hM => ?_)
    refine lv_if_eq (tgt := 29) hx hb dX5_off_17 (by decide) (fun c5 => ?_) (fun c5 => ?_)
    · replace h := (if_pos c5).symm.trans h
      refine lv_iconst (v := (-1 : Int32)) hx hb dX5_off_29 (by decide) ?_
      exact m_iret hx hb hr hlocks hM (congrArg (a₁ := ((-1 : Int32), M1)) Prod.fst (Option.some.inj h)) (congrArg (a₁ := ((-1 : Int32), M1)) (fun z => Em ad cI cZ z.2) (Option.some.inj h)) dX5_off_30
    · replace h := (if_neg c5).symm.trans h
      refine lv_aload_n hx hb dX5_off_20 rfl (lv_at hl 0 rfl) ?_
      refine lv_iload_n hx hb dX5_off_21 rfl (lv_at hl 1 rfl) ?_
      refine lv_iload_n hx hb dX5_off_22 rfl (lv_at hl 2 rfl) ?_
      obtain ⟨x6, hx6, h⟩ := Option.bind_eq_some_iff.mp h
      refine m_callV (As := [.int a1, .int a2]) (st1 := [.int x6.1]) hx hb (hml.trans hl.1.symm) hown hts hKv hXs hXk hM (kX5_offIn l D cI cZ ad hX0 a1 a2 M1 _ hx6) (cwV 2 hts gX5_off_X5_offIn rfl rfl rfl (by decide +kernel) ⟨Nat.le_of_ble_eq_true rfl, Nat.le_of_ble_eq_true rfl⟩) (by decide) at_X5 rfl rfl rfl rfl (Nat.le_of_ble_eq_true rfl) dX5_off_23 ⟨Nat.zero_le _, Nat.zero_le _⟩ (fun H locs hM => ?_)
      refine lv_goto (tgt := 30) hx hb dX5_off_26 (by decide) ?_
      exact m_iret hx hb hr hlocks hM (congrArg (a₁ := (x6.1, x6.2)) Prod.fst (Option.some.inj h)) (congrArg (a₁ := (x6.1, x6.2)) (fun z => Em ad cI cZ z.2) (Option.some.inj h)) dX5_off_30
set_option maxHeartbeats 4000000 in
set_option maxRecDepth 100000 in
theorem kX5_clock (l : Launch) (D : va_G) (cI cZ : ClassId) (ad : Nat → Nat) {X : State → Prop} (hX0 : mX ad 14 X) (a1 : Int32) (a2 : Int32) (M : Mem) (res : (Int32 × Mem)) (h : fX5_clock a1 a2 M = some res) : mC l yX5_clock wsX5_clock { frames := 4, cells := 0, slots := 0, locals := 95 } D [(cI, .int), (cZ, .boolean)] ad 14 X [.ref (ad 0), .int a1, .int a2] (Em ad cI cZ M) (some (.int res.1)) (Em ad cI cZ res.2) := by
  refine m_ofW (cc := cX5_clock) (maxL := 3) (ret := (some .int)) (by decide) rfl (Nat.le_of_ble_eq_true rfl) ?_
  intro p e s m args below meth c hx hb hml hr hlocks hts hown hKv hXs ls hl hM
  have hXk := hX0
  have Z : mZ p s m args meth c cX5_clock 3 (some .int) wsX5_clock RX5 D [(cI, .int), (cZ, .boolean)] X := ⟨hx, hb, hml, hr, hlocks, hts, hown, hKv, hXs⟩
  replace hown : s.vm.findClass RX5 = some m.cls := hown
  have hl : lv_has ls 3 [(0, .ref (ad 0)), (1, .int a1), (2, .int a2)] := hl
  have k0 := hts (Cond.fieldLink RX5 53 "NoonWalkerModel" "thrown" "I") (List.mem_of_getElem? (i := 1) rfl)
  unfold fX5_clock at h
  refine lv_aload_n hx hb dX5_clock_0 rfl (lv_at hl 0 rfl) ?_
  refine lv_iconst (v := (0 : Int32)) hx hb dX5_clock_1 (by decide) ?_
  obtain ⟨M1, hM1, h⟩ := Option.bind_eq_some_iff.mp h
  refine m_put hx hb hts hown hKv hM (fun _ h => List.mem_cons_of_mem _ (List.mem_append_right _ (h))) tyX5 tyX5_ok nmX5 (by decide) at_X5 rfl 0 (by decide) k0 rfl rfl rfl (Nat.le_of_ble_eq_true rfl) (pt_X5_0 (Option.some.inj hM1)) dX5_clock_2 (fun H locs hM => ?_)
  refine lv_aload_n hx hb dX5_clock_5 rfl (lv_at hl 0 rfl) ?_
  refine lv_iload_n hx hb dX5_clock_6 rfl (lv_at hl 1 rfl) ?_
  obtain ⟨x2, hx2, h⟩ := Option.bind_eq_some_iff.mp h
  refine m_callV (As := [.int a1]) (st1 := [.int x2]) hx hb (hml.trans hl.1.symm) hown hts hKv hXs hXk hM (kX5_isTown l D cI cZ ad hX0 a1 M1 _ hx2) (cwV 1 hts gX5_clock_X5_isTown rfl rfl rfl (by decide +kernel) ⟨Nat.le_of_ble_eq_true rfl, Nat.le_of_ble_eq_true rfl⟩) (by decide) at_X5 rfl rfl rfl rfl (Nat.le_of_ble_eq_true rfl) dX5_clock_7 ⟨Nat.zero_le _, Nat.zero_le _⟩ (fun H locs hM => ?_)
  refine lv_if_eq (tgt := 29) hx hb dX5_clock_10 (by decide) (fun c3 => ?_) (fun c3 => ?_)
  · replace h := (if_pos c3).symm.trans h
    refine lv_iconst (v := (-1 : Int32)) hx hb dX5_clock_29 (by decide) ?_
    exact m_iret hx hb hr hlocks hM (congrArg (a₁ := ((-1 : Int32), M1)) Prod.fst (Option.some.inj h)) (congrArg (a₁ := ((-1 : Int32), M1)) (fun z => Em ad cI cZ z.2) (Option.some.inj h)) dX5_clock_30
  · replace h := (if_neg c3).symm.trans h
    refine lv_iload_n hx hb dX5_clock_13 rfl (lv_at hl 2 rfl) ?_
    obtain ⟨x4, hx4, h⟩ := Option.bind_eq_some_iff.mp h
    refine m_callS (As := [.int a2]) (st1 := [.int x4]) hx hb (hml.trans hl.1.symm) hown hts hKv hXs hXk hM (kX5_isHour l D cI cZ ad hX0 a2 M1 _ hx4) (va_cwS 1 hts gX5_clock_X5_isHour rfl rfl rfl (by decide +kernel) ⟨Nat.le_of_ble_eq_true rfl, Nat.le_of_ble_eq_true rfl⟩) rfl rfl rfl (Nat.le_of_ble_eq_true rfl) dX5_clock_14 ⟨Nat.zero_le _, Nat.zero_le _⟩ (fun H locs hM => ?_)
    refine lv_if_eq (tgt := 29) hx hb dX5_clock_17 (by decide) (fun c5 => ?_) (fun c5 => ?_)
    · replace h := (if_pos c5).symm.trans h
      refine lv_iconst (v := (-1 : Int32)) hx hb dX5_clock_29 (by decide) ?_
      exact m_iret hx hb hr hlocks hM (congrArg (a₁ := ((-1 : Int32), M1)) Prod.fst (Option.some.inj h)) (congrArg (a₁ := ((-1 : Int32), M1)) (fun z => Em ad cI cZ z.2) (Option.some.inj h)) dX5_clock_30
    · replace h := (if_neg c5).symm.trans h
      refine lv_aload_n hx hb dX5_clock_20 rfl (lv_at hl 0 rfl) ?_
      refine lv_iload_n hx hb dX5_clock_21 rfl (lv_at hl 1 rfl) ?_
      refine lv_iload_n hx hb dX5_clock_22 rfl (lv_at hl 2 rfl) ?_
      obtain ⟨x6, hx6, h⟩ := Option.bind_eq_some_iff.mp h
      refine m_callV (As := [.int a1, .int a2]) (st1 := [.int x6.1]) hx hb (hml.trans hl.1.symm) hown hts hKv hXs hXk hM (kX5_clockIn l D cI cZ ad hX0 a1 a2 M1 _ hx6) (cwV 2 hts gX5_clock_X5_clockIn rfl rfl rfl (by decide +kernel) ⟨Nat.le_of_ble_eq_true rfl, Nat.le_of_ble_eq_true rfl⟩) (by decide) at_X5 rfl rfl rfl rfl (Nat.le_of_ble_eq_true rfl) dX5_clock_23 ⟨Nat.zero_le _, Nat.zero_le _⟩ (fun H locs hM => ?_)
      refine lv_goto (tgt := 30) hx hb dX5_clock_26 (by decide) ?_
      exact m_iret hx hb hr hlocks hM (congrArg (a₁ := (x6.1, x6.2)) Prod.fst (Option.some.inj h)) (congrArg (a₁ := (x6.1, x6.2)) (fun z => Em ad cI cZ z.2) (Option.some.inj h)) dX5_clock_30
set_option maxHeartbeats 4000000 in
set_option maxRecDepth 100000 in
theorem wX5_light_27 {p : Program} {l : Launch} {e : Env} {s : State} {m : MethodId} {args : Array Value} {below : List Frame} {meth : Method} {c : Code} {D : va_G} {cI cZ : ClassId} {ad : Nat → Nat} {X : State → Prop} (Z : mZ p s m args meth c cX5_light 5 (some .int) wsX5_light RX5 D [(cI, .int), (cZ, .boolean)] X) (hX0 : mX ad 14 X)   (u1 : Int32) (u2 : Int32)  {K : Int32 → Mem → Option (Int32 × Mem)} (res : (Int32 × Mem)) (hKc : ∀ (y3 : Int32) (M1 : Mem), K y3 M1 = some res → ∀ (H : Heap) (locs : List Loc) (ls : Array Slot), lv_has ls 5 [(3, .int y3)] → mH D ad 14 (Em ad cI cZ M1) s.heap H locs → W p l e { frames := 4, cells := 0, slots := 0, locals := 95 } s m args below meth c H locs 0 0 (MQ below (mQ D ad 14 (some (.int res.1)) (Em ad cI cZ res.2)) args s 0 0 (mA ad 14)) (F0 m 80 ls [])) :
    ∀ (n : Nat) (v3 : Int32) (v4 : Int32) (M : Mem), fX5_light_27 u1 u2 K n v3 v4 M = some res → ∀ (H : Heap) (locs : List Loc) (ls : Array Slot), lv_has ls 5 [(0, .ref (ad 0)), (1, .int u1), (2, .int u2), (3, .int v3), (4, .int v4)] → mH D ad 14 (Em ad cI cZ M) s.heap H locs → W p l e { frames := 4, cells := 0, slots := 0, locals := 95 } s m args below meth c H locs 0 0 (MQ below (mQ D ad 14 (some (.int res.1)) (Em ad cI cZ res.2)) args s 0 0 (mA ad 14)) (F0 m 27 ls []) := by
  obtain ⟨hx, hb, hml, hr, hlocks, hts, hown, hKv, hXs⟩ := id Z
  have hXk := hX0
  intro n
  induction n with
  | zero => intro _ _ _ h; exact absurd h (by unfold fX5_light_27; exact fun h => by cases h)
  | succ n ih =>
    intro v3 v4 M h H locs ls hl hM
    rw [fX5_light_27] at h
    refine lv_iload hx hb dX5_light_27 (lv_at hl 4 rfl) ?_
    refine lv_bipush (v := (24 : Int32)) hx hb dX5_light_29 (by decide) ?_
    refine lv_icmp_ge (tgt := 80) hx hb dX5_light_31 (by decide) (fun c1 => ?_) (fun c1 => ?_)
    · replace h := (if_pos c1).symm.trans h
      exact hKc _ _ h _ _ _ (lv_sub hl [3] rfl) hM
    · replace h := (if_neg c1).symm.trans h
      refine lv_iload_n hx hb dX5_light_34 rfl (lv_at hl 2 rfl) ?_
      refine lv_iload hx hb dX5_light_35 (lv_at hl 4 rfl) ?_
      refine lv_iadd hx hb dX5_light_37 ?_
      refine lv_sipush (v := (1000 : Int32)) hx hb dX5_light_38 (by decide) ?_
      refine lv_icmp_ge (tgt := 80) hx hb dX5_light_41 (by decide) (fun c2 => ?_) (fun c2 => ?_)
      · replace h := (if_pos c2).symm.trans h
        exact hKc _ _ h _ _ _ (lv_sub hl [3] rfl) hM
      · replace h := (if_neg c2).symm.trans h
        refine lv_iload_n hx hb dX5_light_44 rfl (lv_at hl 3 rfl) ?_
        refine lv_aload_n hx hb dX5_light_45 rfl (lv_at hl 0 rfl) ?_
        refine lv_iload_n hx hb dX5_light_46 rfl (lv_at hl 1 rfl) ?_
        refine lv_iload_n hx hb dX5_light_47 rfl (lv_at hl 2 rfl) ?_
        refine lv_iload hx hb dX5_light_48 (lv_at hl 4 rfl) ?_
        refine lv_iadd hx hb dX5_light_50 ?_
        obtain ⟨x3, hx3, h⟩ := Option.bind_eq_some_iff.mp h
        refine m_callV (As := [.int u1, .int (u2 + v4)]) (st1 := [.int x3.1, .int v3]) hx hb (hml.trans hl.1.symm) hown hts hKv hXs hXk hM (kX5_clockIn l D cI cZ ad hX0 u1 (u2 + v4) M _ hx3) (cwV 2 hts gX5_light_X5_clockIn rfl rfl rfl (by decide +kernel) ⟨Nat.le_of_ble_eq_true rfl, Nat.le_of_ble_eq_true rfl⟩) (by decide) at_X5 rfl rfl rfl rfl (Nat.le_of_ble_eq_true rfl) dX5_light_51 ⟨Nat.zero_le _, Nat.zero_le _⟩ (fun H locs hM => ?_)
        refine lv_bipush (v := (6 : Int32)) hx hb dX5_light_54 (by decide) ?_
        refine lv_bipush (v := (17 : Int32)) hx hb dX5_light_56 (by decide) ?_
        obtain ⟨x4, hx4, h⟩ := Option.bind_eq_some_iff.mp h
        refine m_callS (As := [.int x3.1, .int (6 : Int32), .int (17 : Int32)]) (st1 := [.int x4, .int v3]) hx hb (hml.trans hl.1.symm) hown hts hKv hXs hXk hM (kX5_in l D cI cZ ad hX0 x3.1 (6 : Int32) (17 : Int32) x3.2 _ hx4) (va_cwS 3 hts gX5_light_X5_in rfl rfl rfl (by decide +kernel) ⟨Nat.le_of_ble_eq_true rfl, Nat.le_of_ble_eq_true rfl⟩) rfl rfl rfl (Nat.le_of_ble_eq_true rfl) dX5_light_58 ⟨Nat.zero_le _, Nat.zero_le _⟩ (fun H locs hM => ?_)
        refine lv_if_eq (tgt := 71) hx hb dX5_light_61 (by decide) (fun c5 => ?_) (fun c5 => ?_)
        · replace h := (if_pos c5).symm.trans h
          refine lv_iconst (v := (0 : Int32)) hx hb dX5_light_71 (by decide) ?_
          refine lv_ior hx hb dX5_light_72 ?_
          refine lv_istore_n (lv' := [(3, .int (v3 ||| (0 : Int32))), (0, .ref (ad 0)), (1, .int u1), (2, .int u2), (4, .int v4)]) hx hb dX5_light_73 rfl hl (by decide) rfl (fun ls hl => ?_)
          refine lv_iinc (v := (v4 + 1)) (lv' := [(4, .int (v4 + 1)), (3, .int (v3 ||| (0 : Int32))), (0, .ref (ad 0)), (1, .int u1), (2, .int u2)]) hx hb dX5_light_74 hl (k := 4) rfl rfl (by decide) rfl (fun ls hl => ?_)
          refine lv_goto (tgt := 27) hx hb dX5_light_77 (by decide) ?_
          exact ih _ _ _ h _ _ _ (lv_sub hl [2, 3, 4, 1, 0] rfl) hM
        · replace h := (if_neg c5).symm.trans h
          refine lv_iconst (v := (1 : Int32)) hx hb dX5_light_64 (by decide) ?_
          refine lv_iload hx hb dX5_light_65 (lv_at hl 4 rfl) ?_
          refine lv_ishl hx hb dX5_light_67 ?_
          refine lv_goto (tgt := 72) hx hb dX5_light_68 (by decide) ?_
          refine lv_ior hx hb dX5_light_72 ?_
          refine lv_istore_n (lv' := [(3, .int (v3 ||| ((1 : Int32) <<< (v4 &&& 31)))), (0, .ref (ad 0)), (1, .int u1), (2, .int u2), (4, .int v4)]) hx hb dX5_light_73 rfl hl (by decide) rfl (fun ls hl => ?_)
          refine lv_iinc (v := (v4 + 1)) (lv' := [(4, .int (v4 + 1)), (3, .int (v3 ||| ((1 : Int32) <<< (v4 &&& 31)))), (0, .ref (ad 0)), (1, .int u1), (2, .int u2)]) hx hb dX5_light_74 hl (k := 4) rfl rfl (by decide) rfl (fun ls hl => ?_)
          refine lv_goto (tgt := 27) hx hb dX5_light_77 (by decide) ?_
          exact ih _ _ _ h _ _ _ (lv_sub hl [2, 3, 4, 1, 0] rfl) hM
set_option maxHeartbeats 4000000 in
set_option maxRecDepth 100000 in
theorem kX5_light (l : Launch) (D : va_G) (cI cZ : ClassId) (ad : Nat → Nat) {X : State → Prop} (hX0 : mX ad 14 X) (a1 : Int32) (a2 : Int32) (M : Mem) (res : (Int32 × Mem)) (h : fX5_light a1 a2 M = some res) : mC l yX5_light wsX5_light { frames := 4, cells := 0, slots := 0, locals := 95 } D [(cI, .int), (cZ, .boolean)] ad 14 X [.ref (ad 0), .int a1, .int a2] (Em ad cI cZ M) (some (.int res.1)) (Em ad cI cZ res.2) := by
  refine m_ofW (cc := cX5_light) (maxL := 5) (ret := (some .int)) (by decide) rfl (Nat.le_of_ble_eq_true rfl) ?_
  intro p e s m args below meth c hx hb hml hr hlocks hts hown hKv hXs ls hl hM
  have hXk := hX0
  have Z : mZ p s m args meth c cX5_light 5 (some .int) wsX5_light RX5 D [(cI, .int), (cZ, .boolean)] X := ⟨hx, hb, hml, hr, hlocks, hts, hown, hKv, hXs⟩
  replace hown : s.vm.findClass RX5 = some m.cls := hown
  have hl : lv_has ls 5 [(0, .ref (ad 0)), (1, .int a1), (2, .int a2)] := hl
  have k0 := hts (Cond.fieldLink RX5 53 "NoonWalkerModel" "thrown" "I") (List.mem_of_getElem? (i := 1) rfl)
  unfold fX5_light at h
  refine lv_aload_n hx hb dX5_light_0 rfl (lv_at hl 0 rfl) ?_
  refine lv_iconst (v := (0 : Int32)) hx hb dX5_light_1 (by decide) ?_
  obtain ⟨M1, hM1, h⟩ := Option.bind_eq_some_iff.mp h
  refine m_put hx hb hts hown hKv hM (fun _ h => List.mem_cons_of_mem _ (List.mem_append_right _ (h))) tyX5 tyX5_ok nmX5 (by decide) at_X5 rfl 0 (by decide) k0 rfl rfl rfl (Nat.le_of_ble_eq_true rfl) (pt_X5_0 (Option.some.inj hM1)) dX5_light_2 (fun H locs hM => ?_)
  refine lv_aload_n hx hb dX5_light_5 rfl (lv_at hl 0 rfl) ?_
  refine lv_iload_n hx hb dX5_light_6 rfl (lv_at hl 1 rfl) ?_
  obtain ⟨x2, hx2, h⟩ := Option.bind_eq_some_iff.mp h
  refine m_callV (As := [.int a1]) (st1 := [.int x2]) hx hb (hml.trans hl.1.symm) hown hts hKv hXs hXk hM (kX5_isTown l D cI cZ ad hX0 a1 M1 _ hx2) (cwV 1 hts gX5_light_X5_isTown rfl rfl rfl (by decide +kernel) ⟨Nat.le_of_ble_eq_true rfl, Nat.le_of_ble_eq_true rfl⟩) (by decide) at_X5 rfl rfl rfl rfl (Nat.le_of_ble_eq_true rfl) dX5_light_7 ⟨Nat.zero_le _, Nat.zero_le _⟩ (fun H locs hM => ?_)
  refine lv_if_eq (tgt := 20) hx hb dX5_light_10 (by decide) (fun c3 => ?_) (fun c3 => ?_)
  · replace h := (if_pos c3).symm.trans h
    refine lv_iconst (v := (-1 : Int32)) hx hb dX5_light_20 (by decide) ?_
    exact m_iret hx hb hr hlocks hM (congrArg (a₁ := ((-1 : Int32), M1)) Prod.fst (Option.some.inj h)) (congrArg (a₁ := ((-1 : Int32), M1)) (fun z => Em ad cI cZ z.2) (Option.some.inj h)) dX5_light_21
  · replace h := (if_neg c3).symm.trans h
    refine lv_iload_n hx hb dX5_light_13 rfl (lv_at hl 2 rfl) ?_
    obtain ⟨x4, hx4, h⟩ := Option.bind_eq_some_iff.mp h
    refine m_callS (As := [.int a2]) (st1 := [.int x4]) hx hb (hml.trans hl.1.symm) hown hts hKv hXs hXk hM (kX5_isHour l D cI cZ ad hX0 a2 M1 _ hx4) (va_cwS 1 hts gX5_light_X5_isHour rfl rfl rfl (by decide +kernel) ⟨Nat.le_of_ble_eq_true rfl, Nat.le_of_ble_eq_true rfl⟩) rfl rfl rfl (Nat.le_of_ble_eq_true rfl) dX5_light_14 ⟨Nat.zero_le _, Nat.zero_le _⟩ (fun H locs hM => ?_)
    refine lv_if_ne (tgt := 22) hx hb dX5_light_17 (by decide) (fun c5 => ?_) (fun c5 => ?_)
    · replace h := (if_neg c5).symm.trans h
      refine lv_iconst (v := (0 : Int32)) hx hb dX5_light_22 (by decide) ?_
      refine lv_istore_n (lv' := [(3, .int (0 : Int32)), (0, .ref (ad 0)), (1, .int a1), (2, .int a2)]) hx hb dX5_light_23 rfl hl (by decide) rfl (fun ls hl => ?_)
      refine lv_iconst (v := (0 : Int32)) hx hb dX5_light_24 (by decide) ?_
      refine lv_istore (lv' := [(4, .int (0 : Int32)), (3, .int (0 : Int32)), (0, .ref (ad 0)), (1, .int a1), (2, .int a2)]) hx hb dX5_light_25 hl (by decide) rfl (fun ls hl => ?_)
      refine wX5_light_27 Z hX0 a1 a2 _ (fun y6 M7 h H locs ls hl hM => ?_) _ _ _ _ h _ _ _ (lv_sub hl [2, 3, 4, 1, 0] rfl) hM
      refine lv_iload_n hx hb dX5_light_80 rfl (lv_at hl 0 rfl) ?_
      exact m_iret hx hb hr hlocks hM (congrArg (a₁ := (y6, M7)) Prod.fst (Option.some.inj h)) (congrArg (a₁ := (y6, M7)) (fun z => Em ad cI cZ z.2) (Option.some.inj h)) dX5_light_81
    · replace h := (if_pos c5).symm.trans h
      refine lv_iconst (v := (-1 : Int32)) hx hb dX5_light_20 (by decide) ?_
      exact m_iret hx hb hr hlocks hM (congrArg (a₁ := ((-1 : Int32), M1)) Prod.fst (Option.some.inj h)) (congrArg (a₁ := ((-1 : Int32), M1)) (fun z => Em ad cI cZ z.2) (Option.some.inj h)) dX5_light_21
set_option maxHeartbeats 4000000 in
set_option maxRecDepth 100000 in
theorem kX5_pace (l : Launch) (D : va_G) (cI cZ : ClassId) (ad : Nat → Nat) {X : State → Prop} (hX0 : mX ad 14 X) (a1 : Int32) (a2 : Int32) (M : Mem) (res : (Int32 × Mem)) (h : fX5_pace a1 a2 M = some res) : mC l yX5_pace wsX5_pace { frames := 4, cells := 0, slots := 0, locals := 95 } D [(cI, .int), (cZ, .boolean)] ad 14 X [.ref (ad 0), .int a1, .int a2] (Em ad cI cZ M) (some (.int res.1)) (Em ad cI cZ res.2) := by
  refine m_ofW (cc := cX5_pace) (maxL := 5) (ret := (some .int)) (by decide) rfl (Nat.le_of_ble_eq_true rfl) ?_
  intro p e s m args below meth c hx hb hml hr hlocks hts hown hKv hXs ls hl hM
  have hXk := hX0
  have Z : mZ p s m args meth c cX5_pace 5 (some .int) wsX5_pace RX5 D [(cI, .int), (cZ, .boolean)] X := ⟨hx, hb, hml, hr, hlocks, hts, hown, hKv, hXs⟩
  replace hown : s.vm.findClass RX5 = some m.cls := hown
  have hl : lv_has ls 5 [(0, .ref (ad 0)), (1, .int a1), (2, .int a2)] := hl
  have k0 := hts (Cond.fieldLink RX5 53 "NoonWalkerModel" "thrown" "I") (List.mem_of_getElem? (i := 1) rfl)
  have k1 := hts (Cond.constant RX5 140 (-1000000)) (List.mem_of_getElem? (i := 2) rfl)
  unfold fX5_pace at h
  refine lv_aload_n hx hb dX5_pace_0 rfl (lv_at hl 0 rfl) ?_
  refine lv_iconst (v := (0 : Int32)) hx hb dX5_pace_1 (by decide) ?_
  obtain ⟨M1, hM1, h⟩ := Option.bind_eq_some_iff.mp h
  refine m_put hx hb hts hown hKv hM (fun _ h => List.mem_cons_of_mem _ (List.mem_append_right _ (h))) tyX5 tyX5_ok nmX5 (by decide) at_X5 rfl 0 (by decide) k0 rfl rfl rfl (Nat.le_of_ble_eq_true rfl) (pt_X5_0 (Option.some.inj hM1)) dX5_pace_2 (fun H locs hM => ?_)
  refine lv_aload_n hx hb dX5_pace_5 rfl (lv_at hl 0 rfl) ?_
  refine lv_iload_n hx hb dX5_pace_6 rfl (lv_at hl 1 rfl) ?_
  obtain ⟨x2, hx2, h⟩ := Option.bind_eq_some_iff.mp h
  refine m_callV (As := [.int a1]) (st1 := [.int x2]) hx hb (hml.trans hl.1.symm) hown hts hKv hXs hXk hM (kX5_isTown l D cI cZ ad hX0 a1 M1 _ hx2) (cwV 1 hts gX5_pace_X5_isTown rfl rfl rfl (by decide +kernel) ⟨Nat.le_of_ble_eq_true rfl, Nat.le_of_ble_eq_true rfl⟩) (by decide) at_X5 rfl rfl rfl rfl (Nat.le_of_ble_eq_true rfl) dX5_pace_7 ⟨Nat.zero_le _, Nat.zero_le _⟩ (fun H locs hM => ?_)
  refine lv_if_eq (tgt := 24) hx hb dX5_pace_10 (by decide) (fun c3 => ?_) (fun c3 => ?_)
  · replace h := (if_pos c3).symm.trans h
    refine lv_ldc (v := (-1000000 : Int32)) hx hb hown k1 dX5_pace_24 ?_
    exact m_iret hx hb hr hlocks hM (congrArg (a₁ := ((-1000000 : Int32), M1)) Prod.fst (Option.some.inj h)) (congrArg (a₁ := ((-1000000 : Int32), M1)) (fun z => Em ad cI cZ z.2) (Option.some.inj h)) dX5_pace_26
  · replace h := (if_neg c3).symm.trans h
    refine lv_iload_n hx hb dX5_pace_13 rfl (lv_at hl 2 rfl) ?_
    refine lv_iconst (v := (0 : Int32)) hx hb dX5_pace_14 (by decide) ?_
    refine lv_sipush (v := (998 : Int32)) hx hb dX5_pace_15 (by decide) ?_
    obtain ⟨x4, hx4, h⟩ := Option.bind_eq_some_iff.mp h
    refine m_callS (As := [.int a2, .int (0 : Int32), .int (998 : Int32)]) (st1 := [.int x4]) hx hb (hml.trans hl.1.symm) hown hts hKv hXs hXk hM (kX5_in l D cI cZ ad hX0 a2 (0 : Int32) (998 : Int32) M1 _ hx4) (va_cwS 3 hts gX5_pace_X5_in rfl rfl rfl (by decide +kernel) ⟨Nat.le_of_ble_eq_true rfl, Nat.le_of_ble_eq_true rfl⟩) rfl rfl rfl (Nat.le_of_ble_eq_true rfl) dX5_pace_18 ⟨Nat.zero_le _, Nat.zero_le _⟩ (fun H locs hM => ?_)
    refine lv_if_ne (tgt := 27) hx hb dX5_pace_21 (by decide) (fun c5 => ?_) (fun c5 => ?_)
    · replace h := (if_neg c5).symm.trans h
      refine lv_aload_n hx hb dX5_pace_27 rfl (lv_at hl 0 rfl) ?_
      refine lv_iload_n hx hb dX5_pace_28 rfl (lv_at hl 1 rfl) ?_
      refine lv_iload_n hx hb dX5_pace_29 rfl (lv_at hl 2 rfl) ?_
      obtain ⟨x6, hx6, h⟩ := Option.bind_eq_some_iff.mp h
      refine m_callV (As := [.int a1, .int a2]) (st1 := [.int x6.1]) hx hb (hml.trans hl.1.symm) hown hts hKv hXs hXk hM (kX5_clockIn l D cI cZ ad hX0 a1 a2 M1 _ hx6) (cwV 2 hts gX5_pace_X5_clockIn rfl rfl rfl (by decide +kernel) ⟨Nat.le_of_ble_eq_true rfl, Nat.le_of_ble_eq_true rfl⟩) (by decide) at_X5 rfl rfl rfl rfl (Nat.le_of_ble_eq_true rfl) dX5_pace_30 ⟨Nat.zero_le _, Nat.zero_le _⟩ (fun H locs hM => ?_)
      refine lv_istore_n (lv' := [(3, .int x6.1), (0, .ref (ad 0)), (1, .int a1), (2, .int a2)]) hx hb dX5_pace_33 rfl hl (by decide) rfl (fun ls hl => ?_)
      refine lv_aload_n hx hb dX5_pace_34 rfl (lv_at hl 1 rfl) ?_
      refine lv_iload_n hx hb dX5_pace_35 rfl (lv_at hl 2 rfl) ?_
      refine lv_iload_n hx hb dX5_pace_36 rfl (lv_at hl 3 rfl) ?_
      refine lv_iconst (v := (1 : Int32)) hx hb dX5_pace_37 (by decide) ?_
      refine lv_iadd hx hb dX5_pace_38 ?_
      obtain ⟨x7, hx7, h⟩ := Option.bind_eq_some_iff.mp h
      refine m_callV (As := [.int a1, .int (a2 + (1 : Int32))]) (st1 := [.int x7.1]) hx hb (hml.trans hl.1.symm) hown hts hKv hXs hXk hM (kX5_clockIn l D cI cZ ad hX0 a1 (a2 + (1 : Int32)) x6.2 _ hx7) (cwV 2 hts gX5_pace_X5_clockIn rfl rfl rfl (by decide +kernel) ⟨Nat.le_of_ble_eq_true rfl, Nat.le_of_ble_eq_true rfl⟩) (by decide) at_X5 rfl rfl rfl rfl (Nat.le_of_ble_eq_true rfl) dX5_pace_39 ⟨Nat.zero_le _, Nat.zero_le _⟩ (fun H locs hM => ?_)
      refine lv_istore (lv' := [(4, .int x7.1), (3, .int x6.1), (0, .ref (ad 0)), (1, .int a1), (2, .int a2)]) hx hb dX5_pace_42 hl (by decide) rfl (fun ls hl => ?_)
      refine lv_iload_n hx hb dX5_pace_44 rfl (lv_at hl 1 rfl) ?_
      refine lv_bipush (v := (-9 : Int32)) hx hb dX5_pace_45 (by decide) ?_
      refine lv_icmp_eq (tgt := 57) hx hb dX5_pace_47 (by decide) (fun c8 => ?_) (fun c8 => ?_)
      · replace h := (if_pos c8).symm.trans h
        refine lv_bipush (v := (-9 : Int32)) hx hb dX5_pace_57 (by decide) ?_
        refine lv_goto (tgt := 75) hx hb dX5_pace_59 (by decide) ?_
        exact m_iret hx hb hr hlocks hM (congrArg (a₁ := ((-9 : Int32), x7.2)) Prod.fst (Option.some.inj h)) (congrArg (a₁ := ((-9 : Int32), x7.2)) (fun z => Em ad cI cZ z.2) (Option.some.inj h)) dX5_pace_75
      · replace h := (if_neg c8).symm.trans h
        refine lv_iload hx hb dX5_pace_50 (lv_at hl 0 rfl) ?_
        refine lv_bipush (v := (-9 : Int32)) hx hb dX5_pace_52 (by decide) ?_
        refine lv_icmp_ne (tgt := 62) hx hb dX5_pace_54 (by decide) (fun c9 => ?_) (fun c9 => ?_)
        · replace h := (if_neg c9).symm.trans h
          refine lv_iload hx hb dX5_pace_62 (lv_at hl 0 rfl) ?_
          refine lv_iload_n hx hb dX5_pace_64 rfl (lv_at hl 1 rfl) ?_
          refine lv_isub hx hb dX5_pace_65 ?_
          refine lv_bipush (v := (36 : Int32)) hx hb dX5_pace_66 (by decide) ?_
          refine lv_iadd hx hb dX5_pace_68 ?_
          refine lv_bipush (v := (24 : Int32)) hx hb dX5_pace_69 (by decide) ?_
          obtain ⟨x10, hx10, h⟩ := Option.bind_eq_some_iff.mp h
          refine m_irem hx hb hx10 dX5_pace_71 ?_
          refine lv_bipush (v := (12 : Int32)) hx hb dX5_pace_72 (by decide) ?_
          refine lv_isub hx hb dX5_pace_74 ?_
          exact m_iret hx hb hr hlocks hM (congrArg (a₁ := ((x10 - (12 : Int32)), x7.2)) Prod.fst (Option.some.inj h)) (congrArg (a₁ := ((x10 - (12 : Int32)), x7.2)) (fun z => Em ad cI cZ z.2) (Option.some.inj h)) dX5_pace_75
        · replace h := (if_pos c9).symm.trans h
          refine lv_bipush (v := (-9 : Int32)) hx hb dX5_pace_57 (by decide) ?_
          refine lv_goto (tgt := 75) hx hb dX5_pace_59 (by decide) ?_
          exact m_iret hx hb hr hlocks hM (congrArg (a₁ := ((-9 : Int32), x7.2)) Prod.fst (Option.some.inj h)) (congrArg (a₁ := ((-9 : Int32), x7.2)) (fun z => Em ad cI cZ z.2) (Option.some.inj h)) dX5_pace_75
    · replace h := (if_pos c5).symm.trans h
      refine lv_ldc (v := (-1000000 : Int32)) hx hb hown k1 dX5_pace_24 ?_
      exact m_iret hx hb hr hlocks hM (congrArg (a₁ := ((-1000000 : Int32), M1)) Prod.fst (Option.some.inj h)) (congrArg (a₁ := ((-1000000 : Int32), M1)) (fun z => Em ad cI cZ z.2) (Option.some.inj h)) dX5_pace_26
set_option maxHeartbeats 4000000 in
set_option maxRecDepth 100000 in
theorem wX5_early_49 {p : Program} {l : Launch} {e : Env} {s : State} {m : MethodId} {args : Array Value} {below : List Frame} {meth : Method} {c : Code} {D : va_G} {cI cZ : ClassId} {ad : Nat → Nat} {X : State → Prop} (Z : mZ p s m args meth c cX5_early 9 (some .int) wsX5_early RX5 D [(cI, .int), (cZ, .boolean)] X) (hX0 : mX ad 14 X)   (u1 : Int32) (u2 : Int32) (u3 : Int32) (u4 : Int32)  {K : Int32 → Mem → Option (Int32 × Mem)} (res : (Int32 × Mem)) (hKc : ∀ (y5 : Int32) (M1 : Mem), K y5 M1 = some res → ∀ (H : Heap) (locs : List Loc) (ls : Array Slot), lv_has ls 9 [(5, .int y5)] → mH D ad 14 (Em ad cI cZ M1) s.heap H locs → W p l e { frames := 4, cells := 0, slots := 0, locals := 95 } s m args below meth c H locs 0 0 (MQ below (mQ D ad 14 (some (.int res.1)) (Em ad cI cZ res.2)) args s 0 0 (mA ad 14)) (F0 m 138 ls [])) :
    ∀ (n : Nat) (v5 : Int32) (v6 : Int32) (M : Mem), fX5_early_49 u1 u2 u3 u4 K n v5 v6 M = some res → ∀ (H : Heap) (locs : List Loc) (ls : Array Slot), lv_has ls 9 [(0, .ref (ad 0)), (1, .int u1), (2, .int u2), (3, .int u3), (4, .int u4), (5, .int v5), (6, .int v6)] → mH D ad 14 (Em ad cI cZ M) s.heap H locs → W p l e { frames := 4, cells := 0, slots := 0, locals := 95 } s m args below meth c H locs 0 0 (MQ below (mQ D ad 14 (some (.int res.1)) (Em ad cI cZ res.2)) args s 0 0 (mA ad 14)) (F0 m 49 ls []) := by
  obtain ⟨hx, hb, hml, hr, hlocks, hts, hown, hKv, hXs⟩ := id Z
  have hXk := hX0
  intro n
  induction n with
  | zero => intro _ _ _ h; exact absurd h (by unfold fX5_early_49; exact fun h => by cases h)
  | succ n ih =>
    intro v5 v6 M h H locs ls hl hM
    rw [fX5_early_49] at h
    refine lv_iload hx hb dX5_early_49 (lv_at hl 6 rfl) ?_
    refine lv_bipush (v := (24 : Int32)) hx hb dX5_early_51 (by decide) ?_
    refine lv_icmp_ge (tgt := 138) hx hb dX5_early_53 (by decide) (fun c1 => ?_) (fun c1 => ?_)
    · replace h := (if_pos c1).symm.trans h
      exact hKc _ _ h _ _ _ (lv_sub hl [5] rfl) hM
    · replace h := (if_neg c1).symm.trans h
      refine lv_iload_n hx hb dX5_early_56 rfl (lv_at hl 3 rfl) ?_
      refine lv_iload hx hb dX5_early_57 (lv_at hl 6 rfl) ?_
      refine lv_iadd hx hb dX5_early_59 ?_
      refine lv_sipush (v := (1000 : Int32)) hx hb dX5_early_60 (by decide) ?_
      refine lv_icmp_ge (tgt := 138) hx hb dX5_early_63 (by decide) (fun c2 => ?_) (fun c2 => ?_)
      · replace h := (if_pos c2).symm.trans h
        exact hKc _ _ h _ _ _ (lv_sub hl [5] rfl) hM
      · replace h := (if_neg c2).symm.trans h
        refine lv_iload hx hb dX5_early_66 (lv_at hl 4 rfl) ?_
        refine lv_bipush (v := (-9 : Int32)) hx hb dX5_early_68 (by decide) ?_
        refine lv_icmp_eq (tgt := 138) hx hb dX5_early_70 (by decide) (fun c3 => ?_) (fun c3 => ?_)
        · replace h := (if_pos c3).symm.trans h
          exact hKc _ _ h _ _ _ (lv_sub hl [5] rfl) hM
        · replace h := (if_neg c3).symm.trans h
          refine lv_aload_n hx hb dX5_early_73 rfl (lv_at hl 0 rfl) ?_
          refine lv_iload_n hx hb dX5_early_74 rfl (lv_at hl 1 rfl) ?_
          refine lv_iload_n hx hb dX5_early_75 rfl (lv_at hl 3 rfl) ?_
          refine lv_iload hx hb dX5_early_76 (lv_at hl 6 rfl) ?_
          refine lv_iadd hx hb dX5_early_78 ?_
          obtain ⟨x4, hx4, h⟩ := Option.bind_eq_some_iff.mp h
          refine m_callV (As := [.int u1, .int (u3 + v6)]) (st1 := [.int x4.1]) hx hb (hml.trans hl.1.symm) hown hts hKv hXs hXk hM (kX5_clockIn l D cI cZ ad hX0 u1 (u3 + v6) M _ hx4) (cwV 2 hts gX5_early_X5_clockIn rfl rfl rfl (by decide +kernel) ⟨Nat.le_of_ble_eq_true rfl, Nat.le_of_ble_eq_true rfl⟩) (by decide) at_X5 rfl rfl rfl rfl (Nat.le_of_ble_eq_true rfl) dX5_early_79 ⟨Nat.zero_le _, Nat.zero_le _⟩ (fun H locs hM => ?_)
          refine lv_istore (lv' := [(7, .int x4.1), (0, .ref (ad 0)), (1, .int u1), (2, .int u2), (3, .int u3), (4, .int u4), (5, .int v5), (6, .int v6)]) hx hb dX5_early_82 hl (by decide) rfl (fun ls hl => ?_)
          refine lv_aload_n hx hb dX5_early_84 rfl (lv_at hl 1 rfl) ?_
          refine lv_iload_n hx hb dX5_early_85 rfl (lv_at hl 3 rfl) ?_
          refine lv_iload_n hx hb dX5_early_86 rfl (lv_at hl 4 rfl) ?_
          refine lv_iload hx hb dX5_early_87 (lv_at hl 7 rfl) ?_
          refine lv_iadd hx hb dX5_early_89 ?_
          refine lv_iload hx hb dX5_early_90 (lv_at hl 5 rfl) ?_
          refine lv_iadd hx hb dX5_early_92 ?_
          obtain ⟨x5, hx5, h⟩ := Option.bind_eq_some_iff.mp h
          refine m_callV (As := [.int u2, .int ((u3 + v6) + u4)]) (st1 := [.int x5.1]) hx hb (hml.trans hl.1.symm) hown hts hKv hXs hXk hM (kX5_clockIn l D cI cZ ad hX0 u2 ((u3 + v6) + u4) x4.2 _ hx5) (cwV 2 hts gX5_early_X5_clockIn rfl rfl rfl (by decide +kernel) ⟨Nat.le_of_ble_eq_true rfl, Nat.le_of_ble_eq_true rfl⟩) (by decide) at_X5 rfl rfl rfl rfl (Nat.le_of_ble_eq_true rfl) dX5_early_93 ⟨Nat.zero_le _, Nat.zero_le _⟩ (fun H locs hM => ?_)
          refine lv_istore (lv' := [(8, .int x5.1), (7, .int x4.1), (0, .ref (ad 0)), (1, .int u1), (2, .int u2), (3, .int u3), (4, .int u4), (5, .int v5), (6, .int v6)]) hx hb dX5_early_96 hl (by decide) rfl (fun ls hl => ?_)
          refine lv_iload hx hb dX5_early_98 (lv_at hl 7 rfl) ?_
          refine lv_iload hx hb dX5_early_100 (lv_at hl 1 rfl) ?_
          refine lv_bipush (v := (-9 : Int32)) hx hb dX5_early_102 (by decide) ?_
          refine lv_icmp_eq (tgt := 128) hx hb dX5_early_104 (by decide) (fun c6 => ?_) (fun c6 => ?_)
          · replace h := (if_pos c6).symm.trans h
            refine lv_iconst (v := (0 : Int32)) hx hb dX5_early_128 (by decide) ?_
            refine lv_ior hx hb dX5_early_129 ?_
            refine lv_istore (lv' := [(5, .int (v5 ||| (0 : Int32))), (8, .int x5.1), (7, .int x4.1), (0, .ref (ad 0)), (1, .int u1), (2, .int u2), (3, .int u3), (4, .int u4), (6, .int v6)]) hx hb dX5_early_130 hl (by decide) rfl (fun ls hl => ?_)
            refine lv_iinc (v := (v6 + 1)) (lv' := [(6, .int (v6 + 1)), (5, .int (v5 ||| (0 : Int32))), (8, .int x5.1), (7, .int x4.1), (0, .ref (ad 0)), (1, .int u1), (2, .int u2), (3, .int u3), (4, .int u4)]) hx hb dX5_early_132 hl (k := 8) rfl rfl (by decide) rfl (fun ls hl => ?_)
            refine lv_goto (tgt := 49) hx hb dX5_early_135 (by decide) ?_
            exact ih _ _ _ h _ _ _ (lv_sub hl [4, 5, 6, 7, 8, 1, 0] rfl) hM
          · replace h := (if_neg c6).symm.trans h
            refine lv_iload hx hb dX5_early_107 (lv_at hl 0 rfl) ?_
            refine lv_bipush (v := (-9 : Int32)) hx hb dX5_early_109 (by decide) ?_
            refine lv_icmp_eq (tgt := 128) hx hb dX5_early_111 (by decide) (fun c7 => ?_) (fun c7 => ?_)
            · replace h := (if_pos c7).symm.trans h
              refine lv_iconst (v := (0 : Int32)) hx hb dX5_early_128 (by decide) ?_
              refine lv_ior hx hb dX5_early_129 ?_
              refine lv_istore (lv' := [(5, .int (v5 ||| (0 : Int32))), (8, .int x5.1), (7, .int x4.1), (0, .ref (ad 0)), (1, .int u1), (2, .int u2), (3, .int u3), (4, .int u4), (6, .int v6)]) hx hb dX5_early_130 hl (by decide) rfl (fun ls hl => ?_)
              refine lv_iinc (v := (v6 + 1)) (lv' := [(6, .int (v6 + 1)), (5, .int (v5 ||| (0 : Int32))), (8, .int x5.1), (7, .int x4.1), (0, .ref (ad 0)), (1, .int u1), (2, .int u2), (3, .int u3), (4, .int u4)]) hx hb dX5_early_132 hl (k := 8) rfl rfl (by decide) rfl (fun ls hl => ?_)
              refine lv_goto (tgt := 49) hx hb dX5_early_135 (by decide) ?_
              exact ih _ _ _ h _ _ _ (lv_sub hl [4, 5, 6, 7, 8, 1, 0] rfl) hM
            · replace h := (if_neg c7).symm.trans h
              refine lv_iload hx hb dX5_early_114 (lv_at hl 0 rfl) ?_
              refine lv_iload hx hb dX5_early_116 (lv_at hl 1 rfl) ?_
              refine lv_icmp_ge (tgt := 128) hx hb dX5_early_118 (by decide) (fun c8 => ?_) (fun c8 => ?_)
              · replace h := (if_pos c8).symm.trans h
                refine lv_iconst (v := (0 : Int32)) hx hb dX5_early_128 (by decide) ?_
                refine lv_ior hx hb dX5_early_129 ?_
                refine lv_istore (lv' := [(5, .int (v5 ||| (0 : Int32))), (8, .int x5.1), (7, .int x4.1), (0, .ref (ad 0)), (1, .int u1), (2, .int u2), (3, .int u3), (4, .int u4), (6, .int v6)]) hx hb dX5_early_130 hl (by decide) rfl (fun ls hl => ?_)
                refine lv_iinc (v := (v6 + 1)) (lv' := [(6, .int (v6 + 1)), (5, .int (v5 ||| (0 : Int32))), (8, .int x5.1), (7, .int x4.1), (0, .ref (ad 0)), (1, .int u1), (2, .int u2), (3, .int u3), (4, .int u4)]) hx hb dX5_early_132 hl (k := 8) rfl rfl (by decide) rfl (fun ls hl => ?_)
                refine lv_goto (tgt := 49) hx hb dX5_early_135 (by decide) ?_
                exact ih _ _ _ h _ _ _ (lv_sub hl [4, 5, 6, 7, 8, 1, 0] rfl) hM
              · replace h := (if_neg c8).symm.trans h
                refine lv_iconst (v := (1 : Int32)) hx hb dX5_early_121 (by decide) ?_
                refine lv_iload hx hb dX5_early_122 (lv_at hl 8 rfl) ?_
                refine lv_ishl hx hb dX5_early_124 ?_
                refine lv_goto (tgt := 129) hx hb dX5_early_125 (by decide) ?_
                refine lv_ior hx hb dX5_early_129 ?_
                refine lv_istore (lv' := [(5, .int (v5 ||| ((1 : Int32) <<< (v6 &&& 31)))), (8, .int x5.1), (7, .int x4.1), (0, .ref (ad 0)), (1, .int u1), (2, .int u2), (3, .int u3), (4, .int u4), (6, .int v6)]) hx hb dX5_early_130 hl (by decide) rfl (fun ls hl => ?_)
                refine lv_iinc (v := (v6 + 1)) (lv' := [(6, .int (v6 + 1)), (5, .int (v5 ||| ((1 : Int32) <<< (v6 &&& 31)))), (8, .int x5.1), (7, .int x4.1), (0, .ref (ad 0)), (1, .int u1), (2, .int u2), (3, .int u3), (4, .int u4)]) hx hb dX5_early_132 hl (k := 8) rfl rfl (by decide) rfl (fun ls hl => ?_)
                refine lv_goto (tgt := 49) hx hb dX5_early_135 (by decide) ?_
                exact ih _ _ _ h _ _ _ (lv_sub hl [4, 5, 6, 7, 8, 1, 0] rfl) hM
set_option maxHeartbeats 4000000 in
set_option maxRecDepth 100000 in
theorem kX5_early (l : Launch) (D : va_G) (cI cZ : ClassId) (ad : Nat → Nat) {X : State → Prop} (hX0 : mX ad 14 X) (a1 : Int32) (a2 : Int32) (a3 : Int32) (M : Mem) (res : (Int32 × Mem)) (h : fX5_early a1 a2 a3 M = some res) : mC l yX5_early wsX5_early { frames := 4, cells := 0, slots := 0, locals := 95 } D [(cI, .int), (cZ, .boolean)] ad 14 X [.ref (ad 0), .int a1, .int a2, .int a3] (Em ad cI cZ M) (some (.int res.1)) (Em ad cI cZ res.2) := by
  refine m_ofW (cc := cX5_early) (maxL := 9) (ret := (some .int)) (by decide) rfl (Nat.le_of_ble_eq_true rfl) ?_
  intro p e s m args below meth c hx hb hml hr hlocks hts hown hKv hXs ls hl hM
  have hXk := hX0
  have Z : mZ p s m args meth c cX5_early 9 (some .int) wsX5_early RX5 D [(cI, .int), (cZ, .boolean)] X := ⟨hx, hb, hml, hr, hlocks, hts, hown, hKv, hXs⟩
  replace hown : s.vm.findClass RX5 = some m.cls := hown
  have hl : lv_has ls 9 [(0, .ref (ad 0)), (1, .int a1), (2, .int a2), (3, .int a3)] := hl
  have k0 := hts (Cond.fieldLink RX5 53 "NoonWalkerModel" "thrown" "I") (List.mem_of_getElem? (i := 1) rfl)
  unfold fX5_early at h
  refine lv_aload_n hx hb dX5_early_0 rfl (lv_at hl 0 rfl) ?_
  refine lv_iconst (v := (0 : Int32)) hx hb dX5_early_1 (by decide) ?_
  obtain ⟨M1, hM1, h⟩ := Option.bind_eq_some_iff.mp h
  refine m_put hx hb hts hown hKv hM (fun _ h => List.mem_cons_of_mem _ (List.mem_append_right _ (h))) tyX5 tyX5_ok nmX5 (by decide) at_X5 rfl 0 (by decide) k0 rfl rfl rfl (Nat.le_of_ble_eq_true rfl) (pt_X5_0 (Option.some.inj hM1)) dX5_early_2 (fun H locs hM => ?_)
  refine lv_aload_n hx hb dX5_early_5 rfl (lv_at hl 0 rfl) ?_
  refine lv_iload_n hx hb dX5_early_6 rfl (lv_at hl 1 rfl) ?_
  obtain ⟨x2, hx2, h⟩ := Option.bind_eq_some_iff.mp h
  refine m_callV (As := [.int a1]) (st1 := [.int x2]) hx hb (hml.trans hl.1.symm) hown hts hKv hXs hXk hM (kX5_isTown l D cI cZ ad hX0 a1 M1 _ hx2) (cwV 1 hts gX5_early_X5_isTown rfl rfl rfl (by decide +kernel) ⟨Nat.le_of_ble_eq_true rfl, Nat.le_of_ble_eq_true rfl⟩) (by decide) at_X5 rfl rfl rfl rfl (Nat.le_of_ble_eq_true rfl) dX5_early_7 ⟨Nat.zero_le _, Nat.zero_le _⟩ (fun H locs hM => ?_)
  refine lv_if_eq (tgt := 33) hx hb dX5_early_10 (by decide) (fun c3 => ?_) (fun c3 => ?_)
  · replace h := (if_pos c3).symm.trans h
    refine lv_iconst (v := (-1 : Int32)) hx hb dX5_early_33 (by decide) ?_
    exact m_iret hx hb hr hlocks hM (congrArg (a₁ := ((-1 : Int32), M1)) Prod.fst (Option.some.inj h)) (congrArg (a₁ := ((-1 : Int32), M1)) (fun z => Em ad cI cZ z.2) (Option.some.inj h)) dX5_early_34
  · replace h := (if_neg c3).symm.trans h
    refine lv_aload_n hx hb dX5_early_13 rfl (lv_at hl 0 rfl) ?_
    refine lv_iload_n hx hb dX5_early_14 rfl (lv_at hl 2 rfl) ?_
    obtain ⟨x4, hx4, h⟩ := Option.bind_eq_some_iff.mp h
    refine m_callV (As := [.int a2]) (st1 := [.int x4]) hx hb (hml.trans hl.1.symm) hown hts hKv hXs hXk hM (kX5_isTown l D cI cZ ad hX0 a2 M1 _ hx4) (cwV 1 hts gX5_early_X5_isTown rfl rfl rfl (by decide +kernel) ⟨Nat.le_of_ble_eq_true rfl, Nat.le_of_ble_eq_true rfl⟩) (by decide) at_X5 rfl rfl rfl rfl (Nat.le_of_ble_eq_true rfl) dX5_early_15 ⟨Nat.zero_le _, Nat.zero_le _⟩ (fun H locs hM => ?_)
    refine lv_if_eq (tgt := 33) hx hb dX5_early_18 (by decide) (fun c5 => ?_) (fun c5 => ?_)
    · replace h := (if_pos c5).symm.trans h
      refine lv_iconst (v := (-1 : Int32)) hx hb dX5_early_33 (by decide) ?_
      exact m_iret hx hb hr hlocks hM (congrArg (a₁ := ((-1 : Int32), M1)) Prod.fst (Option.some.inj h)) (congrArg (a₁ := ((-1 : Int32), M1)) (fun z => Em ad cI cZ z.2) (Option.some.inj h)) dX5_early_34
    · replace h := (if_neg c5).symm.trans h
      refine lv_iload_n hx hb dX5_early_21 rfl (lv_at hl 1 rfl) ?_
      refine lv_iload_n hx hb dX5_early_22 rfl (lv_at hl 2 rfl) ?_
      refine lv_icmp_eq (tgt := 33) hx hb dX5_early_23 (by decide) (fun c6 => ?_) (fun c6 => ?_)
      · replace h := (if_pos c6).symm.trans h
        refine lv_iconst (v := (-1 : Int32)) hx hb dX5_early_33 (by decide) ?_
        exact m_iret hx hb hr hlocks hM (congrArg (a₁ := ((-1 : Int32), M1)) Prod.fst (Option.some.inj h)) (congrArg (a₁ := ((-1 : Int32), M1)) (fun z => Em ad cI cZ z.2) (Option.some.inj h)) dX5_early_34
      · replace h := (if_neg c6).symm.trans h
        refine lv_iload_n hx hb dX5_early_26 rfl (lv_at hl 3 rfl) ?_
        obtain ⟨x7, hx7, h⟩ := Option.bind_eq_some_iff.mp h
        refine m_callS (As := [.int a3]) (st1 := [.int x7]) hx hb (hml.trans hl.1.symm) hown hts hKv hXs hXk hM (kX5_isHour l D cI cZ ad hX0 a3 M1 _ hx7) (va_cwS 1 hts gX5_early_X5_isHour rfl rfl rfl (by decide +kernel) ⟨Nat.le_of_ble_eq_true rfl, Nat.le_of_ble_eq_true rfl⟩) rfl rfl rfl (Nat.le_of_ble_eq_true rfl) dX5_early_27 ⟨Nat.zero_le _, Nat.zero_le _⟩ (fun H locs hM => ?_)
        refine lv_if_ne (tgt := 35) hx hb dX5_early_30 (by decide) (fun c8 => ?_) (fun c8 => ?_)
        · replace h := (if_neg c8).symm.trans h
          refine lv_aload_n hx hb dX5_early_35 rfl (lv_at hl 0 rfl) ?_
          refine lv_iload_n hx hb dX5_early_36 rfl (lv_at hl 1 rfl) ?_
          refine lv_iload_n hx hb dX5_early_37 rfl (lv_at hl 2 rfl) ?_
          obtain ⟨x9, hx9, h⟩ := Option.bind_eq_some_iff.mp h
          refine m_callV (As := [.int a1, .int a2]) (st1 := [.int x9]) hx hb (hml.trans hl.1.symm) hown hts hKv hXs hXk hM (kX5_farOf l D cI cZ ad hX0 a1 a2 M1 _ hx9) (cwV 2 hts gX5_early_X5_farOf rfl rfl rfl (by decide +kernel) ⟨Nat.le_of_ble_eq_true rfl, Nat.le_of_ble_eq_true rfl⟩) (by decide) at_X5 rfl rfl rfl rfl (Nat.le_of_ble_eq_true rfl) dX5_early_38 ⟨Nat.zero_le _, Nat.zero_le _⟩ (fun H locs hM => ?_)
          refine lv_istore (lv' := [(4, .int x9), (0, .ref (ad 0)), (1, .int a1), (2, .int a2), (3, .int a3)]) hx hb dX5_early_41 hl (by decide) rfl (fun ls hl => ?_)
          refine lv_iconst (v := (0 : Int32)) hx hb dX5_early_43 (by decide) ?_
          refine lv_istore (lv' := [(5, .int (0 : Int32)), (4, .int x9), (0, .ref (ad 0)), (1, .int a1), (2, .int a2), (3, .int a3)]) hx hb dX5_early_44 hl (by decide) rfl (fun ls hl => ?_)
          refine lv_iconst (v := (0 : Int32)) hx hb dX5_early_46 (by decide) ?_
          refine lv_istore (lv' := [(6, .int (0 : Int32)), (5, .int (0 : Int32)), (4, .int x9), (0, .ref (ad 0)), (1, .int a1), (2, .int a2), (3, .int a3)]) hx hb dX5_early_47 hl (by decide) rfl (fun ls hl => ?_)
          refine wX5_early_49 Z hX0 a1 a2 a3 x9 _ (fun y10 M11 h H locs ls hl hM => ?_) _ _ _ _ h _ _ _ (lv_sub hl [3, 4, 5, 6, 2, 1, 0] rfl) hM
          refine lv_iload hx hb dX5_early_138 (lv_at hl 0 rfl) ?_
          exact m_iret hx hb hr hlocks hM (congrArg (a₁ := (y10, M11)) Prod.fst (Option.some.inj h)) (congrArg (a₁ := (y10, M11)) (fun z => Em ad cI cZ z.2) (Option.some.inj h)) dX5_early_140
        · replace h := (if_pos c8).symm.trans h
          refine lv_iconst (v := (-1 : Int32)) hx hb dX5_early_33 (by decide) ?_
          exact m_iret hx hb hr hlocks hM (congrArg (a₁ := ((-1 : Int32), M1)) Prod.fst (Option.some.inj h)) (congrArg (a₁ := ((-1 : Int32), M1)) (fun z => Em ad cI cZ z.2) (Option.some.inj h)) dX5_early_34
set_option maxHeartbeats 4000000 in
set_option maxRecDepth 100000 in
theorem kX5_meets (l : Launch) (D : va_G) (cI cZ : ClassId) (ad : Nat → Nat) {X : State → Prop} (hX0 : mX ad 14 X) (a1 : Int32) (a2 : Int32) (a3 : Int32) (a4 : Int32) (a5 : Int32) (a6 : Int32) (M : Mem) (res : (Int32 × Mem)) (h : fX5_meets a1 a2 a3 a4 a5 a6 M = some res) : mC l yX5_meets wsX5_meets { frames := 4, cells := 0, slots := 0, locals := 95 } D [(cI, .int), (cZ, .boolean)] ad 14 X [.ref (ad 0), .int a1, .int a2, .int a3, .int a4, .int a5, .int a6] (Em ad cI cZ M) (some (.int res.1)) (Em ad cI cZ res.2) := by
  refine m_ofW (cc := cX5_meets) (maxL := 10) (ret := (some .int)) (by decide) rfl (Nat.le_of_ble_eq_true rfl) ?_
  intro p e s m args below meth c hx hb hml hr hlocks hts hown hKv hXs ls hl hM
  have hXk := hX0
  have Z : mZ p s m args meth c cX5_meets 10 (some .int) wsX5_meets RX5 D [(cI, .int), (cZ, .boolean)] X := ⟨hx, hb, hml, hr, hlocks, hts, hown, hKv, hXs⟩
  replace hown : s.vm.findClass RX5 = some m.cls := hown
  have hl : lv_has ls 10 [(0, .ref (ad 0)), (1, .int a1), (2, .int a2), (3, .int a3), (4, .int a4), (5, .int a5), (6, .int a6)] := hl
  have k0 := hts (Cond.fieldLink RX5 53 "NoonWalkerModel" "thrown" "I") (List.mem_of_getElem? (i := 1) rfl)
  unfold fX5_meets at h
  refine lv_aload_n hx hb dX5_meets_0 rfl (lv_at hl 0 rfl) ?_
  refine lv_iconst (v := (0 : Int32)) hx hb dX5_meets_1 (by decide) ?_
  obtain ⟨M1, hM1, h⟩ := Option.bind_eq_some_iff.mp h
  refine m_put hx hb hts hown hKv hM (fun _ h => List.mem_cons_of_mem _ (List.mem_append_right _ (h))) tyX5 tyX5_ok nmX5 (by decide) at_X5 rfl 0 (by decide) k0 rfl rfl rfl (Nat.le_of_ble_eq_true rfl) (pt_X5_0 (Option.some.inj hM1)) dX5_meets_2 (fun H locs hM => ?_)
  refine lv_aload_n hx hb dX5_meets_5 rfl (lv_at hl 0 rfl) ?_
  refine lv_iload_n hx hb dX5_meets_6 rfl (lv_at hl 1 rfl) ?_
  obtain ⟨x2, hx2, h⟩ := Option.bind_eq_some_iff.mp h
  refine m_callV (As := [.int a1]) (st1 := [.int x2]) hx hb (hml.trans hl.1.symm) hown hts hKv hXs hXk hM (kX5_isTown l D cI cZ ad hX0 a1 M1 _ hx2) (cwV 1 hts gX5_meets_X5_isTown rfl rfl rfl (by decide +kernel) ⟨Nat.le_of_ble_eq_true rfl, Nat.le_of_ble_eq_true rfl⟩) (by decide) at_X5 rfl rfl rfl rfl (Nat.le_of_ble_eq_true rfl) dX5_meets_7 ⟨Nat.zero_le _, Nat.zero_le _⟩ (fun H locs hM => ?_)
  refine lv_if_eq (tgt := 63) hx hb dX5_meets_10 (by decide) (fun c3 => ?_) (fun c3 => ?_)
  · replace h := (if_pos c3).symm.trans h
    refine lv_iconst (v := (-1 : Int32)) hx hb dX5_meets_63 (by decide) ?_
    exact m_iret hx hb hr hlocks hM (congrArg (a₁ := ((-1 : Int32), M1)) Prod.fst (Option.some.inj h)) (congrArg (a₁ := ((-1 : Int32), M1)) (fun z => Em ad cI cZ z.2) (Option.some.inj h)) dX5_meets_64
  · replace h := (if_neg c3).symm.trans h
    refine lv_iload_n hx hb dX5_meets_13 rfl (lv_at hl 2 rfl) ?_
    refine lv_iconst (v := (0 : Int32)) hx hb dX5_meets_14 (by decide) ?_
    refine lv_sipush (v := (900 : Int32)) hx hb dX5_meets_15 (by decide) ?_
    obtain ⟨x4, hx4, h⟩ := Option.bind_eq_some_iff.mp h
    refine m_callS (As := [.int a2, .int (0 : Int32), .int (900 : Int32)]) (st1 := [.int x4]) hx hb (hml.trans hl.1.symm) hown hts hKv hXs hXk hM (kX5_in l D cI cZ ad hX0 a2 (0 : Int32) (900 : Int32) M1 _ hx4) (va_cwS 3 hts gX5_meets_X5_in rfl rfl rfl (by decide +kernel) ⟨Nat.le_of_ble_eq_true rfl, Nat.le_of_ble_eq_true rfl⟩) rfl rfl rfl (Nat.le_of_ble_eq_true rfl) dX5_meets_18 ⟨Nat.zero_le _, Nat.zero_le _⟩ (fun H locs hM => ?_)
    refine lv_if_eq (tgt := 63) hx hb dX5_meets_21 (by decide) (fun c5 => ?_) (fun c5 => ?_)
    · replace h := (if_pos c5).symm.trans h
      refine lv_iconst (v := (-1 : Int32)) hx hb dX5_meets_63 (by decide) ?_
      exact m_iret hx hb hr hlocks hM (congrArg (a₁ := ((-1 : Int32), M1)) Prod.fst (Option.some.inj h)) (congrArg (a₁ := ((-1 : Int32), M1)) (fun z => Em ad cI cZ z.2) (Option.some.inj h)) dX5_meets_64
    · replace h := (if_neg c5).symm.trans h
      refine lv_aload_n hx hb dX5_meets_24 rfl (lv_at hl 0 rfl) ?_
      refine lv_iload_n hx hb dX5_meets_25 rfl (lv_at hl 3 rfl) ?_
      obtain ⟨x6, hx6, h⟩ := Option.bind_eq_some_iff.mp h
      refine m_callV (As := [.int a3]) (st1 := [.int x6]) hx hb (hml.trans hl.1.symm) hown hts hKv hXs hXk hM (kX5_isTown l D cI cZ ad hX0 a3 M1 _ hx6) (cwV 1 hts gX5_meets_X5_isTown rfl rfl rfl (by decide +kernel) ⟨Nat.le_of_ble_eq_true rfl, Nat.le_of_ble_eq_true rfl⟩) (by decide) at_X5 rfl rfl rfl rfl (Nat.le_of_ble_eq_true rfl) dX5_meets_26 ⟨Nat.zero_le _, Nat.zero_le _⟩ (fun H locs hM => ?_)
      refine lv_if_eq (tgt := 63) hx hb dX5_meets_29 (by decide) (fun c7 => ?_) (fun c7 => ?_)
      · replace h := (if_pos c7).symm.trans h
        refine lv_iconst (v := (-1 : Int32)) hx hb dX5_meets_63 (by decide) ?_
        exact m_iret hx hb hr hlocks hM (congrArg (a₁ := ((-1 : Int32), M1)) Prod.fst (Option.some.inj h)) (congrArg (a₁ := ((-1 : Int32), M1)) (fun z => Em ad cI cZ z.2) (Option.some.inj h)) dX5_meets_64
      · replace h := (if_neg c7).symm.trans h
        refine lv_iload hx hb dX5_meets_32 (lv_at hl 4 rfl) ?_
        refine lv_iconst (v := (0 : Int32)) hx hb dX5_meets_34 (by decide) ?_
        refine lv_sipush (v := (900 : Int32)) hx hb dX5_meets_35 (by decide) ?_
        obtain ⟨x8, hx8, h⟩ := Option.bind_eq_some_iff.mp h
        refine m_callS (As := [.int a4, .int (0 : Int32), .int (900 : Int32)]) (st1 := [.int x8]) hx hb (hml.trans hl.1.symm) hown hts hKv hXs hXk hM (kX5_in l D cI cZ ad hX0 a4 (0 : Int32) (900 : Int32) M1 _ hx8) (va_cwS 3 hts gX5_meets_X5_in rfl rfl rfl (by decide +kernel) ⟨Nat.le_of_ble_eq_true rfl, Nat.le_of_ble_eq_true rfl⟩) rfl rfl rfl (Nat.le_of_ble_eq_true rfl) dX5_meets_38 ⟨Nat.zero_le _, Nat.zero_le _⟩ (fun H locs hM => ?_)
        refine lv_if_eq (tgt := 63) hx hb dX5_meets_41 (by decide) (fun c9 => ?_) (fun c9 => ?_)
        · replace h := (if_pos c9).symm.trans h
          refine lv_iconst (v := (-1 : Int32)) hx hb dX5_meets_63 (by decide) ?_
          exact m_iret hx hb hr hlocks hM (congrArg (a₁ := ((-1 : Int32), M1)) Prod.fst (Option.some.inj h)) (congrArg (a₁ := ((-1 : Int32), M1)) (fun z => Em ad cI cZ z.2) (Option.some.inj h)) dX5_meets_64
        · replace h := (if_neg c9).symm.trans h
          refine lv_aload_n hx hb dX5_meets_44 rfl (lv_at hl 0 rfl) ?_
          refine lv_iload hx hb dX5_meets_45 (lv_at hl 5 rfl) ?_
          obtain ⟨x10, hx10, h⟩ := Option.bind_eq_some_iff.mp h
          refine m_callV (As := [.int a5]) (st1 := [.int x10]) hx hb (hml.trans hl.1.symm) hown hts hKv hXs hXk hM (kX5_isTown l D cI cZ ad hX0 a5 M1 _ hx10) (cwV 1 hts gX5_meets_X5_isTown rfl rfl rfl (by decide +kernel) ⟨Nat.le_of_ble_eq_true rfl, Nat.le_of_ble_eq_true rfl⟩) (by decide) at_X5 rfl rfl rfl rfl (Nat.le_of_ble_eq_true rfl) dX5_meets_47 ⟨Nat.zero_le _, Nat.zero_le _⟩ (fun H locs hM => ?_)
          refine lv_if_eq (tgt := 63) hx hb dX5_meets_50 (by decide) (fun c11 => ?_) (fun c11 => ?_)
          · replace h := (if_pos c11).symm.trans h
            refine lv_iconst (v := (-1 : Int32)) hx hb dX5_meets_63 (by decide) ?_
            exact m_iret hx hb hr hlocks hM (congrArg (a₁ := ((-1 : Int32), M1)) Prod.fst (Option.some.inj h)) (congrArg (a₁ := ((-1 : Int32), M1)) (fun z => Em ad cI cZ z.2) (Option.some.inj h)) dX5_meets_64
          · replace h := (if_neg c11).symm.trans h
            refine lv_iload hx hb dX5_meets_53 (lv_at hl 6 rfl) ?_
            refine lv_iconst (v := (0 : Int32)) hx hb dX5_meets_55 (by decide) ?_
            refine lv_iconst (v := (1 : Int32)) hx hb dX5_meets_56 (by decide) ?_
            obtain ⟨x12, hx12, h⟩ := Option.bind_eq_some_iff.mp h
            refine m_callS (As := [.int a6, .int (0 : Int32), .int (1 : Int32)]) (st1 := [.int x12]) hx hb (hml.trans hl.1.symm) hown hts hKv hXs hXk hM (kX5_in l D cI cZ ad hX0 a6 (0 : Int32) (1 : Int32) M1 _ hx12) (va_cwS 3 hts gX5_meets_X5_in rfl rfl rfl (by decide +kernel) ⟨Nat.le_of_ble_eq_true rfl, Nat.le_of_ble_eq_true rfl⟩) rfl rfl rfl (Nat.le_of_ble_eq_true rfl) dX5_meets_57 ⟨Nat.zero_le _, Nat.zero_le _⟩ (fun H locs hM => ?_)
            refine lv_if_ne (tgt := 65) hx hb dX5_meets_60 (by decide) (fun c13 => ?_) (fun c13 => ?_)
            · replace h := (if_neg c13).symm.trans h
              refine lv_aload_n hx hb dX5_meets_65 rfl (lv_at hl 0 rfl) ?_
              refine lv_iload_n hx hb dX5_meets_66 rfl (lv_at hl 1 rfl) ?_
              refine lv_iload hx hb dX5_meets_67 (lv_at hl 5 rfl) ?_
              obtain ⟨x14, hx14, h⟩ := Option.bind_eq_some_iff.mp h
              refine m_callV (As := [.int a1, .int a5]) (st1 := [.int x14]) hx hb (hml.trans hl.1.symm) hown hts hKv hXs hXk hM (kX5_farOf l D cI cZ ad hX0 a1 a5 M1 _ hx14) (cwV 2 hts gX5_meets_X5_farOf rfl rfl rfl (by decide +kernel) ⟨Nat.le_of_ble_eq_true rfl, Nat.le_of_ble_eq_true rfl⟩) (by decide) at_X5 rfl rfl rfl rfl (Nat.le_of_ble_eq_true rfl) dX5_meets_69 ⟨Nat.zero_le _, Nat.zero_le _⟩ (fun H locs hM => ?_)
              refine lv_bipush (v := (-9 : Int32)) hx hb dX5_meets_72 (by decide) ?_
              refine lv_icmp_eq (tgt := 89) hx hb dX5_meets_74 (by decide) (fun c15 => ?_) (fun c15 => ?_)
              · replace h := (if_pos c15).symm.trans h
                refine lv_bipush (v := (-9 : Int32)) hx hb dX5_meets_89 (by decide) ?_
                exact m_iret hx hb hr hlocks hM (congrArg (a₁ := ((-9 : Int32), M1)) Prod.fst (Option.some.inj h)) (congrArg (a₁ := ((-9 : Int32), M1)) (fun z => Em ad cI cZ z.2) (Option.some.inj h)) dX5_meets_91
              · replace h := (if_neg c15).symm.trans h
                refine lv_aload_n hx hb dX5_meets_77 rfl (lv_at hl 0 rfl) ?_
                refine lv_iload_n hx hb dX5_meets_78 rfl (lv_at hl 3 rfl) ?_
                refine lv_iload hx hb dX5_meets_79 (lv_at hl 5 rfl) ?_
                obtain ⟨x16, hx16, h⟩ := Option.bind_eq_some_iff.mp h
                refine m_callV (As := [.int a3, .int a5]) (st1 := [.int x16]) hx hb (hml.trans hl.1.symm) hown hts hKv hXs hXk hM (kX5_farOf l D cI cZ ad hX0 a3 a5 M1 _ hx16) (cwV 2 hts gX5_meets_X5_farOf rfl rfl rfl (by decide +kernel) ⟨Nat.le_of_ble_eq_true rfl, Nat.le_of_ble_eq_true rfl⟩) (by decide) at_X5 rfl rfl rfl rfl (Nat.le_of_ble_eq_true rfl) dX5_meets_81 ⟨Nat.zero_le _, Nat.zero_le _⟩ (fun H locs hM => ?_)
                refine lv_bipush (v := (-9 : Int32)) hx hb dX5_meets_84 (by decide) ?_
                refine lv_icmp_ne (tgt := 92) hx hb dX5_meets_86 (by decide) (fun c17 => ?_) (fun c17 => ?_)
                · replace h := (if_neg c17).symm.trans h
                  refine lv_iload_n hx hb dX5_meets_92 rfl (lv_at hl 2 rfl) ?_
                  refine lv_aload_n hx hb dX5_meets_93 rfl (lv_at hl 0 rfl) ?_
                  refine lv_iload_n hx hb dX5_meets_94 rfl (lv_at hl 1 rfl) ?_
                  refine lv_iload hx hb dX5_meets_95 (lv_at hl 5 rfl) ?_
                  obtain ⟨x18, hx18, h⟩ := Option.bind_eq_some_iff.mp h
                  refine m_callV (As := [.int a1, .int a5]) (st1 := [.int x18, .int a2]) hx hb (hml.trans hl.1.symm) hown hts hKv hXs hXk hM (kX5_farOf l D cI cZ ad hX0 a1 a5 M1 _ hx18) (cwV 2 hts gX5_meets_X5_farOf rfl rfl rfl (by decide +kernel) ⟨Nat.le_of_ble_eq_true rfl, Nat.le_of_ble_eq_true rfl⟩) (by decide) at_X5 rfl rfl rfl rfl (Nat.le_of_ble_eq_true rfl) dX5_meets_97 ⟨Nat.zero_le _, Nat.zero_le _⟩ (fun H locs hM => ?_)
                  refine lv_iadd hx hb dX5_meets_100 ?_
                  refine lv_istore (lv' := [(7, .int (a2 + x18)), (0, .ref (ad 0)), (1, .int a1), (2, .int a2), (3, .int a3), (4, .int a4), (5, .int a5), (6, .int a6)]) hx hb dX5_meets_101 hl (by decide) rfl (fun ls hl => ?_)
                  refine lv_iload hx hb dX5_meets_103 (lv_at hl 5 rfl) ?_
                  refine lv_aload_n hx hb dX5_meets_105 rfl (lv_at hl 1 rfl) ?_
                  refine lv_iload_n hx hb dX5_meets_106 rfl (lv_at hl 4 rfl) ?_
                  refine lv_iload hx hb dX5_meets_107 (lv_at hl 6 rfl) ?_
                  obtain ⟨x19, hx19, h⟩ := Option.bind_eq_some_iff.mp h
                  refine m_callV (As := [.int a3, .int a5]) (st1 := [.int x19, .int a4]) hx hb (hml.trans hl.1.symm) hown hts hKv hXs hXk hM (kX5_farOf l D cI cZ ad hX0 a3 a5 M1 _ hx19) (cwV 2 hts gX5_meets_X5_farOf rfl rfl rfl (by decide +kernel) ⟨Nat.le_of_ble_eq_true rfl, Nat.le_of_ble_eq_true rfl⟩) (by decide) at_X5 rfl rfl rfl rfl (Nat.le_of_ble_eq_true rfl) dX5_meets_109 ⟨Nat.zero_le _, Nat.zero_le _⟩ (fun H locs hM => ?_)
                  refine lv_iadd hx hb dX5_meets_112 ?_
                  refine lv_istore (lv' := [(8, .int (a4 + x19)), (7, .int (a2 + x18)), (0, .ref (ad 0)), (1, .int a1), (2, .int a2), (3, .int a3), (4, .int a4), (5, .int a5), (6, .int a6)]) hx hb dX5_meets_113 hl (by decide) rfl (fun ls hl => ?_)
                  refine lv_iload hx hb dX5_meets_115 (lv_at hl 1 rfl) ?_
                  refine lv_iload hx hb dX5_meets_117 (lv_at hl 0 rfl) ?_
                  refine lv_icmp_le (tgt := 127) hx hb dX5_meets_119 (by decide) (fun c20 => ?_) (fun c20 => ?_)
                  · replace h := (if_pos c20).symm.trans h
                    refine lv_iload hx hb dX5_meets_127 (lv_at hl 0 rfl) ?_
                    refine lv_istore (lv' := [(9, .int (a4 + x19)), (8, .int (a4 + x19)), (7, .int (a2 + x18)), (0, .ref (ad 0)), (1, .int a1), (2, .int a2), (3, .int a3), (4, .int a4), (5, .int a5), (6, .int a6)]) hx hb dX5_meets_129 hl (by decide) rfl (fun ls hl => ?_)
                    refine lv_iload hx hb dX5_meets_131 (lv_at hl 9 rfl) ?_
                    refine lv_if_ne (tgt := 141) hx hb dX5_meets_133 (by decide) (fun c21 => ?_) (fun c21 => ?_)
                    · replace h := (if_neg c21).symm.trans h
                      refine lv_aload_n hx hb dX5_meets_141 rfl (lv_at hl 3 rfl) ?_
                      refine lv_iload hx hb dX5_meets_142 (lv_at hl 8 rfl) ?_
                      refine lv_iload hx hb dX5_meets_144 (lv_at hl 0 rfl) ?_
                      obtain ⟨x22, hx22, h⟩ := Option.bind_eq_some_iff.mp h
                      refine m_callV (As := [.int a5, .int (a4 + x19)]) (st1 := [.int x22.1]) hx hb (hml.trans hl.1.symm) hown hts hKv hXs hXk hM (kX5_clockIn l D cI cZ ad hX0 a5 (a4 + x19) M1 _ hx22) (cwV 2 hts gX5_meets_X5_clockIn rfl rfl rfl (by decide +kernel) ⟨Nat.le_of_ble_eq_true rfl, Nat.le_of_ble_eq_true rfl⟩) (by decide) at_X5 rfl rfl rfl rfl (Nat.le_of_ble_eq_true rfl) dX5_meets_146 ⟨Nat.zero_le _, Nat.zero_le _⟩ (fun H locs hM => ?_)
                      exact m_iret hx hb hr hlocks hM (congrArg (a₁ := (x22.1, x22.2)) Prod.fst (Option.some.inj h)) (congrArg (a₁ := (x22.1, x22.2)) (fun z => Em ad cI cZ z.2) (Option.some.inj h)) dX5_meets_149
                    · replace h := (if_pos c21).symm.trans h
                      refine lv_iload hx hb dX5_meets_136 (lv_at hl 0 rfl) ?_
                      refine lv_goto (tgt := 149) hx hb dX5_meets_138 (by decide) ?_
                      exact m_iret hx hb hr hlocks hM (congrArg (a₁ := ((a4 + x19), M1)) Prod.fst (Option.some.inj h)) (congrArg (a₁ := ((a4 + x19), M1)) (fun z => Em ad cI cZ z.2) (Option.some.inj h)) dX5_meets_149
                  · replace h := (if_neg c20).symm.trans h
                    refine lv_iload hx hb dX5_meets_122 (lv_at hl 1 rfl) ?_
                    refine lv_goto (tgt := 129) hx hb dX5_meets_124 (by decide) ?_
                    refine lv_istore (lv' := [(9, .int (a2 + x18)), (8, .int (a4 + x19)), (7, .int (a2 + x18)), (0, .ref (ad 0)), (1, .int a1), (2, .int a2), (3, .int a3), (4, .int a4), (5, .int a5), (6, .int a6)]) hx hb dX5_meets_129 hl (by decide) rfl (fun ls hl => ?_)
                    refine lv_iload hx hb dX5_meets_131 (lv_at hl 9 rfl) ?_
                    refine lv_if_ne (tgt := 141) hx hb dX5_meets_133 (by decide) (fun c23 => ?_) (fun c23 => ?_)
                    · replace h := (if_neg c23).symm.trans h
                      refine lv_aload_n hx hb dX5_meets_141 rfl (lv_at hl 3 rfl) ?_
                      refine lv_iload hx hb dX5_meets_142 (lv_at hl 8 rfl) ?_
                      refine lv_iload hx hb dX5_meets_144 (lv_at hl 0 rfl) ?_
                      obtain ⟨x24, hx24, h⟩ := Option.bind_eq_some_iff.mp h
                      refine m_callV (As := [.int a5, .int (a2 + x18)]) (st1 := [.int x24.1]) hx hb (hml.trans hl.1.symm) hown hts hKv hXs hXk hM (kX5_clockIn l D cI cZ ad hX0 a5 (a2 + x18) M1 _ hx24) (cwV 2 hts gX5_meets_X5_clockIn rfl rfl rfl (by decide +kernel) ⟨Nat.le_of_ble_eq_true rfl, Nat.le_of_ble_eq_true rfl⟩) (by decide) at_X5 rfl rfl rfl rfl (Nat.le_of_ble_eq_true rfl) dX5_meets_146 ⟨Nat.zero_le _, Nat.zero_le _⟩ (fun H locs hM => ?_)
                      exact m_iret hx hb hr hlocks hM (congrArg (a₁ := (x24.1, x24.2)) Prod.fst (Option.some.inj h)) (congrArg (a₁ := (x24.1, x24.2)) (fun z => Em ad cI cZ z.2) (Option.some.inj h)) dX5_meets_149
                    · replace h := (if_pos c23).symm.trans h
                      refine lv_iload hx hb dX5_meets_136 (lv_at hl 0 rfl) ?_
                      refine lv_goto (tgt := 149) hx hb dX5_meets_138 (by decide) ?_
                      exact m_iret hx hb hr hlocks hM (congrArg (a₁ := ((a2 + x18), M1)) Prod.fst (Option.some.inj h)) (congrArg (a₁ := ((a2 + x18), M1)) (fun z => Em ad cI cZ z.2) (Option.some.inj h)) dX5_meets_149
                · replace h := (if_pos c17).symm.trans h
                  refine lv_bipush (v := (-9 : Int32)) hx hb dX5_meets_89 (by decide) ?_
                  exact m_iret hx hb hr hlocks hM (congrArg (a₁ := ((-9 : Int32), M1)) Prod.fst (Option.some.inj h)) (congrArg (a₁ := ((-9 : Int32), M1)) (fun z => Em ad cI cZ z.2) (Option.some.inj h)) dX5_meets_91
            · replace h := (if_pos c13).symm.trans h
              refine lv_iconst (v := (-1 : Int32)) hx hb dX5_meets_63 (by decide) ?_
              exact m_iret hx hb hr hlocks hM (congrArg (a₁ := ((-1 : Int32), M1)) Prod.fst (Option.some.inj h)) (congrArg (a₁ := ((-1 : Int32), M1)) (fun z => Em ad cI cZ z.2) (Option.some.inj h)) dX5_meets_64
set_option maxHeartbeats 4000000 in
set_option maxRecDepth 100000 in
theorem kX5_isSpan (l : Launch) (D : va_G) (cI cZ : ClassId) (ad : Nat → Nat) {X : State → Prop} (hX0 : mX ad 14 X) (a1 : Int32) (a2 : Int32) (M : Mem) (res : Int32) (h : fX5_isSpan a1 a2 = some res) : mC l yX5_isSpan wsX5_isSpan { frames := 2, cells := 0, slots := 0, locals := 42 } D [(cI, .int), (cZ, .boolean)] ad 14 X [.ref (ad 0), .int a1, .int a2] (Em ad cI cZ M) (some (.int res)) (Em ad cI cZ M) := by
  refine m_ofW (cc := cX5_isSpan) (maxL := 3) (ret := (some .boolean)) (by decide) rfl (Nat.le_of_ble_eq_true rfl) ?_
  intro p e s m args below meth c hx hb hml hr hlocks hts hown hKv hXs ls hl hM
  have hXk := hX0
  have Z : mZ p s m args meth c cX5_isSpan 3 (some .boolean) wsX5_isSpan RX5 D [(cI, .int), (cZ, .boolean)] X := ⟨hx, hb, hml, hr, hlocks, hts, hown, hKv, hXs⟩
  replace hown : s.vm.findClass RX5 = some m.cls := hown
  have hl : lv_has ls 3 [(0, .ref (ad 0)), (1, .int a1), (2, .int a2)] := hl
  unfold fX5_isSpan at h
  refine lv_iload_n hx hb dX5_isSpan_0 rfl (lv_at hl 1 rfl) ?_
  obtain ⟨x1, hx1, h⟩ := Option.bind_eq_some_iff.mp h
  refine m_callS (As := [.int a1]) (st1 := [.int x1]) hx hb (hml.trans hl.1.symm) hown hts hKv hXs hXk hM (kX5_isHour l D cI cZ ad hX0 a1 M _ hx1) (va_cwS 1 hts gX5_isSpan_X5_isHour rfl rfl rfl (by decide +kernel) ⟨Nat.le_of_ble_eq_true rfl, Nat.le_of_ble_eq_true rfl⟩) rfl rfl rfl (Nat.le_of_ble_eq_true rfl) dX5_isSpan_1 ⟨Nat.zero_le _, Nat.zero_le _⟩ (fun H locs hM => ?_)
  refine lv_if_eq (tgt := 22) hx hb dX5_isSpan_4 (by decide) (fun c2 => ?_) (fun c2 => ?_)
  · replace h := (if_pos c2).symm.trans h
    refine lv_iconst (v := (0 : Int32)) hx hb dX5_isSpan_22 (by decide) ?_
    exact m_zret hx hb hr hlocks hM (Option.some.inj h) rfl rfl dX5_isSpan_23
  · replace h := (if_neg c2).symm.trans h
    refine lv_iload_n hx hb dX5_isSpan_7 rfl (lv_at hl 2 rfl) ?_
    refine lv_iload_n hx hb dX5_isSpan_8 rfl (lv_at hl 1 rfl) ?_
    refine lv_sipush (v := (1000 : Int32)) hx hb dX5_isSpan_9 (by decide) ?_
    obtain ⟨x3, hx3, h⟩ := Option.bind_eq_some_iff.mp h
    refine m_callS (As := [.int a2, .int a1, .int (1000 : Int32)]) (st1 := [.int x3]) hx hb (hml.trans hl.1.symm) hown hts hKv hXs hXk hM (kX5_in l D cI cZ ad hX0 a2 a1 (1000 : Int32) M _ hx3) (va_cwS 3 hts gX5_isSpan_X5_in rfl rfl rfl (by decide +kernel) ⟨Nat.le_of_ble_eq_true rfl, Nat.le_of_ble_eq_true rfl⟩) rfl rfl rfl (Nat.le_of_ble_eq_true rfl) dX5_isSpan_12 ⟨Nat.zero_le _, Nat.zero_le _⟩ (fun H locs hM => ?_)
    refine lv_if_eq (tgt := 22) hx hb dX5_isSpan_15 (by decide) (fun c4 => ?_) (fun c4 => ?_)
    · replace h := (if_pos c4).symm.trans h
      refine lv_iconst (v := (0 : Int32)) hx hb dX5_isSpan_22 (by decide) ?_
      exact m_zret hx hb hr hlocks hM (Option.some.inj h) rfl rfl dX5_isSpan_23
    · replace h := (if_neg c4).symm.trans h
      refine lv_iconst (v := (1 : Int32)) hx hb dX5_isSpan_18 (by decide) ?_
      refine lv_goto (tgt := 23) hx hb dX5_isSpan_19 (by decide) ?_
      exact m_zret hx hb hr hlocks hM (Option.some.inj h) rfl rfl dX5_isSpan_23
set_option maxHeartbeats 4000000 in
set_option maxRecDepth 100000 in
theorem wX5_midnightsIn_6 {p : Program} {l : Launch} {e : Env} {s : State} {m : MethodId} {args : Array Value} {below : List Frame} {meth : Method} {c : Code} {D : va_G} {cI cZ : ClassId} {ad : Nat → Nat} {X : State → Prop} (Z : mZ p s m args meth c cX5_midnightsIn 6 (some .int) wsX5_midnightsIn RX5 D [(cI, .int), (cZ, .boolean)] X) (hX0 : mX ad 14 X)   (u1 : Int32) (u3 : Int32)  {K : Int32 → Mem → Option (Int32 × Mem)} (res : (Int32 × Mem)) (hKc : ∀ (y4 : Int32) (M1 : Mem), K y4 M1 = some res → ∀ (H : Heap) (locs : List Loc) (ls : Array Slot), lv_has ls 6 [(4, .int y4)] → mH D ad 14 (Em ad cI cZ M1) s.heap H locs → W p l e { frames := 4, cells := 0, slots := 0, locals := 95 } s m args below meth c H locs 0 0 (MQ below (mQ D ad 14 (some (.int res.1)) (Em ad cI cZ res.2)) args s 0 0 (mA ad 14)) (F0 m 55 ls [])) :
    ∀ (n : Nat) (v4 : Int32) (v5 : Int32) (M : Mem), fX5_midnightsIn_6 u1 u3 K n v4 v5 M = some res → ∀ (H : Heap) (locs : List Loc) (ls : Array Slot), lv_has ls 6 [(0, .ref (ad 0)), (1, .int u1), (3, .int u3), (4, .int v4), (5, .int v5)] → mH D ad 14 (Em ad cI cZ M) s.heap H locs → W p l e { frames := 4, cells := 0, slots := 0, locals := 95 } s m args below meth c H locs 0 0 (MQ below (mQ D ad 14 (some (.int res.1)) (Em ad cI cZ res.2)) args s 0 0 (mA ad 14)) (F0 m 6 ls []) := by
  obtain ⟨hx, hb, hml, hr, hlocks, hts, hown, hKv, hXs⟩ := id Z
  have hXk := hX0
  intro n
  induction n with
  | zero => intro _ _ _ h; exact absurd h (by unfold fX5_midnightsIn_6; exact fun h => by cases h)
  | succ n ih =>
    intro v4 v5 M h H locs ls hl hM
    rw [fX5_midnightsIn_6] at h
    refine lv_iload hx hb dX5_midnightsIn_6 (lv_at hl 4 rfl) ?_
    refine lv_iload_n hx hb dX5_midnightsIn_8 rfl (lv_at hl 2 rfl) ?_
    refine lv_icmp_ge (tgt := 55) hx hb dX5_midnightsIn_9 (by decide) (fun c1 => ?_) (fun c1 => ?_)
    · replace h := (if_pos c1).symm.trans h
      exact hKc _ _ h _ _ _ (lv_sub hl [3] rfl) hM
    · replace h := (if_neg c1).symm.trans h
      refine lv_iload hx hb dX5_midnightsIn_12 (lv_at hl 3 rfl) ?_
      refine lv_aload_n hx hb dX5_midnightsIn_14 rfl (lv_at hl 0 rfl) ?_
      refine lv_iload_n hx hb dX5_midnightsIn_15 rfl (lv_at hl 1 rfl) ?_
      refine lv_iload hx hb dX5_midnightsIn_16 (lv_at hl 4 rfl) ?_
      obtain ⟨x2, hx2, h⟩ := Option.bind_eq_some_iff.mp h
      refine m_callV (As := [.int u1, .int v5]) (st1 := [.int x2.1, .int v4]) hx hb (hml.trans hl.1.symm) hown hts hKv hXs hXk hM (kX5_clockIn l D cI cZ ad hX0 u1 v5 M _ hx2) (cwV 2 hts gX5_midnightsIn_X5_clockIn rfl rfl rfl (by decide +kernel) ⟨Nat.le_of_ble_eq_true rfl, Nat.le_of_ble_eq_true rfl⟩) (by decide) at_X5 rfl rfl rfl rfl (Nat.le_of_ble_eq_true rfl) dX5_midnightsIn_18 ⟨Nat.zero_le _, Nat.zero_le _⟩ (fun H locs hM => ?_)
      refine lv_if_ne (tgt := 45) hx hb dX5_midnightsIn_21 (by decide) (fun c3 => ?_) (fun c3 => ?_)
      · replace h := (if_neg c3).symm.trans h
        refine lv_iconst (v := (0 : Int32)) hx hb dX5_midnightsIn_45 (by decide) ?_
        refine lv_iadd hx hb dX5_midnightsIn_46 ?_
        refine lv_istore (lv' := [(4, .int (v4 + (0 : Int32))), (0, .ref (ad 0)), (1, .int u1), (3, .int u3), (5, .int v5)]) hx hb dX5_midnightsIn_47 hl (by decide) rfl (fun ls hl => ?_)
        refine lv_iinc (v := (v5 + 1)) (lv' := [(5, .int (v5 + 1)), (4, .int (v4 + (0 : Int32))), (0, .ref (ad 0)), (1, .int u1), (3, .int u3)]) hx hb dX5_midnightsIn_49 hl (k := 4) rfl rfl (by decide) rfl (fun ls hl => ?_)
        refine lv_goto (tgt := 6) hx hb dX5_midnightsIn_52 (by decide) ?_
        exact ih _ _ _ h _ _ _ (lv_sub hl [2, 3, 4, 1, 0] rfl) hM
      · replace h := (if_pos c3).symm.trans h
        refine lv_iload hx hb dX5_midnightsIn_24 (lv_at hl 4 rfl) ?_
        refine lv_if_eq (tgt := 41) hx hb dX5_midnightsIn_26 (by decide) (fun c4 => ?_) (fun c4 => ?_)
        · replace h := (if_pos c4).symm.trans h
          refine lv_iconst (v := (1 : Int32)) hx hb dX5_midnightsIn_41 (by decide) ?_
          refine lv_goto (tgt := 46) hx hb dX5_midnightsIn_42 (by decide) ?_
          refine lv_iadd hx hb dX5_midnightsIn_46 ?_
          refine lv_istore (lv' := [(4, .int (v4 + (1 : Int32))), (0, .ref (ad 0)), (1, .int u1), (3, .int u3), (5, .int v5)]) hx hb dX5_midnightsIn_47 hl (by decide) rfl (fun ls hl => ?_)
          refine lv_iinc (v := (v5 + 1)) (lv' := [(5, .int (v5 + 1)), (4, .int (v4 + (1 : Int32))), (0, .ref (ad 0)), (1, .int u1), (3, .int u3)]) hx hb dX5_midnightsIn_49 hl (k := 4) rfl rfl (by decide) rfl (fun ls hl => ?_)
          refine lv_goto (tgt := 6) hx hb dX5_midnightsIn_52 (by decide) ?_
          exact ih _ _ _ h _ _ _ (lv_sub hl [2, 3, 4, 1, 0] rfl) hM
        · replace h := (if_neg c4).symm.trans h
          refine lv_aload_n hx hb dX5_midnightsIn_29 rfl (lv_at hl 0 rfl) ?_
          refine lv_iload_n hx hb dX5_midnightsIn_30 rfl (lv_at hl 1 rfl) ?_
          refine lv_iload hx hb dX5_midnightsIn_31 (lv_at hl 4 rfl) ?_
          refine lv_iconst (v := (1 : Int32)) hx hb dX5_midnightsIn_33 (by decide) ?_
          refine lv_isub hx hb dX5_midnightsIn_34 ?_
          obtain ⟨x5, hx5, h⟩ := Option.bind_eq_some_iff.mp h
          refine m_callV (As := [.int u1, .int (v5 - (1 : Int32))]) (st1 := [.int x5.1, .int v4]) hx hb (hml.trans hl.1.symm) hown hts hKv hXs hXk hM (kX5_clockIn l D cI cZ ad hX0 u1 (v5 - (1 : Int32)) x2.2 _ hx5) (cwV 2 hts gX5_midnightsIn_X5_clockIn rfl rfl rfl (by decide +kernel) ⟨Nat.le_of_ble_eq_true rfl, Nat.le_of_ble_eq_true rfl⟩) (by decide) at_X5 rfl rfl rfl rfl (Nat.le_of_ble_eq_true rfl) dX5_midnightsIn_35 ⟨Nat.zero_le _, Nat.zero_le _⟩ (fun H locs hM => ?_)
          refine lv_if_eq (tgt := 45) hx hb dX5_midnightsIn_38 (by decide) (fun c6 => ?_) (fun c6 => ?_)
          · replace h := (if_pos c6).symm.trans h
            refine lv_iconst (v := (0 : Int32)) hx hb dX5_midnightsIn_45 (by decide) ?_
            refine lv_iadd hx hb dX5_midnightsIn_46 ?_
            refine lv_istore (lv' := [(4, .int (v4 + (0 : Int32))), (0, .ref (ad 0)), (1, .int u1), (3, .int u3), (5, .int v5)]) hx hb dX5_midnightsIn_47 hl (by decide) rfl (fun ls hl => ?_)
            refine lv_iinc (v := (v5 + 1)) (lv' := [(5, .int (v5 + 1)), (4, .int (v4 + (0 : Int32))), (0, .ref (ad 0)), (1, .int u1), (3, .int u3)]) hx hb dX5_midnightsIn_49 hl (k := 4) rfl rfl (by decide) rfl (fun ls hl => ?_)
            refine lv_goto (tgt := 6) hx hb dX5_midnightsIn_52 (by decide) ?_
            exact ih _ _ _ h _ _ _ (lv_sub hl [2, 3, 4, 1, 0] rfl) hM
          · replace h := (if_neg c6).symm.trans h
            refine lv_iconst (v := (1 : Int32)) hx hb dX5_midnightsIn_41 (by decide) ?_
            refine lv_goto (tgt := 46) hx hb dX5_midnightsIn_42 (by decide) ?_
            refine lv_iadd hx hb dX5_midnightsIn_46 ?_
            refine lv_istore (lv' := [(4, .int (v4 + (1 : Int32))), (0, .ref (ad 0)), (1, .int u1), (3, .int u3), (5, .int v5)]) hx hb dX5_midnightsIn_47 hl (by decide) rfl (fun ls hl => ?_)
            refine lv_iinc (v := (v5 + 1)) (lv' := [(5, .int (v5 + 1)), (4, .int (v4 + (1 : Int32))), (0, .ref (ad 0)), (1, .int u1), (3, .int u3)]) hx hb dX5_midnightsIn_49 hl (k := 4) rfl rfl (by decide) rfl (fun ls hl => ?_)
            refine lv_goto (tgt := 6) hx hb dX5_midnightsIn_52 (by decide) ?_
            exact ih _ _ _ h _ _ _ (lv_sub hl [2, 3, 4, 1, 0] rfl) hM
set_option maxHeartbeats 4000000 in
set_option maxRecDepth 100000 in
theorem kX5_midnightsIn (l : Launch) (D : va_G) (cI cZ : ClassId) (ad : Nat → Nat) {X : State → Prop} (hX0 : mX ad 14 X) (a1 : Int32) (a2 : Int32) (a3 : Int32) (M : Mem) (res : (Int32 × Mem)) (h : fX5_midnightsIn a1 a2 a3 M = some res) : mC l yX5_midnightsIn wsX5_midnightsIn { frames := 4, cells := 0, slots := 0, locals := 95 } D [(cI, .int), (cZ, .boolean)] ad 14 X [.ref (ad 0), .int a1, .int a2, .int a3] (Em ad cI cZ M) (some (.int res.1)) (Em ad cI cZ res.2) := by
  refine m_ofW (cc := cX5_midnightsIn) (maxL := 6) (ret := (some .int)) (by decide) rfl (Nat.le_of_ble_eq_true rfl) ?_
  intro p e s m args below meth c hx hb hml hr hlocks hts hown hKv hXs ls hl hM
  have hXk := hX0
  have Z : mZ p s m args meth c cX5_midnightsIn 6 (some .int) wsX5_midnightsIn RX5 D [(cI, .int), (cZ, .boolean)] X := ⟨hx, hb, hml, hr, hlocks, hts, hown, hKv, hXs⟩
  replace hown : s.vm.findClass RX5 = some m.cls := hown
  have hl : lv_has ls 6 [(0, .ref (ad 0)), (1, .int a1), (2, .int a2), (3, .int a3)] := hl
  unfold fX5_midnightsIn at h
  refine lv_iconst (v := (0 : Int32)) hx hb dX5_midnightsIn_0 (by decide) ?_
  refine lv_istore (lv' := [(4, .int (0 : Int32)), (0, .ref (ad 0)), (1, .int a1), (2, .int a2), (3, .int a3)]) hx hb dX5_midnightsIn_1 hl (by decide) rfl (fun ls hl => ?_)
  refine lv_iload_n hx hb dX5_midnightsIn_3 rfl (lv_at hl 3 rfl) ?_
  refine lv_istore (lv' := [(5, .int a2), (4, .int (0 : Int32)), (0, .ref (ad 0)), (1, .int a1), (2, .int a2), (3, .int a3)]) hx hb dX5_midnightsIn_4 hl (by decide) rfl (fun ls hl => ?_)
  refine wX5_midnightsIn_6 Z hX0 a1 a3 _ (fun y1 M2 h H locs ls hl hM => ?_) _ _ _ _ h _ _ _ (lv_sub hl [2, 3, 5, 1, 0] rfl) hM
  refine lv_iload hx hb dX5_midnightsIn_55 (lv_at hl 0 rfl) ?_
  exact m_iret hx hb hr hlocks hM (congrArg (a₁ := (y1, M2)) Prod.fst (Option.some.inj h)) (congrArg (a₁ := (y1, M2)) (fun z => Em ad cI cZ z.2) (Option.some.inj h)) dX5_midnightsIn_57
set_option maxHeartbeats 4000000 in
set_option maxRecDepth 100000 in
theorem kX5_midnights (l : Launch) (D : va_G) (cI cZ : ClassId) (ad : Nat → Nat) {X : State → Prop} (hX0 : mX ad 14 X) (a1 : Int32) (a2 : Int32) (a3 : Int32) (M : Mem) (res : (Int32 × Mem)) (h : fX5_midnights a1 a2 a3 M = some res) : mC l yX5_midnights wsX5_midnights { frames := 5, cells := 0, slots := 0, locals := 120 } D [(cI, .int), (cZ, .boolean)] ad 14 X [.ref (ad 0), .int a1, .int a2, .int a3] (Em ad cI cZ M) (some (.int res.1)) (Em ad cI cZ res.2) := by
  refine m_ofW (cc := cX5_midnights) (maxL := 4) (ret := (some .int)) (by decide) rfl (Nat.le_of_ble_eq_true rfl) ?_
  intro p e s m args below meth c hx hb hml hr hlocks hts hown hKv hXs ls hl hM
  have hXk := hX0
  have Z : mZ p s m args meth c cX5_midnights 4 (some .int) wsX5_midnights RX5 D [(cI, .int), (cZ, .boolean)] X := ⟨hx, hb, hml, hr, hlocks, hts, hown, hKv, hXs⟩
  replace hown : s.vm.findClass RX5 = some m.cls := hown
  have hl : lv_has ls 4 [(0, .ref (ad 0)), (1, .int a1), (2, .int a2), (3, .int a3)] := hl
  have k0 := hts (Cond.fieldLink RX5 53 "NoonWalkerModel" "thrown" "I") (List.mem_of_getElem? (i := 1) rfl)
  unfold fX5_midnights at h
  refine lv_aload_n hx hb dX5_midnights_0 rfl (lv_at hl 0 rfl) ?_
  refine lv_iconst (v := (0 : Int32)) hx hb dX5_midnights_1 (by decide) ?_
  obtain ⟨M1, hM1, h⟩ := Option.bind_eq_some_iff.mp h
  refine m_put hx hb hts hown hKv hM (fun _ h => List.mem_cons_of_mem _ (List.mem_append_right _ (h))) tyX5 tyX5_ok nmX5 (by decide) at_X5 rfl 0 (by decide) k0 rfl rfl rfl (Nat.le_of_ble_eq_true rfl) (pt_X5_0 (Option.some.inj hM1)) dX5_midnights_2 (fun H locs hM => ?_)
  refine lv_aload_n hx hb dX5_midnights_5 rfl (lv_at hl 0 rfl) ?_
  refine lv_iload_n hx hb dX5_midnights_6 rfl (lv_at hl 1 rfl) ?_
  obtain ⟨x2, hx2, h⟩ := Option.bind_eq_some_iff.mp h
  refine m_callV (As := [.int a1]) (st1 := [.int x2]) hx hb (hml.trans hl.1.symm) hown hts hKv hXs hXk hM (kX5_isTown l D cI cZ ad hX0 a1 M1 _ hx2) (cwV 1 hts gX5_midnights_X5_isTown rfl rfl rfl (by decide +kernel) ⟨Nat.le_of_ble_eq_true rfl, Nat.le_of_ble_eq_true rfl⟩) (by decide) at_X5 rfl rfl rfl rfl (Nat.le_of_ble_eq_true rfl) dX5_midnights_7 ⟨Nat.zero_le _, Nat.zero_le _⟩ (fun H locs hM => ?_)
  refine lv_if_eq (tgt := 32) hx hb dX5_midnights_10 (by decide) (fun c3 => ?_) (fun c3 => ?_)
  · replace h := (if_pos c3).symm.trans h
    refine lv_iconst (v := (-1 : Int32)) hx hb dX5_midnights_32 (by decide) ?_
    exact m_iret hx hb hr hlocks hM (congrArg (a₁ := ((-1 : Int32), M1)) Prod.fst (Option.some.inj h)) (congrArg (a₁ := ((-1 : Int32), M1)) (fun z => Em ad cI cZ z.2) (Option.some.inj h)) dX5_midnights_33
  · replace h := (if_neg c3).symm.trans h
    refine lv_aload_n hx hb dX5_midnights_13 rfl (lv_at hl 0 rfl) ?_
    refine lv_iload_n hx hb dX5_midnights_14 rfl (lv_at hl 2 rfl) ?_
    refine lv_iload_n hx hb dX5_midnights_15 rfl (lv_at hl 3 rfl) ?_
    obtain ⟨x4, hx4, h⟩ := Option.bind_eq_some_iff.mp h
    refine m_callV (As := [.int a2, .int a3]) (st1 := [.int x4]) hx hb (hml.trans hl.1.symm) hown hts hKv hXs hXk hM (kX5_isSpan l D cI cZ ad hX0 a2 a3 M1 _ hx4) (cwV 2 hts gX5_midnights_X5_isSpan rfl rfl rfl (by decide +kernel) ⟨Nat.le_of_ble_eq_true rfl, Nat.le_of_ble_eq_true rfl⟩) (by decide) at_X5 rfl rfl rfl rfl (Nat.le_of_ble_eq_true rfl) dX5_midnights_16 ⟨Nat.zero_le _, Nat.zero_le _⟩ (fun H locs hM => ?_)
    refine lv_if_eq (tgt := 32) hx hb dX5_midnights_19 (by decide) (fun c5 => ?_) (fun c5 => ?_)
    · replace h := (if_pos c5).symm.trans h
      refine lv_iconst (v := (-1 : Int32)) hx hb dX5_midnights_32 (by decide) ?_
      exact m_iret hx hb hr hlocks hM (congrArg (a₁ := ((-1 : Int32), M1)) Prod.fst (Option.some.inj h)) (congrArg (a₁ := ((-1 : Int32), M1)) (fun z => Em ad cI cZ z.2) (Option.some.inj h)) dX5_midnights_33
    · replace h := (if_neg c5).symm.trans h
      refine lv_aload_n hx hb dX5_midnights_22 rfl (lv_at hl 0 rfl) ?_
      refine lv_iload_n hx hb dX5_midnights_23 rfl (lv_at hl 1 rfl) ?_
      refine lv_iload_n hx hb dX5_midnights_24 rfl (lv_at hl 2 rfl) ?_
      refine lv_iload_n hx hb dX5_midnights_25 rfl (lv_at hl 3 rfl) ?_
      obtain ⟨x6, hx6, h⟩ := Option.bind_eq_some_iff.mp h
      refine m_callV (As := [.int a1, .int a2, .int a3]) (st1 := [.int x6.1]) hx hb (hml.trans hl.1.symm) hown hts hKv hXs hXk hM (kX5_midnightsIn l D cI cZ ad hX0 a1 a2 a3 M1 _ hx6) (cwV 3 hts gX5_midnights_X5_midnightsIn rfl rfl rfl (by decide +kernel) ⟨Nat.le_of_ble_eq_true rfl, Nat.le_of_ble_eq_true rfl⟩) (by decide) at_X5 rfl rfl rfl rfl (Nat.le_of_ble_eq_true rfl) dX5_midnights_26 ⟨Nat.zero_le _, Nat.zero_le _⟩ (fun H locs hM => ?_)
      refine lv_goto (tgt := 33) hx hb dX5_midnights_29 (by decide) ?_
      exact m_iret hx hb hr hlocks hM (congrArg (a₁ := (x6.1, x6.2)) Prod.fst (Option.some.inj h)) (congrArg (a₁ := (x6.1, x6.2)) (fun z => Em ad cI cZ z.2) (Option.some.inj h)) dX5_midnights_33
set_option maxHeartbeats 4000000 in
set_option maxRecDepth 100000 in
theorem kX5_gains (l : Launch) (D : va_G) (cI cZ : ClassId) (ad : Nat → Nat) {X : State → Prop} (hX0 : mX ad 14 X) (a1 : Int32) (a2 : Int32) (a3 : Int32) (a4 : Int32) (M : Mem) (res : (Int32 × Mem)) (h : fX5_gains a1 a2 a3 a4 M = some res) : mC l yX5_gains wsX5_gains { frames := 5, cells := 0, slots := 0, locals := 120 } D [(cI, .int), (cZ, .boolean)] ad 14 X [.ref (ad 0), .int a1, .int a2, .int a3, .int a4] (Em ad cI cZ M) (some (.int res.1)) (Em ad cI cZ res.2) := by
  refine m_ofW (cc := cX5_gains) (maxL := 5) (ret := (some .int)) (by decide) rfl (Nat.le_of_ble_eq_true rfl) ?_
  intro p e s m args below meth c hx hb hml hr hlocks hts hown hKv hXs ls hl hM
  have hXk := hX0
  have Z : mZ p s m args meth c cX5_gains 5 (some .int) wsX5_gains RX5 D [(cI, .int), (cZ, .boolean)] X := ⟨hx, hb, hml, hr, hlocks, hts, hown, hKv, hXs⟩
  replace hown : s.vm.findClass RX5 = some m.cls := hown
  have hl : lv_has ls 5 [(0, .ref (ad 0)), (1, .int a1), (2, .int a2), (3, .int a3), (4, .int a4)] := hl
  have k0 := hts (Cond.fieldLink RX5 53 "NoonWalkerModel" "thrown" "I") (List.mem_of_getElem? (i := 1) rfl)
  have k1 := hts (Cond.constant RX5 140 (-1000000)) (List.mem_of_getElem? (i := 2) rfl)
  unfold fX5_gains at h
  refine lv_aload_n hx hb dX5_gains_0 rfl (lv_at hl 0 rfl) ?_
  refine lv_iconst (v := (0 : Int32)) hx hb dX5_gains_1 (by decide) ?_
  obtain ⟨M1, hM1, h⟩ := Option.bind_eq_some_iff.mp h
  refine m_put hx hb hts hown hKv hM (fun _ h => List.mem_cons_of_mem _ (List.mem_append_right _ (h))) tyX5 tyX5_ok nmX5 (by decide) at_X5 rfl 0 (by decide) k0 rfl rfl rfl (Nat.le_of_ble_eq_true rfl) (pt_X5_0 (Option.some.inj hM1)) dX5_gains_2 (fun H locs hM => ?_)
  refine lv_aload_n hx hb dX5_gains_5 rfl (lv_at hl 0 rfl) ?_
  refine lv_iload_n hx hb dX5_gains_6 rfl (lv_at hl 1 rfl) ?_
  obtain ⟨x2, hx2, h⟩ := Option.bind_eq_some_iff.mp h
  refine m_callV (As := [.int a1]) (st1 := [.int x2]) hx hb (hml.trans hl.1.symm) hown hts hKv hXs hXk hM (kX5_isTown l D cI cZ ad hX0 a1 M1 _ hx2) (cwV 1 hts gX5_gains_X5_isTown rfl rfl rfl (by decide +kernel) ⟨Nat.le_of_ble_eq_true rfl, Nat.le_of_ble_eq_true rfl⟩) (by decide) at_X5 rfl rfl rfl rfl (Nat.le_of_ble_eq_true rfl) dX5_gains_7 ⟨Nat.zero_le _, Nat.zero_le _⟩ (fun H locs hM => ?_)
  refine lv_if_eq (tgt := 53) hx hb dX5_gains_10 (by decide) (fun c3 => ?_) (fun c3 => ?_)
  · replace h := (if_pos c3).symm.trans h
    refine lv_ldc (v := (-1000000 : Int32)) hx hb hown k1 dX5_gains_53 ?_
    exact m_iret hx hb hr hlocks hM (congrArg (a₁ := ((-1000000 : Int32), M1)) Prod.fst (Option.some.inj h)) (congrArg (a₁ := ((-1000000 : Int32), M1)) (fun z => Em ad cI cZ z.2) (Option.some.inj h)) dX5_gains_55
  · replace h := (if_neg c3).symm.trans h
    refine lv_aload_n hx hb dX5_gains_13 rfl (lv_at hl 0 rfl) ?_
    refine lv_iload_n hx hb dX5_gains_14 rfl (lv_at hl 2 rfl) ?_
    refine lv_iload_n hx hb dX5_gains_15 rfl (lv_at hl 3 rfl) ?_
    obtain ⟨x4, hx4, h⟩ := Option.bind_eq_some_iff.mp h
    refine m_callV (As := [.int a2, .int a3]) (st1 := [.int x4]) hx hb (hml.trans hl.1.symm) hown hts hKv hXs hXk hM (kX5_isSpan l D cI cZ ad hX0 a2 a3 M1 _ hx4) (cwV 2 hts gX5_gains_X5_isSpan rfl rfl rfl (by decide +kernel) ⟨Nat.le_of_ble_eq_true rfl, Nat.le_of_ble_eq_true rfl⟩) (by decide) at_X5 rfl rfl rfl rfl (Nat.le_of_ble_eq_true rfl) dX5_gains_16 ⟨Nat.zero_le _, Nat.zero_le _⟩ (fun H locs hM => ?_)
    refine lv_if_eq (tgt := 53) hx hb dX5_gains_19 (by decide) (fun c5 => ?_) (fun c5 => ?_)
    · replace h := (if_pos c5).symm.trans h
      refine lv_ldc (v := (-1000000 : Int32)) hx hb hown k1 dX5_gains_53 ?_
      exact m_iret hx hb hr hlocks hM (congrArg (a₁ := ((-1000000 : Int32), M1)) Prod.fst (Option.some.inj h)) (congrArg (a₁ := ((-1000000 : Int32), M1)) (fun z => Em ad cI cZ z.2) (Option.some.inj h)) dX5_gains_55
    · replace h := (if_neg c5).symm.trans h
      refine lv_iload hx hb dX5_gains_22 (lv_at hl 4 rfl) ?_
      refine lv_iconst (v := (1 : Int32)) hx hb dX5_gains_24 (by decide) ?_
      refine lv_bipush (v := (99 : Int32)) hx hb dX5_gains_25 (by decide) ?_
      obtain ⟨x6, hx6, h⟩ := Option.bind_eq_some_iff.mp h
      refine m_callS (As := [.int a4, .int (1 : Int32), .int (99 : Int32)]) (st1 := [.int x6]) hx hb (hml.trans hl.1.symm) hown hts hKv hXs hXk hM (kX5_in l D cI cZ ad hX0 a4 (1 : Int32) (99 : Int32) M1 _ hx6) (va_cwS 3 hts gX5_gains_X5_in rfl rfl rfl (by decide +kernel) ⟨Nat.le_of_ble_eq_true rfl, Nat.le_of_ble_eq_true rfl⟩) rfl rfl rfl (Nat.le_of_ble_eq_true rfl) dX5_gains_27 ⟨Nat.zero_le _, Nat.zero_le _⟩ (fun H locs hM => ?_)
      refine lv_if_eq (tgt := 53) hx hb dX5_gains_30 (by decide) (fun c7 => ?_) (fun c7 => ?_)
      · replace h := (if_pos c7).symm.trans h
        refine lv_ldc (v := (-1000000 : Int32)) hx hb hown k1 dX5_gains_53 ?_
        exact m_iret hx hb hr hlocks hM (congrArg (a₁ := ((-1000000 : Int32), M1)) Prod.fst (Option.some.inj h)) (congrArg (a₁ := ((-1000000 : Int32), M1)) (fun z => Em ad cI cZ z.2) (Option.some.inj h)) dX5_gains_55
      · replace h := (if_neg c7).symm.trans h
        refine lv_iload hx hb dX5_gains_33 (lv_at hl 4 rfl) ?_
        refine lv_aload_n hx hb dX5_gains_35 rfl (lv_at hl 0 rfl) ?_
        refine lv_iload_n hx hb dX5_gains_36 rfl (lv_at hl 1 rfl) ?_
        refine lv_iload_n hx hb dX5_gains_37 rfl (lv_at hl 2 rfl) ?_
        refine lv_iload_n hx hb dX5_gains_38 rfl (lv_at hl 3 rfl) ?_
        obtain ⟨x8, hx8, h⟩ := Option.bind_eq_some_iff.mp h
        refine m_callV (As := [.int a1, .int a2, .int a3]) (st1 := [.int x8.1, .int a4]) hx hb (hml.trans hl.1.symm) hown hts hKv hXs hXk hM (kX5_midnightsIn l D cI cZ ad hX0 a1 a2 a3 M1 _ hx8) (cwV 3 hts gX5_gains_X5_midnightsIn rfl rfl rfl (by decide +kernel) ⟨Nat.le_of_ble_eq_true rfl, Nat.le_of_ble_eq_true rfl⟩) (by decide) at_X5 rfl rfl rfl rfl (Nat.le_of_ble_eq_true rfl) dX5_gains_39 ⟨Nat.zero_le _, Nat.zero_le _⟩ (fun H locs hM => ?_)
        refine lv_iload_n hx hb dX5_gains_42 rfl (lv_at hl 3 rfl) ?_
        refine lv_iload_n hx hb dX5_gains_43 rfl (lv_at hl 2 rfl) ?_
        refine lv_isub hx hb dX5_gains_44 ?_
        refine lv_bipush (v := (24 : Int32)) hx hb dX5_gains_45 (by decide) ?_
        obtain ⟨x9, hx9, h⟩ := Option.bind_eq_some_iff.mp h
        refine m_idiv hx hb hx9 dX5_gains_47 ?_
        refine lv_isub hx hb dX5_gains_48 ?_
        refine lv_imul hx hb dX5_gains_49 ?_
        refine lv_goto (tgt := 55) hx hb dX5_gains_50 (by decide) ?_
        exact m_iret hx hb hr hlocks hM (congrArg (a₁ := ((a4 * (x8.1 - x9)), x8.2)) Prod.fst (Option.some.inj h)) (congrArg (a₁ := ((a4 * (x8.1 - x9)), x8.2)) (fun z => Em ad cI cZ z.2) (Option.some.inj h)) dX5_gains_55
set_option maxHeartbeats 4000000 in
set_option maxRecDepth 100000 in
theorem wX5_worthOf_7 {p : Program} {l : Launch} {e : Env} {s : State} {m : MethodId} {args : Array Value} {below : List Frame} {meth : Method} {c : Code} {D : va_G} {cI cZ : ClassId} {ad : Nat → Nat} {X : State → Prop} (Z : mZ p s m args meth c cX5_worthOf 6 (some .int) wsX5_worthOf RX5 D [(cI, .int), (cZ, .boolean)] X) (hX0 : mX ad 14 X)   (u1 : Int32) (M : Mem) {K : Int32 → Option Int32} (res : Int32) (hKc : ∀ (y2 : Int32), K y2 = some res → ∀ (H : Heap) (locs : List Loc) (ls : Array Slot), lv_has ls 6 [(2, .int y2)] → mH D ad 14 (Em ad cI cZ M) s.heap H locs → W p l e { frames := 1, cells := 0, slots := 0, locals := 22 } s m args below meth c H locs 0 0 (MQ below (mQ D ad 14 (some (.int res)) (Em ad cI cZ M)) args s 0 0 (mA ad 14)) (F0 m 119 ls [])) :
    ∀ (n : Nat) (v2 : Int32) (v3 : Int32) (v4 : Int32), fX5_worthOf_7 u1 M K n v2 v3 v4 = some res → ∀ (H : Heap) (locs : List Loc) (ls : Array Slot), lv_has ls 6 [(0, .ref (ad 0)), (1, .int u1), (2, .int v2), (3, .int v3), (4, .int v4)] → mH D ad 14 (Em ad cI cZ M) s.heap H locs → W p l e { frames := 1, cells := 0, slots := 0, locals := 22 } s m args below meth c H locs 0 0 (MQ below (mQ D ad 14 (some (.int res)) (Em ad cI cZ M)) args s 0 0 (mA ad 14)) (F0 m 7 ls []) := by
  obtain ⟨hx, hb, hml, hr, hlocks, hts, hown, hKv, hXs⟩ := id Z
  have hXk := hX0
  have k0 := hts (Cond.fieldLink RX5 44 "NoonWalkerModel" "row" "[I") (List.mem_of_getElem? (i := 1) rfl)
  have k1 := hts (Cond.constant RX5 140 (-1000000)) (List.mem_of_getElem? (i := 2) rfl)
  have k2 := hts (Cond.fieldLink RX5 13 "NoonWalkerModel" "bid" "[I") (List.mem_of_getElem? (i := 3) rfl)
  intro n
  induction n with
  | zero => intro _ _ _ h; exact absurd h (by unfold fX5_worthOf_7; exact fun h => by cases h)
  | succ n ih =>
    intro v2 v3 v4 h H locs ls hl hM
    rw [fX5_worthOf_7] at h
    refine lv_iload hx hb dX5_worthOf_7 (lv_at hl 4 rfl) ?_
    refine lv_iload_n hx hb dX5_worthOf_9 rfl (lv_at hl 1 rfl) ?_
    refine lv_icmp_ge (tgt := 119) hx hb dX5_worthOf_10 (by decide) (fun c1 => ?_) (fun c1 => ?_)
    · replace h := (if_pos c1).symm.trans h
      exact hKc _ h _ _ _ (lv_sub hl [2] rfl) hM
    · replace h := (if_neg c1).symm.trans h
      refine lv_aload_n hx hb dX5_worthOf_13 rfl (lv_at hl 0 rfl) ?_
      refine m_get hx hb hts hown hKv hM (fun _ h => List.mem_cons_of_mem _ (List.mem_append_right _ (h))) (by decide) at_X5 rfl 29 (by decide) k0 (v := .ref (ad 12)) rfl dX5_worthOf_14 ?_
      refine lv_iload hx hb dX5_worthOf_17 (lv_at hl 4 rfl) ?_
      refine lv_iconst (v := (1 : Int32)) hx hb dX5_worthOf_19 (by decide) ?_
      refine lv_iadd hx hb dX5_worthOf_20 ?_
      refine lv_iload_n hx hb dX5_worthOf_21 rfl (lv_at hl 1 rfl) ?_
      refine lv_icmp_ne (tgt := 29) hx hb dX5_worthOf_22 (by decide) (fun c2 => ?_) (fun c2 => ?_)
      · replace h := (if_neg c2).symm.trans h
        refine lv_iload hx hb dX5_worthOf_29 (lv_at hl 4 rfl) ?_
        refine lv_iconst (v := (1 : Int32)) hx hb dX5_worthOf_31 (by decide) ?_
        refine lv_iadd hx hb dX5_worthOf_32 ?_
        obtain ⟨x3, hx3, h⟩ := Option.bind_eq_some_iff.mp h
        refine m_iald hx hb hKv hM (by decide) at_X5_12 0 rfl hx3 dX5_worthOf_33 ?_
        refine lv_istore (lv' := [(5, .int x3), (0, .ref (ad 0)), (1, .int u1), (2, .int v2), (3, .int v3), (4, .int v4)]) hx hb dX5_worthOf_34 hl (by decide) rfl (fun ls hl => ?_)
        refine lv_iload_n hx hb dX5_worthOf_36 rfl (lv_at hl 4 rfl) ?_
        refine lv_aload_n hx hb dX5_worthOf_37 rfl (lv_at hl 1 rfl) ?_
        refine m_get hx hb hts hown hKv hM (fun _ h => List.mem_cons_of_mem _ (List.mem_append_right _ (h))) (by decide) at_X5 rfl 29 (by decide) k0 (v := .ref (ad 12)) rfl dX5_worthOf_38 ?_
        refine lv_iload hx hb dX5_worthOf_41 (lv_at hl 5 rfl) ?_
        obtain ⟨x4, hx4, h⟩ := Option.bind_eq_some_iff.mp h
        refine m_iald hx hb hKv hM (by decide) at_X5_12 0 rfl hx4 dX5_worthOf_43 ?_
        refine lv_ishr hx hb dX5_worthOf_44 ?_
        refine lv_iconst (v := (1 : Int32)) hx hb dX5_worthOf_45 (by decide) ?_
        refine lv_iand hx hb dX5_worthOf_46 ?_
        refine lv_iconst (v := (1 : Int32)) hx hb dX5_worthOf_47 (by decide) ?_
        refine lv_icmp_eq (tgt := 69) hx hb dX5_worthOf_48 (by decide) (fun c5 => ?_) (fun c5 => ?_)
        · replace h := (if_pos c5).symm.trans h
          refine lv_ldc (v := (-1000000 : Int32)) hx hb hown k1 dX5_worthOf_69 ?_
          exact m_iret hx hb hr hlocks hM (Option.some.inj h) rfl dX5_worthOf_71
        · replace h := (if_neg c5).symm.trans h
          refine lv_aload_n hx hb dX5_worthOf_51 rfl (lv_at hl 1 rfl) ?_
          refine lv_aload_n hx hb dX5_worthOf_52 rfl (lv_at hl 1 rfl) ?_
          refine m_get hx hb hts hown hKv hM (fun _ h => List.mem_cons_of_mem _ (List.mem_append_right _ (h))) (by decide) at_X5 rfl 29 (by decide) k0 (v := .ref (ad 12)) rfl dX5_worthOf_53 ?_
          refine lv_iload hx hb dX5_worthOf_56 (lv_at hl 5 rfl) ?_
          obtain ⟨x6, hx6, h⟩ := Option.bind_eq_some_iff.mp h
          refine m_iald hx hb hKv hM (by decide) at_X5_12 0 rfl hx6 dX5_worthOf_58 ?_
          refine lv_iload hx hb dX5_worthOf_59 (lv_at hl 0 rfl) ?_
          obtain ⟨x7, hx7, h⟩ := Option.bind_eq_some_iff.mp h
          refine m_callV (As := [.int x6, .int x3]) (st1 := [.int x7]) hx hb (hml.trans hl.1.symm) hown hts hKv hXs hXk hM (kX5_farOf l D cI cZ ad hX0 x6 x3 M _ hx7) (cwV 2 hts gX5_worthOf_X5_farOf rfl rfl rfl (by decide +kernel) ⟨Nat.le_of_ble_eq_true rfl, Nat.le_of_ble_eq_true rfl⟩) (by decide) at_X5 rfl rfl rfl rfl (Nat.le_of_ble_eq_true rfl) dX5_worthOf_61 ⟨Nat.zero_le _, Nat.zero_le _⟩ (fun H locs hM => ?_)
          refine lv_bipush (v := (-9 : Int32)) hx hb dX5_worthOf_64 (by decide) ?_
          refine lv_icmp_ne (tgt := 72) hx hb dX5_worthOf_66 (by decide) (fun c8 => ?_) (fun c8 => ?_)
          · replace h := (if_neg c8).symm.trans h
            refine lv_iload_n hx hb dX5_worthOf_72 rfl (lv_at hl 4 rfl) ?_
            refine lv_iconst (v := (1 : Int32)) hx hb dX5_worthOf_73 (by decide) ?_
            refine lv_aload_n hx hb dX5_worthOf_74 rfl (lv_at hl 1 rfl) ?_
            refine m_get hx hb hts hown hKv hM (fun _ h => List.mem_cons_of_mem _ (List.mem_append_right _ (h))) (by decide) at_X5 rfl 29 (by decide) k0 (v := .ref (ad 12)) rfl dX5_worthOf_75 ?_
            refine lv_iload hx hb dX5_worthOf_78 (lv_at hl 5 rfl) ?_
            obtain ⟨x9, hx9, h⟩ := Option.bind_eq_some_iff.mp h
            refine m_iald hx hb hKv hM (by decide) at_X5_12 0 rfl hx9 dX5_worthOf_80 ?_
            refine lv_ishl hx hb dX5_worthOf_81 ?_
            refine lv_ior hx hb dX5_worthOf_82 ?_
            refine lv_istore_n (lv' := [(3, .int (v3 ||| ((1 : Int32) <<< (x9 &&& 31)))), (5, .int x3), (0, .ref (ad 0)), (1, .int u1), (2, .int v2), (4, .int v4)]) hx hb dX5_worthOf_83 rfl hl (by decide) rfl (fun ls hl => ?_)
            refine lv_iload_n hx hb dX5_worthOf_84 rfl (lv_at hl 4 rfl) ?_
            refine lv_aload_n hx hb dX5_worthOf_85 rfl (lv_at hl 2 rfl) ?_
            refine m_get hx hb hts hown hKv hM (fun _ h => List.mem_cons_of_mem _ (List.mem_append_right _ (h))) (by decide) at_X5 rfl 9 (by decide) k2 (v := .ref (ad 2)) rfl dX5_worthOf_86 ?_
            refine lv_aload_n hx hb dX5_worthOf_89 rfl (lv_at hl 2 rfl) ?_
            refine m_get hx hb hts hown hKv hM (fun _ h => List.mem_cons_of_mem _ (List.mem_append_right _ (h))) (by decide) at_X5 rfl 29 (by decide) k0 (v := .ref (ad 12)) rfl dX5_worthOf_90 ?_
            refine lv_iload hx hb dX5_worthOf_93 (lv_at hl 5 rfl) ?_
            obtain ⟨x10, hx10, h⟩ := Option.bind_eq_some_iff.mp h
            refine m_iald hx hb hKv hM (by decide) at_X5_12 0 rfl hx10 dX5_worthOf_95 ?_
            obtain ⟨x11, hx11, h⟩ := Option.bind_eq_some_iff.mp h
            refine m_iald hx hb hKv hM (by decide) at_X5_2 0 rfl hx11 dX5_worthOf_96 ?_
            refine lv_aload_n hx hb dX5_worthOf_97 rfl (lv_at hl 2 rfl) ?_
            refine lv_aload_n hx hb dX5_worthOf_98 rfl (lv_at hl 2 rfl) ?_
            refine m_get hx hb hts hown hKv hM (fun _ h => List.mem_cons_of_mem _ (List.mem_append_right _ (h))) (by decide) at_X5 rfl 29 (by decide) k0 (v := .ref (ad 12)) rfl dX5_worthOf_99 ?_
            refine lv_iload hx hb dX5_worthOf_102 (lv_at hl 5 rfl) ?_
            obtain ⟨x12, hx12, h⟩ := Option.bind_eq_some_iff.mp h
            refine m_iald hx hb hKv hM (by decide) at_X5_12 0 rfl hx12 dX5_worthOf_104 ?_
            refine lv_iload hx hb dX5_worthOf_105 (lv_at hl 1 rfl) ?_
            obtain ⟨x13, hx13, h⟩ := Option.bind_eq_some_iff.mp h
            refine m_callV (As := [.int x12, .int x3]) (st1 := [.int x13, .int x11, .int v2]) hx hb (hml.trans hl.1.symm) hown hts hKv hXs hXk hM (kX5_farOf l D cI cZ ad hX0 x12 x3 M _ hx13) (cwV 2 hts gX5_worthOf_X5_farOf rfl rfl rfl (by decide +kernel) ⟨Nat.le_of_ble_eq_true rfl, Nat.le_of_ble_eq_true rfl⟩) (by decide) at_X5 rfl rfl rfl rfl (Nat.le_of_ble_eq_true rfl) dX5_worthOf_107 ⟨Nat.zero_le _, Nat.zero_le _⟩ (fun H locs hM => ?_)
            refine lv_isub hx hb dX5_worthOf_110 ?_
            refine lv_iadd hx hb dX5_worthOf_111 ?_
            refine lv_istore_n (lv' := [(2, .int (v2 + (x11 - x13))), (3, .int (v3 ||| ((1 : Int32) <<< (x9 &&& 31)))), (5, .int x3), (0, .ref (ad 0)), (1, .int u1), (4, .int v4)]) hx hb dX5_worthOf_112 rfl hl (by decide) rfl (fun ls hl => ?_)
            refine lv_iinc (v := (v4 + 1)) (lv' := [(4, .int (v4 + 1)), (2, .int (v2 + (x11 - x13))), (3, .int (v3 ||| ((1 : Int32) <<< (x9 &&& 31)))), (5, .int x3), (0, .ref (ad 0)), (1, .int u1)]) hx hb dX5_worthOf_113 hl (k := 5) rfl rfl (by decide) rfl (fun ls hl => ?_)
            refine lv_goto (tgt := 7) hx hb dX5_worthOf_116 (by decide) ?_
            exact ih _ _ _ h _ _ _ (lv_sub hl [4, 5, 1, 2, 0] rfl) hM
          · replace h := (if_pos c8).symm.trans h
            refine lv_ldc (v := (-1000000 : Int32)) hx hb hown k1 dX5_worthOf_69 ?_
            exact m_iret hx hb hr hlocks hM (Option.some.inj h) rfl dX5_worthOf_71
      · replace h := (if_pos c2).symm.trans h
        refine lv_iconst (v := (0 : Int32)) hx hb dX5_worthOf_25 (by decide) ?_
        refine lv_goto (tgt := 33) hx hb dX5_worthOf_26 (by decide) ?_
        obtain ⟨x14, hx14, h⟩ := Option.bind_eq_some_iff.mp h
        refine m_iald hx hb hKv hM (by decide) at_X5_12 0 rfl hx14 dX5_worthOf_33 ?_
        refine lv_istore (lv' := [(5, .int x14), (0, .ref (ad 0)), (1, .int u1), (2, .int v2), (3, .int v3), (4, .int v4)]) hx hb dX5_worthOf_34 hl (by decide) rfl (fun ls hl => ?_)
        refine lv_iload_n hx hb dX5_worthOf_36 rfl (lv_at hl 4 rfl) ?_
        refine lv_aload_n hx hb dX5_worthOf_37 rfl (lv_at hl 1 rfl) ?_
        refine m_get hx hb hts hown hKv hM (fun _ h => List.mem_cons_of_mem _ (List.mem_append_right _ (h))) (by decide) at_X5 rfl 29 (by decide) k0 (v := .ref (ad 12)) rfl dX5_worthOf_38 ?_
        refine lv_iload hx hb dX5_worthOf_41 (lv_at hl 5 rfl) ?_
        obtain ⟨x15, hx15, h⟩ := Option.bind_eq_some_iff.mp h
        refine m_iald hx hb hKv hM (by decide) at_X5_12 0 rfl hx15 dX5_worthOf_43 ?_
        refine lv_ishr hx hb dX5_worthOf_44 ?_
        refine lv_iconst (v := (1 : Int32)) hx hb dX5_worthOf_45 (by decide) ?_
        refine lv_iand hx hb dX5_worthOf_46 ?_
        refine lv_iconst (v := (1 : Int32)) hx hb dX5_worthOf_47 (by decide) ?_
        refine lv_icmp_eq (tgt := 69) hx hb dX5_worthOf_48 (by decide) (fun c16 => ?_) (fun c16 => ?_)
        · replace h := (if_pos c16).symm.trans h
          refine lv_ldc (v := (-1000000 : Int32)) hx hb hown k1 dX5_worthOf_69 ?_
          exact m_iret hx hb hr hlocks hM (Option.some.inj h) rfl dX5_worthOf_71
        · replace h := (if_neg c16).symm.trans h
          refine lv_aload_n hx hb dX5_worthOf_51 rfl (lv_at hl 1 rfl) ?_
          refine lv_aload_n hx hb dX5_worthOf_52 rfl (lv_at hl 1 rfl) ?_
          refine m_get hx hb hts hown hKv hM (fun _ h => List.mem_cons_of_mem _ (List.mem_append_right _ (h))) (by decide) at_X5 rfl 29 (by decide) k0 (v := .ref (ad 12)) rfl dX5_worthOf_53 ?_
          refine lv_iload hx hb dX5_worthOf_56 (lv_at hl 5 rfl) ?_
          obtain ⟨x17, hx17, h⟩ := Option.bind_eq_some_iff.mp h
          refine m_iald hx hb hKv hM (by decide) at_X5_12 0 rfl hx17 dX5_worthOf_58 ?_
          refine lv_iload hx hb dX5_worthOf_59 (lv_at hl 0 rfl) ?_
          obtain ⟨x18, hx18, h⟩ := Option.bind_eq_some_iff.mp h
          refine m_callV (As := [.int x17, .int x14]) (st1 := [.int x18]) hx hb (hml.trans hl.1.symm) hown hts hKv hXs hXk hM (kX5_farOf l D cI cZ ad hX0 x17 x14 M _ hx18) (cwV 2 hts gX5_worthOf_X5_farOf rfl rfl rfl (by decide +kernel) ⟨Nat.le_of_ble_eq_true rfl, Nat.le_of_ble_eq_true rfl⟩) (by decide) at_X5 rfl rfl rfl rfl (Nat.le_of_ble_eq_true rfl) dX5_worthOf_61 ⟨Nat.zero_le _, Nat.zero_le _⟩ (fun H locs hM => ?_)
          refine lv_bipush (v := (-9 : Int32)) hx hb dX5_worthOf_64 (by decide) ?_
          refine lv_icmp_ne (tgt := 72) hx hb dX5_worthOf_66 (by decide) (fun c19 => ?_) (fun c19 => ?_)
          · replace h := (if_neg c19).symm.trans h
            refine lv_iload_n hx hb dX5_worthOf_72 rfl (lv_at hl 4 rfl) ?_
            refine lv_iconst (v := (1 : Int32)) hx hb dX5_worthOf_73 (by decide) ?_
            refine lv_aload_n hx hb dX5_worthOf_74 rfl (lv_at hl 1 rfl) ?_
            refine m_get hx hb hts hown hKv hM (fun _ h => List.mem_cons_of_mem _ (List.mem_append_right _ (h))) (by decide) at_X5 rfl 29 (by decide) k0 (v := .ref (ad 12)) rfl dX5_worthOf_75 ?_
            refine lv_iload hx hb dX5_worthOf_78 (lv_at hl 5 rfl) ?_
            obtain ⟨x20, hx20, h⟩ := Option.bind_eq_some_iff.mp h
            refine m_iald hx hb hKv hM (by decide) at_X5_12 0 rfl hx20 dX5_worthOf_80 ?_
            refine lv_ishl hx hb dX5_worthOf_81 ?_
            refine lv_ior hx hb dX5_worthOf_82 ?_
            refine lv_istore_n (lv' := [(3, .int (v3 ||| ((1 : Int32) <<< (x20 &&& 31)))), (5, .int x14), (0, .ref (ad 0)), (1, .int u1), (2, .int v2), (4, .int v4)]) hx hb dX5_worthOf_83 rfl hl (by decide) rfl (fun ls hl => ?_)
            refine lv_iload_n hx hb dX5_worthOf_84 rfl (lv_at hl 4 rfl) ?_
            refine lv_aload_n hx hb dX5_worthOf_85 rfl (lv_at hl 2 rfl) ?_
            refine m_get hx hb hts hown hKv hM (fun _ h => List.mem_cons_of_mem _ (List.mem_append_right _ (h))) (by decide) at_X5 rfl 9 (by decide) k2 (v := .ref (ad 2)) rfl dX5_worthOf_86 ?_
            refine lv_aload_n hx hb dX5_worthOf_89 rfl (lv_at hl 2 rfl) ?_
            refine m_get hx hb hts hown hKv hM (fun _ h => List.mem_cons_of_mem _ (List.mem_append_right _ (h))) (by decide) at_X5 rfl 29 (by decide) k0 (v := .ref (ad 12)) rfl dX5_worthOf_90 ?_
            refine lv_iload hx hb dX5_worthOf_93 (lv_at hl 5 rfl) ?_
            obtain ⟨x21, hx21, h⟩ := Option.bind_eq_some_iff.mp h
            refine m_iald hx hb hKv hM (by decide) at_X5_12 0 rfl hx21 dX5_worthOf_95 ?_
            obtain ⟨x22, hx22, h⟩ := Option.bind_eq_some_iff.mp h
            refine m_iald hx hb hKv hM (by decide) at_X5_2 0 rfl hx22 dX5_worthOf_96 ?_
            refine lv_aload_n hx hb dX5_worthOf_97 rfl (lv_at hl 2 rfl) ?_
            refine lv_aload_n hx hb dX5_worthOf_98 rfl (lv_at hl 2 rfl) ?_
            refine m_get hx hb hts hown hKv hM (fun _ h => List.mem_cons_of_mem _ (List.mem_append_right _ (h))) (by decide) at_X5 rfl 29 (by decide) k0 (v := .ref (ad 12)) rfl dX5_worthOf_99 ?_
            refine lv_iload hx hb dX5_worthOf_102 (lv_at hl 5 rfl) ?_
            obtain ⟨x23, hx23, h⟩ := Option.bind_eq_some_iff.mp h
            refine m_iald hx hb hKv hM (by decide) at_X5_12 0 rfl hx23 dX5_worthOf_104 ?_
            refine lv_iload hx hb dX5_worthOf_105 (lv_at hl 1 rfl) ?_
            obtain ⟨x24, hx24, h⟩ := Option.bind_eq_some_iff.mp h
            refine m_callV (As := [.int x23, .int x14]) (st1 := [.int x24, .int x22, .int v2]) hx hb (hml.trans hl.1.symm) hown hts hKv hXs hXk hM (kX5_farOf l D cI cZ ad hX0 x23 x14 M _ hx24) (cwV 2 hts gX5_worthOf_X5_farOf rfl rfl rfl (by decide +kernel) ⟨Nat.le_of_ble_eq_true rfl, Nat.le_of_ble_eq_true rfl⟩) (by decide) at_X5 rfl rfl rfl rfl (Nat.le_of_ble_eq_true rfl) dX5_worthOf_107 ⟨Nat.zero_le _, Nat.zero_le _⟩ (fun H locs hM => ?_)
            refine lv_isub hx hb dX5_worthOf_110 ?_
            refine lv_iadd hx hb dX5_worthOf_111 ?_
            refine lv_istore_n (lv' := [(2, .int (v2 + (x22 - x24))), (3, .int (v3 ||| ((1 : Int32) <<< (x20 &&& 31)))), (5, .int x14), (0, .ref (ad 0)), (1, .int u1), (4, .int v4)]) hx hb dX5_worthOf_112 rfl hl (by decide) rfl (fun ls hl => ?_)
            refine lv_iinc (v := (v4 + 1)) (lv' := [(4, .int (v4 + 1)), (2, .int (v2 + (x22 - x24))), (3, .int (v3 ||| ((1 : Int32) <<< (x20 &&& 31)))), (5, .int x14), (0, .ref (ad 0)), (1, .int u1)]) hx hb dX5_worthOf_113 hl (k := 5) rfl rfl (by decide) rfl (fun ls hl => ?_)
            refine lv_goto (tgt := 7) hx hb dX5_worthOf_116 (by decide) ?_
            exact ih _ _ _ h _ _ _ (lv_sub hl [4, 5, 1, 2, 0] rfl) hM
          · replace h := (if_pos c19).symm.trans h
            refine lv_ldc (v := (-1000000 : Int32)) hx hb hown k1 dX5_worthOf_69 ?_
            exact m_iret hx hb hr hlocks hM (Option.some.inj h) rfl dX5_worthOf_71
set_option maxHeartbeats 4000000 in
set_option maxRecDepth 100000 in
theorem kX5_worthOf (l : Launch) (D : va_G) (cI cZ : ClassId) (ad : Nat → Nat) {X : State → Prop} (hX0 : mX ad 14 X) (a1 : Int32) (M : Mem) (res : Int32) (h : fX5_worthOf a1 M = some res) : mC l yX5_worthOf wsX5_worthOf { frames := 1, cells := 0, slots := 0, locals := 22 } D [(cI, .int), (cZ, .boolean)] ad 14 X [.ref (ad 0), .int a1] (Em ad cI cZ M) (some (.int res)) (Em ad cI cZ M) := by
  refine m_ofW (cc := cX5_worthOf) (maxL := 6) (ret := (some .int)) (by decide) rfl (Nat.le_of_ble_eq_true rfl) ?_
  intro p e s m args below meth c hx hb hml hr hlocks hts hown hKv hXs ls hl hM
  have hXk := hX0
  have Z : mZ p s m args meth c cX5_worthOf 6 (some .int) wsX5_worthOf RX5 D [(cI, .int), (cZ, .boolean)] X := ⟨hx, hb, hml, hr, hlocks, hts, hown, hKv, hXs⟩
  replace hown : s.vm.findClass RX5 = some m.cls := hown
  have hl : lv_has ls 6 [(0, .ref (ad 0)), (1, .int a1)] := hl
  unfold fX5_worthOf at h
  refine lv_iconst (v := (0 : Int32)) hx hb dX5_worthOf_0 (by decide) ?_
  refine lv_istore_n (lv' := [(2, .int (0 : Int32)), (0, .ref (ad 0)), (1, .int a1)]) hx hb dX5_worthOf_1 rfl hl (by decide) rfl (fun ls hl => ?_)
  refine lv_iconst (v := (0 : Int32)) hx hb dX5_worthOf_2 (by decide) ?_
  refine lv_istore_n (lv' := [(3, .int (0 : Int32)), (2, .int (0 : Int32)), (0, .ref (ad 0)), (1, .int a1)]) hx hb dX5_worthOf_3 rfl hl (by decide) rfl (fun ls hl => ?_)
  refine lv_iconst (v := (0 : Int32)) hx hb dX5_worthOf_4 (by decide) ?_
  refine lv_istore (lv' := [(4, .int (0 : Int32)), (3, .int (0 : Int32)), (2, .int (0 : Int32)), (0, .ref (ad 0)), (1, .int a1)]) hx hb dX5_worthOf_5 hl (by decide) rfl (fun ls hl => ?_)
  refine wX5_worthOf_7 Z hX0 a1 M _ (fun y1 h H locs ls hl hM => ?_) _ _ _ _ h _ _ _ (lv_sub hl [3, 4, 2, 1, 0] rfl) hM
  refine lv_iload_n hx hb dX5_worthOf_119 rfl (lv_at hl 0 rfl) ?_
  exact m_iret hx hb hr hlocks hM (Option.some.inj h) rfl dX5_worthOf_120
set_option maxHeartbeats 4000000 in
set_option maxRecDepth 100000 in
theorem wX5_best_30 {p : Program} {l : Launch} {e : Env} {s : State} {m : MethodId} {args : Array Value} {below : List Frame} {meth : Method} {c : Code} {D : va_G} {cI cZ : ClassId} {ad : Nat → Nat} {X : State → Prop} (Z : mZ p s m args meth c cX5_best 11 (some .int) wsX5_best RX5 D [(cI, .int), (cZ, .boolean)] X) (hX0 : mX ad 14 X)   (u1 : Int32) (u2 : Int32) (M : Mem) {K : Int32 → Option (Int32 × Mem)} (res : (Int32 × Mem)) (hKc : ∀ (y3 : Int32), K y3 = some res → ∀ (H : Heap) (locs : List Loc) (ls : Array Slot), lv_has ls 11 [(0, .ref (ad 0)), (1, .int u1), (2, .int u2), (3, .int y3)] → mH D ad 14 (Em ad cI cZ M) s.heap H locs → W p l e { frames := 2, cells := 0, slots := 0, locals := 47 } s m args below meth c H locs 0 0 (MQ below (mQ D ad 14 (some (.int res.1)) (Em ad cI cZ res.2)) args s 0 0 (mA ad 14)) (F0 m 51 ls [])) :
    ∀ (n : Nat) (v3 : Int32) (v4 : Int32), fX5_best_30 u1 u2 M K n v3 v4 = some res → ∀ (H : Heap) (locs : List Loc) (ls : Array Slot), lv_has ls 11 [(0, .ref (ad 0)), (1, .int u1), (2, .int u2), (3, .int v3), (4, .int v4)] → mH D ad 14 (Em ad cI cZ M) s.heap H locs → W p l e { frames := 2, cells := 0, slots := 0, locals := 47 } s m args below meth c H locs 0 0 (MQ below (mQ D ad 14 (some (.int res.1)) (Em ad cI cZ res.2)) args s 0 0 (mA ad 14)) (F0 m 30 ls []) := by
  obtain ⟨hx, hb, hml, hr, hlocks, hts, hown, hKv, hXs⟩ := id Z
  have hXk := hX0
  have k0 := hts (Cond.fieldLink RX5 131 "NoonWalkerModel" "towns" "I") (List.mem_of_getElem? (i := 3) rfl)
  intro n
  induction n with
  | zero => intro _ _ h; exact absurd h (by unfold fX5_best_30; exact fun h => by cases h)
  | succ n ih =>
    intro v3 v4 h H locs ls hl hM
    rw [fX5_best_30] at h
    refine lv_iload hx hb dX5_best_30 (lv_at hl 4 rfl) ?_
    refine lv_iconst (v := (5 : Int32)) hx hb dX5_best_32 (by decide) ?_
    refine lv_icmp_ge (tgt := 51) hx hb dX5_best_33 (by decide) (fun c1 => ?_) (fun c1 => ?_)
    · replace h := (if_pos c1).symm.trans h
      exact hKc _ h _ _ _ (lv_sub hl [0, 1, 2, 3] rfl) hM
    · replace h := (if_neg c1).symm.trans h
      refine lv_iload_n hx hb dX5_best_36 rfl (lv_at hl 3 rfl) ?_
      refine lv_aload_n hx hb dX5_best_37 rfl (lv_at hl 0 rfl) ?_
      refine m_get hx hb hts hown hKv hM (fun _ h => List.mem_cons_of_mem _ (List.mem_append_right _ (h))) (by decide) at_X5 rfl 13 (by decide) k0 (v := .int (M.1 0 13)) rfl dX5_best_38 ?_
      refine lv_iconst (v := (1 : Int32)) hx hb dX5_best_41 (by decide) ?_
      refine lv_iadd hx hb dX5_best_42 ?_
      refine lv_imul hx hb dX5_best_43 ?_
      refine lv_istore_n (lv' := [(3, .int (v3 * ((M.1 0 13) + (1 : Int32)))), (0, .ref (ad 0)), (1, .int u1), (2, .int u2), (4, .int v4)]) hx hb dX5_best_44 rfl hl (by decide) rfl (fun ls hl => ?_)
      refine lv_iinc (v := (v4 + 1)) (lv' := [(4, .int (v4 + 1)), (3, .int (v3 * ((M.1 0 13) + (1 : Int32)))), (0, .ref (ad 0)), (1, .int u1), (2, .int u2)]) hx hb dX5_best_45 hl (k := 4) rfl rfl (by decide) rfl (fun ls hl => ?_)
      refine lv_goto (tgt := 30) hx hb dX5_best_48 (by decide) ?_
      exact ih _ _ h _ _ _ (lv_sub hl [2, 3, 4, 1, 0] rfl) hM
set_option maxHeartbeats 4000000 in
set_option maxRecDepth 100000 in
theorem wX5_best_84 {p : Program} {l : Launch} {e : Env} {s : State} {m : MethodId} {args : Array Value} {below : List Frame} {meth : Method} {c : Code} {D : va_G} {cI cZ : ClassId} {ad : Nat → Nat} {X : State → Prop} (Z : mZ p s m args meth c cX5_best 11 (some .int) wsX5_best RX5 D [(cI, .int), (cZ, .boolean)] X) (hX0 : mX ad 14 X)   (u2 : Int32) (u3 : Int32) (u4 : Int32) (u5 : Int32) (u7 : Int32) (u8 : Int32)  {K : Mem → Option (Int32 × Mem)} (res : (Int32 × Mem)) (hKc : ∀  (M1 : Mem), K  M1 = some res → ∀ (H : Heap) (locs : List Loc) (ls : Array Slot), lv_has ls 11 [(0, .ref (ad 0)), (2, .int u2), (3, .int u3), (4, .int u4), (5, .int u5), (7, .int u7), (8, .int u8)] → mH D ad 14 (Em ad cI cZ M1) s.heap H locs → W p l e { frames := 2, cells := 0, slots := 0, locals := 47 } s m args below meth c H locs 0 0 (MQ below (mQ D ad 14 (some (.int res.1)) (Em ad cI cZ res.2)) args s 0 0 (mA ad 14)) (F0 m 124 ls [])) :
    ∀ (n : Nat) (v6 : Int32) (v9 : Int32) (M : Mem), fX5_best_84 u2 u3 u4 u5 u7 u8 K n v6 v9 M = some res → ∀ (H : Heap) (locs : List Loc) (ls : Array Slot), lv_has ls 11 [(0, .ref (ad 0)), (2, .int u2), (3, .int u3), (4, .int u4), (5, .int u5), (6, .int v6), (7, .int u7), (8, .int u8), (9, .int v9)] → mH D ad 14 (Em ad cI cZ M) s.heap H locs → W p l e { frames := 2, cells := 0, slots := 0, locals := 47 } s m args below meth c H locs 0 0 (MQ below (mQ D ad 14 (some (.int res.1)) (Em ad cI cZ res.2)) args s 0 0 (mA ad 14)) (F0 m 84 ls []) := by
  obtain ⟨hx, hb, hml, hr, hlocks, hts, hown, hKv, hXs⟩ := id Z
  have hXk := hX0
  have k0 := hts (Cond.fieldLink RX5 44 "NoonWalkerModel" "row" "[I") (List.mem_of_getElem? (i := 4) rfl)
  have k1 := hts (Cond.fieldLink RX5 131 "NoonWalkerModel" "towns" "I") (List.mem_of_getElem? (i := 3) rfl)
  intro n
  induction n with
  | zero => intro _ _ _ h; exact absurd h (by unfold fX5_best_84; exact fun h => by cases h)
  | succ n ih =>
    intro v6 v9 M h H locs ls hl hM
    rw [fX5_best_84] at h
    refine lv_iload hx hb dX5_best_84 (lv_at hl 8 rfl) ?_
    refine lv_if_le (tgt := 124) hx hb dX5_best_86 (by decide) (fun c1 => ?_) (fun c1 => ?_)
    · replace h := (if_pos c1).symm.trans h
      exact hKc _ h _ _ _ (lv_sub hl [0, 1, 2, 3, 4, 6, 7] rfl) hM
    · replace h := (if_neg c1).symm.trans h
      refine lv_aload_n hx hb dX5_best_89 rfl (lv_at hl 0 rfl) ?_
      refine m_get hx hb hts hown hKv hM (fun _ h => List.mem_cons_of_mem _ (List.mem_append_right _ (h))) (by decide) at_X5 rfl 29 (by decide) k0 (v := .ref (ad 12)) rfl dX5_best_90 ?_
      refine lv_iload hx hb dX5_best_93 (lv_at hl 8 rfl) ?_
      refine lv_iload hx hb dX5_best_95 (lv_at hl 5 rfl) ?_
      refine lv_aload_n hx hb dX5_best_97 rfl (lv_at hl 0 rfl) ?_
      refine m_get hx hb hts hown hKv hM (fun _ h => List.mem_cons_of_mem _ (List.mem_append_right _ (h))) (by decide) at_X5 rfl 13 (by decide) k1 (v := .int (M.1 0 13)) rfl dX5_best_98 ?_
      refine lv_iconst (v := (1 : Int32)) hx hb dX5_best_101 (by decide) ?_
      refine lv_iadd hx hb dX5_best_102 ?_
      obtain ⟨x2, hx2, h⟩ := Option.bind_eq_some_iff.mp h
      refine m_irem hx hb hx2 dX5_best_103 ?_
      refine lv_iconst (v := (1 : Int32)) hx hb dX5_best_104 (by decide) ?_
      refine lv_isub hx hb dX5_best_105 ?_
      obtain ⟨M3, hM3, h⟩ := Option.bind_eq_some_iff.mp h
      refine m_iast hx hb hKv hM (by decide) at_X5_12 0 rfl (sta_some hM3).1 (pa_X5_12 (sta_some hM3).2) dX5_best_106 (fun H locs hM => ?_)
      refine lv_iload hx hb dX5_best_107 (lv_at hl 5 rfl) ?_
      refine lv_aload_n hx hb dX5_best_109 rfl (lv_at hl 0 rfl) ?_
      refine m_get hx hb hts hown hKv hM (fun _ h => List.mem_cons_of_mem _ (List.mem_append_right _ (h))) (by decide) at_X5 rfl 13 (by decide) k1 (v := .int (M3.1 0 13)) rfl dX5_best_110 ?_
      refine lv_iconst (v := (1 : Int32)) hx hb dX5_best_113 (by decide) ?_
      refine lv_iadd hx hb dX5_best_114 ?_
      obtain ⟨x4, hx4, h⟩ := Option.bind_eq_some_iff.mp h
      refine m_idiv hx hb hx4 dX5_best_115 ?_
      refine lv_istore (lv' := [(6, .int x4), (0, .ref (ad 0)), (2, .int u2), (3, .int u3), (4, .int u4), (5, .int u5), (7, .int u7), (8, .int u8), (9, .int v9)]) hx hb dX5_best_116 hl (by decide) rfl (fun ls hl => ?_)
      refine lv_iinc (v := (v9 + (-1))) (lv' := [(9, .int (v9 + (-1))), (6, .int x4), (0, .ref (ad 0)), (2, .int u2), (3, .int u3), (4, .int u4), (5, .int u5), (7, .int u7), (8, .int u8)]) hx hb dX5_best_118 hl (k := 8) rfl rfl (by decide) rfl (fun ls hl => ?_)
      refine lv_goto (tgt := 84) hx hb dX5_best_121 (by decide) ?_
      exact ih _ _ _ h _ _ _ (lv_sub hl [2, 3, 4, 5, 6, 1, 7, 8, 0] rfl) hM
set_option maxHeartbeats 4000000 in
set_option maxRecDepth 100000 in
theorem wX5_best_127 {p : Program} {l : Launch} {e : Env} {s : State} {m : MethodId} {args : Array Value} {below : List Frame} {meth : Method} {c : Code} {D : va_G} {cI cZ : ClassId} {ad : Nat → Nat} {X : State → Prop} (Z : mZ p s m args meth c cX5_best 11 (some .int) wsX5_best RX5 D [(cI, .int), (cZ, .boolean)] X) (hX0 : mX ad 14 X)   (u2 : Int32) (u3 : Int32) (u4 : Int32) (u5 : Int32) (M : Mem) {K : Int32 → Int32 → Option (Int32 × Mem)} (res : (Int32 × Mem)) (hKc : ∀ (y7 : Int32) (y8 : Int32), K y7 y8 = some res → ∀ (H : Heap) (locs : List Loc) (ls : Array Slot), lv_has ls 11 [(0, .ref (ad 0)), (2, .int u2), (3, .int u3), (4, .int u4), (5, .int u5), (7, .int y7), (8, .int y8)] → mH D ad 14 (Em ad cI cZ M) s.heap H locs → W p l e { frames := 2, cells := 0, slots := 0, locals := 47 } s m args below meth c H locs 0 0 (MQ below (mQ D ad 14 (some (.int res.1)) (Em ad cI cZ res.2)) args s 0 0 (mA ad 14)) (F0 m 189 ls [])) :
    ∀ (n : Nat) (v7 : Int32) (v8 : Int32) (v9 : Int32), fX5_best_127 u2 u3 u4 u5 M K n v7 v8 v9 = some res → ∀ (H : Heap) (locs : List Loc) (ls : Array Slot), lv_has ls 11 [(0, .ref (ad 0)), (2, .int u2), (3, .int u3), (4, .int u4), (5, .int u5), (7, .int v7), (8, .int v8), (9, .int v9)] → mH D ad 14 (Em ad cI cZ M) s.heap H locs → W p l e { frames := 2, cells := 0, slots := 0, locals := 47 } s m args below meth c H locs 0 0 (MQ below (mQ D ad 14 (some (.int res.1)) (Em ad cI cZ res.2)) args s 0 0 (mA ad 14)) (F0 m 127 ls []) := by
  obtain ⟨hx, hb, hml, hr, hlocks, hts, hown, hKv, hXs⟩ := id Z
  have hXk := hX0
  have k0 := hts (Cond.fieldLink RX5 44 "NoonWalkerModel" "row" "[I") (List.mem_of_getElem? (i := 4) rfl)
  intro n
  induction n with
  | zero => intro _ _ _ h; exact absurd h (by unfold fX5_best_127; exact fun h => by cases h)
  | succ n ih =>
    intro v7 v8 v9 h H locs ls hl hM
    rw [fX5_best_127] at h
    refine lv_iload hx hb dX5_best_127 (lv_at hl 7 rfl) ?_
    refine lv_bipush (v := (6 : Int32)) hx hb dX5_best_129 (by decide) ?_
    refine lv_icmp_ge (tgt := 189) hx hb dX5_best_131 (by decide) (fun c1 => ?_) (fun c1 => ?_)
    · replace h := (if_pos c1).symm.trans h
      exact hKc _ _ h _ _ _ (lv_sub hl [0, 1, 2, 3, 4, 5, 6] rfl) hM
    · replace h := (if_neg c1).symm.trans h
      refine lv_iload hx hb dX5_best_134 (lv_at hl 6 rfl) ?_
      refine lv_if_eq (tgt := 160) hx hb dX5_best_136 (by decide) (fun c2 => ?_) (fun c2 => ?_)
      · replace h := (if_pos c2).symm.trans h
        refine lv_iconst (v := (0 : Int32)) hx hb dX5_best_160 (by decide) ?_
        refine lv_istore (lv' := [(8, .int (0 : Int32)), (0, .ref (ad 0)), (2, .int u2), (3, .int u3), (4, .int u4), (5, .int u5), (7, .int v7), (9, .int v9)]) hx hb dX5_best_161 hl (by decide) rfl (fun ls hl => ?_)
        refine lv_iload hx hb dX5_best_163 (lv_at hl 6 rfl) ?_
        refine lv_aload_n hx hb dX5_best_165 rfl (lv_at hl 1 rfl) ?_
        refine m_get hx hb hts hown hKv hM (fun _ h => List.mem_cons_of_mem _ (List.mem_append_right _ (h))) (by decide) at_X5 rfl 29 (by decide) k0 (v := .ref (ad 12)) rfl dX5_best_166 ?_
        refine lv_iload hx hb dX5_best_169 (lv_at hl 7 rfl) ?_
        obtain ⟨x3, hx3, h⟩ := Option.bind_eq_some_iff.mp h
        refine m_iald hx hb hKv hM (by decide) at_X5_12 0 rfl hx3 dX5_best_171 ?_
        refine lv_if_lt (tgt := 179) hx hb dX5_best_172 (by decide) (fun c4 => ?_) (fun c4 => ?_)
        · replace h := (if_pos c4).symm.trans h
          refine lv_iconst (v := (0 : Int32)) hx hb dX5_best_179 (by decide) ?_
          refine lv_iadd hx hb dX5_best_180 ?_
          refine lv_istore (lv' := [(7, .int (v7 + (0 : Int32))), (8, .int (0 : Int32)), (0, .ref (ad 0)), (2, .int u2), (3, .int u3), (4, .int u4), (5, .int u5), (9, .int v9)]) hx hb dX5_best_181 hl (by decide) rfl (fun ls hl => ?_)
          refine lv_iinc (v := (v9 + 1)) (lv' := [(9, .int (v9 + 1)), (7, .int (v7 + (0 : Int32))), (8, .int (0 : Int32)), (0, .ref (ad 0)), (2, .int u2), (3, .int u3), (4, .int u4), (5, .int u5)]) hx hb dX5_best_183 hl (k := 7) rfl rfl (by decide) rfl (fun ls hl => ?_)
          refine lv_goto (tgt := 127) hx hb dX5_best_186 (by decide) ?_
          exact ih _ _ _ h _ _ _ (lv_sub hl [3, 4, 5, 6, 7, 1, 2, 0] rfl) hM
        · replace h := (if_neg c4).symm.trans h
          refine lv_iconst (v := (1 : Int32)) hx hb dX5_best_175 (by decide) ?_
          refine lv_goto (tgt := 180) hx hb dX5_best_176 (by decide) ?_
          refine lv_iadd hx hb dX5_best_180 ?_
          refine lv_istore (lv' := [(7, .int (v7 + (1 : Int32))), (8, .int (0 : Int32)), (0, .ref (ad 0)), (2, .int u2), (3, .int u3), (4, .int u4), (5, .int u5), (9, .int v9)]) hx hb dX5_best_181 hl (by decide) rfl (fun ls hl => ?_)
          refine lv_iinc (v := (v9 + 1)) (lv' := [(9, .int (v9 + 1)), (7, .int (v7 + (1 : Int32))), (8, .int (0 : Int32)), (0, .ref (ad 0)), (2, .int u2), (3, .int u3), (4, .int u4), (5, .int u5)]) hx hb dX5_best_183 hl (k := 7) rfl rfl (by decide) rfl (fun ls hl => ?_)
          refine lv_goto (tgt := 127) hx hb dX5_best_186 (by decide) ?_
          exact ih _ _ _ h _ _ _ (lv_sub hl [3, 4, 5, 6, 7, 1, 2, 0] rfl) hM
      · replace h := (if_neg c2).symm.trans h
        refine lv_aload_n hx hb dX5_best_139 rfl (lv_at hl 0 rfl) ?_
        refine m_get hx hb hts hown hKv hM (fun _ h => List.mem_cons_of_mem _ (List.mem_append_right _ (h))) (by decide) at_X5 rfl 29 (by decide) k0 (v := .ref (ad 12)) rfl dX5_best_140 ?_
        refine lv_iload hx hb dX5_best_143 (lv_at hl 7 rfl) ?_
        obtain ⟨x5, hx5, h⟩ := Option.bind_eq_some_iff.mp h
        refine m_iald hx hb hKv hM (by decide) at_X5_12 0 rfl hx5 dX5_best_145 ?_
        refine lv_if_lt (tgt := 156) hx hb dX5_best_146 (by decide) (fun c6 => ?_) (fun c6 => ?_)
        · replace h := (if_pos c6).symm.trans h
          refine lv_iconst (v := (1 : Int32)) hx hb dX5_best_156 (by decide) ?_
          refine lv_goto (tgt := 161) hx hb dX5_best_157 (by decide) ?_
          refine lv_istore (lv' := [(8, .int (1 : Int32)), (0, .ref (ad 0)), (2, .int u2), (3, .int u3), (4, .int u4), (5, .int u5), (7, .int v7), (9, .int v9)]) hx hb dX5_best_161 hl (by decide) rfl (fun ls hl => ?_)
          refine lv_iload hx hb dX5_best_163 (lv_at hl 6 rfl) ?_
          refine lv_aload_n hx hb dX5_best_165 rfl (lv_at hl 1 rfl) ?_
          refine m_get hx hb hts hown hKv hM (fun _ h => List.mem_cons_of_mem _ (List.mem_append_right _ (h))) (by decide) at_X5 rfl 29 (by decide) k0 (v := .ref (ad 12)) rfl dX5_best_166 ?_
          refine lv_iload hx hb dX5_best_169 (lv_at hl 7 rfl) ?_
          obtain ⟨x7, hx7, h⟩ := Option.bind_eq_some_iff.mp h
          refine m_iald hx hb hKv hM (by decide) at_X5_12 0 rfl hx7 dX5_best_171 ?_
          refine lv_if_lt (tgt := 179) hx hb dX5_best_172 (by decide) (fun c8 => ?_) (fun c8 => ?_)
          · replace h := (if_pos c8).symm.trans h
            refine lv_iconst (v := (0 : Int32)) hx hb dX5_best_179 (by decide) ?_
            refine lv_iadd hx hb dX5_best_180 ?_
            refine lv_istore (lv' := [(7, .int (v7 + (0 : Int32))), (8, .int (1 : Int32)), (0, .ref (ad 0)), (2, .int u2), (3, .int u3), (4, .int u4), (5, .int u5), (9, .int v9)]) hx hb dX5_best_181 hl (by decide) rfl (fun ls hl => ?_)
            refine lv_iinc (v := (v9 + 1)) (lv' := [(9, .int (v9 + 1)), (7, .int (v7 + (0 : Int32))), (8, .int (1 : Int32)), (0, .ref (ad 0)), (2, .int u2), (3, .int u3), (4, .int u4), (5, .int u5)]) hx hb dX5_best_183 hl (k := 7) rfl rfl (by decide) rfl (fun ls hl => ?_)
            refine lv_goto (tgt := 127) hx hb dX5_best_186 (by decide) ?_
            exact ih _ _ _ h _ _ _ (lv_sub hl [3, 4, 5, 6, 7, 1, 2, 0] rfl) hM
          · replace h := (if_neg c8).symm.trans h
            refine lv_iconst (v := (1 : Int32)) hx hb dX5_best_175 (by decide) ?_
            refine lv_goto (tgt := 180) hx hb dX5_best_176 (by decide) ?_
            refine lv_iadd hx hb dX5_best_180 ?_
            refine lv_istore (lv' := [(7, .int (v7 + (1 : Int32))), (8, .int (1 : Int32)), (0, .ref (ad 0)), (2, .int u2), (3, .int u3), (4, .int u4), (5, .int u5), (9, .int v9)]) hx hb dX5_best_181 hl (by decide) rfl (fun ls hl => ?_)
            refine lv_iinc (v := (v9 + 1)) (lv' := [(9, .int (v9 + 1)), (7, .int (v7 + (1 : Int32))), (8, .int (1 : Int32)), (0, .ref (ad 0)), (2, .int u2), (3, .int u3), (4, .int u4), (5, .int u5)]) hx hb dX5_best_183 hl (k := 7) rfl rfl (by decide) rfl (fun ls hl => ?_)
            refine lv_goto (tgt := 127) hx hb dX5_best_186 (by decide) ?_
            exact ih _ _ _ h _ _ _ (lv_sub hl [3, 4, 5, 6, 7, 1, 2, 0] rfl) hM
        · replace h := (if_neg c6).symm.trans h
          refine lv_iload hx hb dX5_best_149 (lv_at hl 5 rfl) ?_
          refine lv_iload hx hb dX5_best_151 (lv_at hl 7 rfl) ?_
          refine lv_icmp_ne (tgt := 160) hx hb dX5_best_153 (by decide) (fun c9 => ?_) (fun c9 => ?_)
          · replace h := (if_neg c9).symm.trans h
            refine lv_iconst (v := (0 : Int32)) hx hb dX5_best_160 (by decide) ?_
            refine lv_istore (lv' := [(8, .int (0 : Int32)), (0, .ref (ad 0)), (2, .int u2), (3, .int u3), (4, .int u4), (5, .int u5), (7, .int v7), (9, .int v9)]) hx hb dX5_best_161 hl (by decide) rfl (fun ls hl => ?_)
            refine lv_iload hx hb dX5_best_163 (lv_at hl 6 rfl) ?_
            refine lv_aload_n hx hb dX5_best_165 rfl (lv_at hl 1 rfl) ?_
            refine m_get hx hb hts hown hKv hM (fun _ h => List.mem_cons_of_mem _ (List.mem_append_right _ (h))) (by decide) at_X5 rfl 29 (by decide) k0 (v := .ref (ad 12)) rfl dX5_best_166 ?_
            refine lv_iload hx hb dX5_best_169 (lv_at hl 7 rfl) ?_
            obtain ⟨x10, hx10, h⟩ := Option.bind_eq_some_iff.mp h
            refine m_iald hx hb hKv hM (by decide) at_X5_12 0 rfl hx10 dX5_best_171 ?_
            refine lv_if_lt (tgt := 179) hx hb dX5_best_172 (by decide) (fun c11 => ?_) (fun c11 => ?_)
            · replace h := (if_pos c11).symm.trans h
              refine lv_iconst (v := (0 : Int32)) hx hb dX5_best_179 (by decide) ?_
              refine lv_iadd hx hb dX5_best_180 ?_
              refine lv_istore (lv' := [(7, .int (v7 + (0 : Int32))), (8, .int (0 : Int32)), (0, .ref (ad 0)), (2, .int u2), (3, .int u3), (4, .int u4), (5, .int u5), (9, .int v9)]) hx hb dX5_best_181 hl (by decide) rfl (fun ls hl => ?_)
              refine lv_iinc (v := (v9 + 1)) (lv' := [(9, .int (v9 + 1)), (7, .int (v7 + (0 : Int32))), (8, .int (0 : Int32)), (0, .ref (ad 0)), (2, .int u2), (3, .int u3), (4, .int u4), (5, .int u5)]) hx hb dX5_best_183 hl (k := 7) rfl rfl (by decide) rfl (fun ls hl => ?_)
              refine lv_goto (tgt := 127) hx hb dX5_best_186 (by decide) ?_
              exact ih _ _ _ h _ _ _ (lv_sub hl [3, 4, 5, 6, 7, 1, 2, 0] rfl) hM
            · replace h := (if_neg c11).symm.trans h
              refine lv_iconst (v := (1 : Int32)) hx hb dX5_best_175 (by decide) ?_
              refine lv_goto (tgt := 180) hx hb dX5_best_176 (by decide) ?_
              refine lv_iadd hx hb dX5_best_180 ?_
              refine lv_istore (lv' := [(7, .int (v7 + (1 : Int32))), (8, .int (0 : Int32)), (0, .ref (ad 0)), (2, .int u2), (3, .int u3), (4, .int u4), (5, .int u5), (9, .int v9)]) hx hb dX5_best_181 hl (by decide) rfl (fun ls hl => ?_)
              refine lv_iinc (v := (v9 + 1)) (lv' := [(9, .int (v9 + 1)), (7, .int (v7 + (1 : Int32))), (8, .int (0 : Int32)), (0, .ref (ad 0)), (2, .int u2), (3, .int u3), (4, .int u4), (5, .int u5)]) hx hb dX5_best_183 hl (k := 7) rfl rfl (by decide) rfl (fun ls hl => ?_)
              refine lv_goto (tgt := 127) hx hb dX5_best_186 (by decide) ?_
              exact ih _ _ _ h _ _ _ (lv_sub hl [3, 4, 5, 6, 7, 1, 2, 0] rfl) hM
          · replace h := (if_pos c9).symm.trans h
            refine lv_iconst (v := (1 : Int32)) hx hb dX5_best_156 (by decide) ?_
            refine lv_goto (tgt := 161) hx hb dX5_best_157 (by decide) ?_
            refine lv_istore (lv' := [(8, .int (1 : Int32)), (0, .ref (ad 0)), (2, .int u2), (3, .int u3), (4, .int u4), (5, .int u5), (7, .int v7), (9, .int v9)]) hx hb dX5_best_161 hl (by decide) rfl (fun ls hl => ?_)
            refine lv_iload hx hb dX5_best_163 (lv_at hl 6 rfl) ?_
            refine lv_aload_n hx hb dX5_best_165 rfl (lv_at hl 1 rfl) ?_
            refine m_get hx hb hts hown hKv hM (fun _ h => List.mem_cons_of_mem _ (List.mem_append_right _ (h))) (by decide) at_X5 rfl 29 (by decide) k0 (v := .ref (ad 12)) rfl dX5_best_166 ?_
            refine lv_iload hx hb dX5_best_169 (lv_at hl 7 rfl) ?_
            obtain ⟨x12, hx12, h⟩ := Option.bind_eq_some_iff.mp h
            refine m_iald hx hb hKv hM (by decide) at_X5_12 0 rfl hx12 dX5_best_171 ?_
            refine lv_if_lt (tgt := 179) hx hb dX5_best_172 (by decide) (fun c13 => ?_) (fun c13 => ?_)
            · replace h := (if_pos c13).symm.trans h
              refine lv_iconst (v := (0 : Int32)) hx hb dX5_best_179 (by decide) ?_
              refine lv_iadd hx hb dX5_best_180 ?_
              refine lv_istore (lv' := [(7, .int (v7 + (0 : Int32))), (8, .int (1 : Int32)), (0, .ref (ad 0)), (2, .int u2), (3, .int u3), (4, .int u4), (5, .int u5), (9, .int v9)]) hx hb dX5_best_181 hl (by decide) rfl (fun ls hl => ?_)
              refine lv_iinc (v := (v9 + 1)) (lv' := [(9, .int (v9 + 1)), (7, .int (v7 + (0 : Int32))), (8, .int (1 : Int32)), (0, .ref (ad 0)), (2, .int u2), (3, .int u3), (4, .int u4), (5, .int u5)]) hx hb dX5_best_183 hl (k := 7) rfl rfl (by decide) rfl (fun ls hl => ?_)
              refine lv_goto (tgt := 127) hx hb dX5_best_186 (by decide) ?_
              exact ih _ _ _ h _ _ _ (lv_sub hl [3, 4, 5, 6, 7, 1, 2, 0] rfl) hM
            · replace h := (if_neg c13).symm.trans h
              refine lv_iconst (v := (1 : Int32)) hx hb dX5_best_175 (by decide) ?_
              refine lv_goto (tgt := 180) hx hb dX5_best_176 (by decide) ?_
              refine lv_iadd hx hb dX5_best_180 ?_
              refine lv_istore (lv' := [(7, .int (v7 + (1 : Int32))), (8, .int (1 : Int32)), (0, .ref (ad 0)), (2, .int u2), (3, .int u3), (4, .int u4), (5, .int u5), (9, .int v9)]) hx hb dX5_best_181 hl (by decide) rfl (fun ls hl => ?_)
              refine lv_iinc (v := (v9 + 1)) (lv' := [(9, .int (v9 + 1)), (7, .int (v7 + (1 : Int32))), (8, .int (1 : Int32)), (0, .ref (ad 0)), (2, .int u2), (3, .int u3), (4, .int u4), (5, .int u5)]) hx hb dX5_best_183 hl (k := 7) rfl rfl (by decide) rfl (fun ls hl => ?_)
              refine lv_goto (tgt := 127) hx hb dX5_best_186 (by decide) ?_
              exact ih _ _ _ h _ _ _ (lv_sub hl [3, 4, 5, 6, 7, 1, 2, 0] rfl) hM
set_option maxHeartbeats 4000000 in
set_option maxRecDepth 100000 in
theorem wX5_best_221 {p : Program} {l : Launch} {e : Env} {s : State} {m : MethodId} {args : Array Value} {below : List Frame} {meth : Method} {c : Code} {D : va_G} {cI cZ : ClassId} {ad : Nat → Nat} {X : State → Prop} (Z : mZ p s m args meth c cX5_best 11 (some .int) wsX5_best RX5 D [(cI, .int), (cZ, .boolean)] X) (hX0 : mX ad 14 X)   (u2 : Int32) (u3 : Int32) (u4 : Int32) (u5 : Int32) (u7 : Int32)  {K : Mem → Option (Int32 × Mem)} (res : (Int32 × Mem)) (hKc : ∀  (M1 : Mem), K  M1 = some res → ∀ (H : Heap) (locs : List Loc) (ls : Array Slot), lv_has ls 11 [(0, .ref (ad 0)), (2, .int u2), (3, .int u3), (4, .int u4), (5, .int u5)] → mH D ad 14 (Em ad cI cZ M1) s.heap H locs → W p l e { frames := 2, cells := 0, slots := 0, locals := 47 } s m args below meth c H locs 0 0 (MQ below (mQ D ad 14 (some (.int res.1)) (Em ad cI cZ res.2)) args s 0 0 (mA ad 14)) (F0 m 260 ls [])) :
    ∀ (n : Nat) (v10 : Int32) (M : Mem), fX5_best_221 u2 u3 u4 u5 u7 K n v10 M = some res → ∀ (H : Heap) (locs : List Loc) (ls : Array Slot), lv_has ls 11 [(0, .ref (ad 0)), (2, .int u2), (3, .int u3), (4, .int u4), (5, .int u5), (7, .int u7), (10, .int v10)] → mH D ad 14 (Em ad cI cZ M) s.heap H locs → W p l e { frames := 2, cells := 0, slots := 0, locals := 47 } s m args below meth c H locs 0 0 (MQ below (mQ D ad 14 (some (.int res.1)) (Em ad cI cZ res.2)) args s 0 0 (mA ad 14)) (F0 m 221 ls []) := by
  obtain ⟨hx, hb, hml, hr, hlocks, hts, hown, hKv, hXs⟩ := id Z
  have hXk := hX0
  have k0 := hts (Cond.fieldLink RX5 47 "NoonWalkerModel" "best" "[I") (List.mem_of_getElem? (i := 5) rfl)
  have k1 := hts (Cond.fieldLink RX5 44 "NoonWalkerModel" "row" "[I") (List.mem_of_getElem? (i := 4) rfl)
  intro n
  induction n with
  | zero => intro _ _ h; exact absurd h (by unfold fX5_best_221; exact fun h => by cases h)
  | succ n ih =>
    intro v10 M h H locs ls hl hM
    rw [fX5_best_221] at h
    refine lv_iload hx hb dX5_best_221 (lv_at hl 6 rfl) ?_
    refine lv_bipush (v := (6 : Int32)) hx hb dX5_best_223 (by decide) ?_
    refine lv_icmp_ge (tgt := 260) hx hb dX5_best_225 (by decide) (fun c1 => ?_) (fun c1 => ?_)
    · replace h := (if_pos c1).symm.trans h
      exact hKc _ h _ _ _ (lv_sub hl [0, 1, 2, 3, 4] rfl) hM
    · replace h := (if_neg c1).symm.trans h
      refine lv_aload_n hx hb dX5_best_228 rfl (lv_at hl 0 rfl) ?_
      refine m_get hx hb hts hown hKv hM (fun _ h => List.mem_cons_of_mem _ (List.mem_append_right _ (h))) (by decide) at_X5 rfl 30 (by decide) k0 (v := .ref (ad 13)) rfl dX5_best_229 ?_
      refine lv_iload hx hb dX5_best_232 (lv_at hl 6 rfl) ?_
      refine lv_iload hx hb dX5_best_234 (lv_at hl 6 rfl) ?_
      refine lv_iload hx hb dX5_best_236 (lv_at hl 5 rfl) ?_
      refine lv_icmp_ge (tgt := 251) hx hb dX5_best_238 (by decide) (fun c2 => ?_) (fun c2 => ?_)
      · replace h := (if_pos c2).symm.trans h
        refine lv_bipush (v := (-9 : Int32)) hx hb dX5_best_251 (by decide) ?_
        obtain ⟨M3, hM3, h⟩ := Option.bind_eq_some_iff.mp h
        refine m_iast hx hb hKv hM (by decide) at_X5_13 0 rfl (sta_some hM3).1 (pa_X5_13 (sta_some hM3).2) dX5_best_253 (fun H locs hM => ?_)
        refine lv_iinc (v := (v10 + 1)) (lv' := [(10, .int (v10 + 1)), (0, .ref (ad 0)), (2, .int u2), (3, .int u3), (4, .int u4), (5, .int u5), (7, .int u7)]) hx hb dX5_best_254 hl (k := 6) rfl rfl (by decide) rfl (fun ls hl => ?_)
        refine lv_goto (tgt := 221) hx hb dX5_best_257 (by decide) ?_
        exact ih _ _ h _ _ _ (lv_sub hl [1, 2, 3, 4, 5, 6, 0] rfl) hM
      · replace h := (if_neg c2).symm.trans h
        refine lv_aload_n hx hb dX5_best_241 rfl (lv_at hl 0 rfl) ?_
        refine m_get hx hb hts hown hKv hM (fun _ h => List.mem_cons_of_mem _ (List.mem_append_right _ (h))) (by decide) at_X5 rfl 29 (by decide) k1 (v := .ref (ad 12)) rfl dX5_best_242 ?_
        refine lv_iload hx hb dX5_best_245 (lv_at hl 6 rfl) ?_
        obtain ⟨x4, hx4, h⟩ := Option.bind_eq_some_iff.mp h
        refine m_iald hx hb hKv hM (by decide) at_X5_12 0 rfl hx4 dX5_best_247 ?_
        refine lv_goto (tgt := 253) hx hb dX5_best_248 (by decide) ?_
        obtain ⟨M5, hM5, h⟩ := Option.bind_eq_some_iff.mp h
        refine m_iast hx hb hKv hM (by decide) at_X5_13 0 rfl (sta_some hM5).1 (pa_X5_13 (sta_some hM5).2) dX5_best_253 (fun H locs hM => ?_)
        refine lv_iinc (v := (v10 + 1)) (lv' := [(10, .int (v10 + 1)), (0, .ref (ad 0)), (2, .int u2), (3, .int u3), (4, .int u4), (5, .int u5), (7, .int u7)]) hx hb dX5_best_254 hl (k := 6) rfl rfl (by decide) rfl (fun ls hl => ?_)
        refine lv_goto (tgt := 221) hx hb dX5_best_257 (by decide) ?_
        exact ih _ _ h _ _ _ (lv_sub hl [1, 2, 3, 4, 5, 6, 0] rfl) hM
set_option maxHeartbeats 4000000 in
set_option maxRecDepth 100000 in
theorem wX5_best_65 {p : Program} {l : Launch} {e : Env} {s : State} {m : MethodId} {args : Array Value} {below : List Frame} {meth : Method} {c : Code} {D : va_G} {cI cZ : ClassId} {ad : Nat → Nat} {X : State → Prop} (Z : mZ p s m args meth c cX5_best 11 (some .int) wsX5_best RX5 D [(cI, .int), (cZ, .boolean)] X) (hX0 : mX ad 14 X)   (u2 : Int32) (u3 : Int32)  {K : Int32 → Mem → Option (Int32 × Mem)} (res : (Int32 × Mem)) (hKc : ∀ (y4 : Int32) (M1 : Mem), K y4 M1 = some res → ∀ (H : Heap) (locs : List Loc) (ls : Array Slot), lv_has ls 11 [(0, .ref (ad 0)), (2, .int u2), (4, .int y4)] → mH D ad 14 (Em ad cI cZ M1) s.heap H locs → W p l e { frames := 2, cells := 0, slots := 0, locals := 47 } s m args below meth c H locs 0 0 (MQ below (mQ D ad 14 (some (.int res.1)) (Em ad cI cZ res.2)) args s 0 0 (mA ad 14)) (F0 m 266 ls [])) :
    ∀ (n : Nat) (v4 : Int32) (v5 : Int32) (M : Mem), fX5_best_65 u2 u3 K n v4 v5 M = some res → ∀ (H : Heap) (locs : List Loc) (ls : Array Slot), lv_has ls 11 [(0, .ref (ad 0)), (2, .int u2), (3, .int u3), (4, .int v4), (5, .int v5)] → mH D ad 14 (Em ad cI cZ M) s.heap H locs → W p l e { frames := 2, cells := 0, slots := 0, locals := 47 } s m args below meth c H locs 0 0 (MQ below (mQ D ad 14 (some (.int res.1)) (Em ad cI cZ res.2)) args s 0 0 (mA ad 14)) (F0 m 65 ls []) := by
  obtain ⟨hx, hb, hml, hr, hlocks, hts, hown, hKv, hXs⟩ := id Z
  have hXk := hX0
  have k0 := hts (Cond.constant RX5 140 (-1000000)) (List.mem_of_getElem? (i := 2) rfl)
  intro n
  induction n with
  | zero => intro _ _ _ h; exact absurd h (by unfold fX5_best_65; exact fun h => by cases h)
  | succ n ih =>
    intro v4 v5 M h H locs ls hl hM
    rw [fX5_best_65] at h
    refine lv_iload hx hb dX5_best_65 (lv_at hl 4 rfl) ?_
    refine lv_iload_n hx hb dX5_best_67 rfl (lv_at hl 2 rfl) ?_
    refine lv_icmp_ge (tgt := 266) hx hb dX5_best_68 (by decide) (fun c1 => ?_) (fun c1 => ?_)
    · replace h := (if_pos c1).symm.trans h
      exact hKc _ _ h _ _ _ (lv_sub hl [0, 1, 3] rfl) hM
    · replace h := (if_neg c1).symm.trans h
      refine lv_iload hx hb dX5_best_71 (lv_at hl 4 rfl) ?_
      refine lv_istore (lv' := [(6, .int v5), (0, .ref (ad 0)), (2, .int u2), (3, .int u3), (4, .int v4), (5, .int v5)]) hx hb dX5_best_73 hl (by decide) rfl (fun ls hl => ?_)
      refine lv_iconst (v := (1 : Int32)) hx hb dX5_best_75 (by decide) ?_
      refine lv_istore (lv' := [(7, .int (1 : Int32)), (6, .int v5), (0, .ref (ad 0)), (2, .int u2), (3, .int u3), (4, .int v4), (5, .int v5)]) hx hb dX5_best_76 hl (by decide) rfl (fun ls hl => ?_)
      refine lv_iconst (v := (1 : Int32)) hx hb dX5_best_78 (by decide) ?_
      refine lv_istore (lv' := [(8, .int (1 : Int32)), (7, .int (1 : Int32)), (6, .int v5), (0, .ref (ad 0)), (2, .int u2), (3, .int u3), (4, .int v4), (5, .int v5)]) hx hb dX5_best_79 hl (by decide) rfl (fun ls hl => ?_)
      refine lv_iconst (v := (5 : Int32)) hx hb dX5_best_81 (by decide) ?_
      refine lv_istore (lv' := [(9, .int (5 : Int32)), (8, .int (1 : Int32)), (7, .int (1 : Int32)), (6, .int v5), (0, .ref (ad 0)), (2, .int u2), (3, .int u3), (4, .int v4), (5, .int v5)]) hx hb dX5_best_82 hl (by decide) rfl (fun ls hl => ?_)
      refine wX5_best_84 Z hX0 u2 u3 v4 v5 (1 : Int32) (1 : Int32) _ (fun M2 h H locs ls hl hM => ?_) _ _ _ _ h _ _ _ (lv_sub hl [4, 5, 6, 7, 8, 3, 2, 1, 0] rfl) hM
      refine lv_iconst (v := (1 : Int32)) hx hb dX5_best_124 (by decide) ?_
      refine lv_istore (lv' := [(9, .int (1 : Int32)), (0, .ref (ad 0)), (2, .int u2), (3, .int u3), (4, .int v4), (5, .int v5), (7, .int (1 : Int32)), (8, .int (1 : Int32))]) hx hb dX5_best_125 hl (by decide) rfl (fun ls hl => ?_)
      refine wX5_best_127 Z hX0 u2 u3 v4 v5 M2 _ (fun y3 y4 h H locs ls hl hM => ?_) _ _ _ _ h _ _ _ (lv_sub hl [1, 2, 3, 4, 5, 6, 7, 0] rfl) hM
      refine lv_iload hx hb dX5_best_189 (lv_at hl 6 rfl) ?_
      refine lv_if_eq (tgt := 203) hx hb dX5_best_191 (by decide) (fun c5 => ?_) (fun c5 => ?_)
      · replace h := (if_pos c5).symm.trans h
        refine lv_ldc (v := (-1000000 : Int32)) hx hb hown k0 dX5_best_203 ?_
        refine lv_istore (lv' := [(9, .int (-1000000 : Int32)), (0, .ref (ad 0)), (2, .int u2), (3, .int u3), (4, .int v4), (5, .int v5), (7, .int y3), (8, .int y4)]) hx hb dX5_best_205 hl (by decide) rfl (fun ls hl => ?_)
        refine lv_iload hx hb dX5_best_207 (lv_at hl 0 rfl) ?_
        refine lv_iload hx hb dX5_best_209 (lv_at hl 4 rfl) ?_
        refine lv_icmp_le (tgt := 260) hx hb dX5_best_211 (by decide) (fun c6 => ?_) (fun c6 => ?_)
        · replace h := (if_pos c6).symm.trans h
          refine lv_iinc (v := (v5 + 1)) (lv' := [(5, .int (v5 + 1)), (9, .int (-1000000 : Int32)), (0, .ref (ad 0)), (2, .int u2), (3, .int u3), (4, .int v4), (7, .int y3), (8, .int y4)]) hx hb dX5_best_260 hl (k := 5) rfl rfl (by decide) rfl (fun ls hl => ?_)
          refine lv_goto (tgt := 65) hx hb dX5_best_263 (by decide) ?_
          exact ih _ _ _ h _ _ _ (lv_sub hl [2, 3, 4, 5, 0] rfl) hM
        · replace h := (if_neg c6).symm.trans h
          refine lv_iload hx hb dX5_best_214 (lv_at hl 0 rfl) ?_
          refine lv_istore (lv' := [(4, .int (-1000000 : Int32)), (9, .int (-1000000 : Int32)), (0, .ref (ad 0)), (2, .int u2), (3, .int u3), (5, .int v5), (7, .int y3), (8, .int y4)]) hx hb dX5_best_216 hl (by decide) rfl (fun ls hl => ?_)
          refine lv_iconst (v := (0 : Int32)) hx hb dX5_best_218 (by decide) ?_
          refine lv_istore (lv' := [(10, .int (0 : Int32)), (4, .int (-1000000 : Int32)), (9, .int (-1000000 : Int32)), (0, .ref (ad 0)), (2, .int u2), (3, .int u3), (5, .int v5), (7, .int y3), (8, .int y4)]) hx hb dX5_best_219 hl (by decide) rfl (fun ls hl => ?_)
          refine wX5_best_221 Z hX0 u2 u3 (-1000000 : Int32) v5 y3 _ (fun M7 h H locs ls hl hM => ?_) _ _ _ h _ _ _ (lv_sub hl [3, 4, 5, 1, 6, 7, 0] rfl) hM
          refine lv_iinc (v := (v5 + 1)) (lv' := [(5, .int (v5 + 1)), (0, .ref (ad 0)), (2, .int u2), (3, .int u3), (4, .int (-1000000 : Int32))]) hx hb dX5_best_260 hl (k := 4) rfl rfl (by decide) rfl (fun ls hl => ?_)
          refine lv_goto (tgt := 65) hx hb dX5_best_263 (by decide) ?_
          exact ih _ _ _ h _ _ _ (lv_sub hl [1, 2, 3, 4, 0] rfl) hM
      · replace h := (if_neg c5).symm.trans h
        refine lv_aload_n hx hb dX5_best_194 rfl (lv_at hl 0 rfl) ?_
        refine lv_iload hx hb dX5_best_195 (lv_at hl 5 rfl) ?_
        obtain ⟨x8, hx8, h⟩ := Option.bind_eq_some_iff.mp h
        refine m_callV (As := [.int y3]) (st1 := [.int x8]) hx hb (hml.trans hl.1.symm) hown hts hKv hXs hXk hM (kX5_worthOf l D cI cZ ad hX0 y3 M2 _ hx8) (cwV 1 hts gX5_best_X5_worthOf rfl rfl rfl (by decide +kernel) ⟨Nat.le_of_ble_eq_true rfl, Nat.le_of_ble_eq_true rfl⟩) (by decide) at_X5 rfl rfl rfl rfl (Nat.le_of_ble_eq_true rfl) dX5_best_197 ⟨Nat.zero_le _, Nat.zero_le _⟩ (fun H locs hM => ?_)
        refine lv_goto (tgt := 205) hx hb dX5_best_200 (by decide) ?_
        refine lv_istore (lv' := [(9, .int x8), (0, .ref (ad 0)), (2, .int u2), (3, .int u3), (4, .int v4), (5, .int v5), (7, .int y3), (8, .int y4)]) hx hb dX5_best_205 hl (by decide) rfl (fun ls hl => ?_)
        refine lv_iload hx hb dX5_best_207 (lv_at hl 0 rfl) ?_
        refine lv_iload hx hb dX5_best_209 (lv_at hl 4 rfl) ?_
        refine lv_icmp_le (tgt := 260) hx hb dX5_best_211 (by decide) (fun c9 => ?_) (fun c9 => ?_)
        · replace h := (if_pos c9).symm.trans h
          refine lv_iinc (v := (v5 + 1)) (lv' := [(5, .int (v5 + 1)), (9, .int x8), (0, .ref (ad 0)), (2, .int u2), (3, .int u3), (4, .int v4), (7, .int y3), (8, .int y4)]) hx hb dX5_best_260 hl (k := 5) rfl rfl (by decide) rfl (fun ls hl => ?_)
          refine lv_goto (tgt := 65) hx hb dX5_best_263 (by decide) ?_
          exact ih _ _ _ h _ _ _ (lv_sub hl [2, 3, 4, 5, 0] rfl) hM
        · replace h := (if_neg c9).symm.trans h
          refine lv_iload hx hb dX5_best_214 (lv_at hl 0 rfl) ?_
          refine lv_istore (lv' := [(4, .int x8), (9, .int x8), (0, .ref (ad 0)), (2, .int u2), (3, .int u3), (5, .int v5), (7, .int y3), (8, .int y4)]) hx hb dX5_best_216 hl (by decide) rfl (fun ls hl => ?_)
          refine lv_iconst (v := (0 : Int32)) hx hb dX5_best_218 (by decide) ?_
          refine lv_istore (lv' := [(10, .int (0 : Int32)), (4, .int x8), (9, .int x8), (0, .ref (ad 0)), (2, .int u2), (3, .int u3), (5, .int v5), (7, .int y3), (8, .int y4)]) hx hb dX5_best_219 hl (by decide) rfl (fun ls hl => ?_)
          refine wX5_best_221 Z hX0 u2 u3 x8 v5 y3 _ (fun M10 h H locs ls hl hM => ?_) _ _ _ h _ _ _ (lv_sub hl [3, 4, 5, 1, 6, 7, 0] rfl) hM
          refine lv_iinc (v := (v5 + 1)) (lv' := [(5, .int (v5 + 1)), (0, .ref (ad 0)), (2, .int u2), (3, .int u3), (4, .int x8)]) hx hb dX5_best_260 hl (k := 4) rfl rfl (by decide) rfl (fun ls hl => ?_)
          refine lv_goto (tgt := 65) hx hb dX5_best_263 (by decide) ?_
          exact ih _ _ _ h _ _ _ (lv_sub hl [1, 2, 3, 4, 0] rfl) hM
set_option maxHeartbeats 4000000 in
set_option maxRecDepth 100000 in
theorem kX5_best (l : Launch) (D : va_G) (cI cZ : ClassId) (ad : Nat → Nat) {X : State → Prop} (hX0 : mX ad 14 X) (a1 : Int32) (a2 : Int32) (M : Mem) (res : (Int32 × Mem)) (h : fX5_best a1 a2 M = some res) : mC l yX5_best wsX5_best { frames := 2, cells := 0, slots := 0, locals := 47 } D [(cI, .int), (cZ, .boolean)] ad 14 X [.ref (ad 0), .int a1, .int a2] (Em ad cI cZ M) (some (.int res.1)) (Em ad cI cZ res.2) := by
  refine m_ofW (cc := cX5_best) (maxL := 11) (ret := (some .int)) (by decide) rfl (Nat.le_of_ble_eq_true rfl) ?_
  intro p e s m args below meth c hx hb hml hr hlocks hts hown hKv hXs ls hl hM
  have hXk := hX0
  have Z : mZ p s m args meth c cX5_best 11 (some .int) wsX5_best RX5 D [(cI, .int), (cZ, .boolean)] X := ⟨hx, hb, hml, hr, hlocks, hts, hown, hKv, hXs⟩
  replace hown : s.vm.findClass RX5 = some m.cls := hown
  have hl : lv_has ls 11 [(0, .ref (ad 0)), (1, .int a1), (2, .int a2)] := hl
  have k0 := hts (Cond.fieldLink RX5 53 "NoonWalkerModel" "thrown" "I") (List.mem_of_getElem? (i := 1) rfl)
  have k1 := hts (Cond.constant RX5 140 (-1000000)) (List.mem_of_getElem? (i := 2) rfl)
  have k2 := hts (Cond.fieldLink RX5 44 "NoonWalkerModel" "row" "[I") (List.mem_of_getElem? (i := 4) rfl)
  have k3 := hts (Cond.fieldLink RX5 47 "NoonWalkerModel" "best" "[I") (List.mem_of_getElem? (i := 5) rfl)
  unfold fX5_best at h
  refine lv_aload_n hx hb dX5_best_0 rfl (lv_at hl 0 rfl) ?_
  refine lv_iconst (v := (0 : Int32)) hx hb dX5_best_1 (by decide) ?_
  obtain ⟨M1, hM1, h⟩ := Option.bind_eq_some_iff.mp h
  refine m_put hx hb hts hown hKv hM (fun _ h => List.mem_cons_of_mem _ (List.mem_append_right _ (h))) tyX5 tyX5_ok nmX5 (by decide) at_X5 rfl 0 (by decide) k0 rfl rfl rfl (Nat.le_of_ble_eq_true rfl) (pt_X5_0 (Option.some.inj hM1)) dX5_best_2 (fun H locs hM => ?_)
  refine lv_aload_n hx hb dX5_best_5 rfl (lv_at hl 0 rfl) ?_
  refine lv_iload_n hx hb dX5_best_6 rfl (lv_at hl 1 rfl) ?_
  obtain ⟨x2, hx2, h⟩ := Option.bind_eq_some_iff.mp h
  refine m_callV (As := [.int a1]) (st1 := [.int x2]) hx hb (hml.trans hl.1.symm) hown hts hKv hXs hXk hM (kX5_isTown l D cI cZ ad hX0 a1 M1 _ hx2) (cwV 1 hts gX5_best_X5_isTown rfl rfl rfl (by decide +kernel) ⟨Nat.le_of_ble_eq_true rfl, Nat.le_of_ble_eq_true rfl⟩) (by decide) at_X5 rfl rfl rfl rfl (Nat.le_of_ble_eq_true rfl) dX5_best_7 ⟨Nat.zero_le _, Nat.zero_le _⟩ (fun H locs hM => ?_)
  refine lv_if_eq (tgt := 22) hx hb dX5_best_10 (by decide) (fun c3 => ?_) (fun c3 => ?_)
  · replace h := (if_pos c3).symm.trans h
    refine lv_ldc (v := (-1000000 : Int32)) hx hb hown k1 dX5_best_22 ?_
    exact m_iret hx hb hr hlocks hM (congrArg (a₁ := ((-1000000 : Int32), M1)) Prod.fst (Option.some.inj h)) (congrArg (a₁ := ((-1000000 : Int32), M1)) (fun z => Em ad cI cZ z.2) (Option.some.inj h)) dX5_best_24
  · replace h := (if_neg c3).symm.trans h
    refine lv_iload_n hx hb dX5_best_13 rfl (lv_at hl 2 rfl) ?_
    refine lv_iconst (v := (-1 : Int32)) hx hb dX5_best_14 (by decide) ?_
    refine lv_iconst (v := (5 : Int32)) hx hb dX5_best_15 (by decide) ?_
    obtain ⟨x4, hx4, h⟩ := Option.bind_eq_some_iff.mp h
    refine m_callS (As := [.int a2, .int (-1 : Int32), .int (5 : Int32)]) (st1 := [.int x4]) hx hb (hml.trans hl.1.symm) hown hts hKv hXs hXk hM (kX5_in l D cI cZ ad hX0 a2 (-1 : Int32) (5 : Int32) M1 _ hx4) (va_cwS 3 hts gX5_best_X5_in rfl rfl rfl (by decide +kernel) ⟨Nat.le_of_ble_eq_true rfl, Nat.le_of_ble_eq_true rfl⟩) rfl rfl rfl (Nat.le_of_ble_eq_true rfl) dX5_best_16 ⟨Nat.zero_le _, Nat.zero_le _⟩ (fun H locs hM => ?_)
    refine lv_if_ne (tgt := 25) hx hb dX5_best_19 (by decide) (fun c5 => ?_) (fun c5 => ?_)
    · replace h := (if_neg c5).symm.trans h
      refine lv_iconst (v := (1 : Int32)) hx hb dX5_best_25 (by decide) ?_
      refine lv_istore_n (lv' := [(3, .int (1 : Int32)), (0, .ref (ad 0)), (1, .int a1), (2, .int a2)]) hx hb dX5_best_26 rfl hl (by decide) rfl (fun ls hl => ?_)
      refine lv_iconst (v := (0 : Int32)) hx hb dX5_best_27 (by decide) ?_
      refine lv_istore (lv' := [(4, .int (0 : Int32)), (3, .int (1 : Int32)), (0, .ref (ad 0)), (1, .int a1), (2, .int a2)]) hx hb dX5_best_28 hl (by decide) rfl (fun ls hl => ?_)
      refine wX5_best_30 Z hX0 a1 a2 M1 _ (fun y6 h H locs ls hl hM => ?_) _ _ _ h _ _ _ (lv_sub hl [2, 3, 4, 1, 0] rfl) hM
      refine lv_ldc (v := (-1000000 : Int32)) hx hb hown k1 dX5_best_51 ?_
      refine lv_istore (lv' := [(4, .int (-1000000 : Int32)), (0, .ref (ad 0)), (1, .int a1), (2, .int a2), (3, .int y6)]) hx hb dX5_best_53 hl (by decide) rfl (fun ls hl => ?_)
      refine lv_aload_n hx hb dX5_best_55 rfl (lv_at hl 1 rfl) ?_
      refine m_get hx hb hts hown hKv hM (fun _ h => List.mem_cons_of_mem _ (List.mem_append_right _ (h))) (by decide) at_X5 rfl 29 (by decide) k2 (v := .ref (ad 12)) rfl dX5_best_56 ?_
      refine lv_iconst (v := (0 : Int32)) hx hb dX5_best_59 (by decide) ?_
      refine lv_iload_n hx hb dX5_best_60 rfl (lv_at hl 2 rfl) ?_
      obtain ⟨M7, hM7, h⟩ := Option.bind_eq_some_iff.mp h
      refine m_iast hx hb hKv hM (by decide) at_X5_12 0 rfl (sta_some hM7).1 (pa_X5_12 (sta_some hM7).2) dX5_best_61 (fun H locs hM => ?_)
      refine lv_iconst (v := (0 : Int32)) hx hb dX5_best_62 (by decide) ?_
      refine lv_istore (lv' := [(5, .int (0 : Int32)), (4, .int (-1000000 : Int32)), (0, .ref (ad 0)), (1, .int a1), (2, .int a2), (3, .int y6)]) hx hb dX5_best_63 hl (by decide) rfl (fun ls hl => ?_)
      refine wX5_best_65 Z hX0 a2 y6 _ (fun y8 M9 h H locs ls hl hM => ?_) _ _ _ _ h _ _ _ (lv_sub hl [2, 4, 5, 1, 0] rfl) hM
      refine lv_iload_n hx hb dX5_best_266 rfl (lv_at hl 1 rfl) ?_
      refine lv_if_ge (tgt := 275) hx hb dX5_best_267 (by decide) (fun c10 => ?_) (fun c10 => ?_)
      · replace h := (if_pos c10).symm.trans h
        refine lv_aload_n hx hb dX5_best_275 rfl (lv_at hl 0 rfl) ?_
        refine m_get hx hb hts hown hKv hM (fun _ h => List.mem_cons_of_mem _ (List.mem_append_right _ (h))) (by decide) at_X5 rfl 30 (by decide) k3 (v := .ref (ad 13)) rfl dX5_best_276 ?_
        refine lv_iload_n hx hb dX5_best_279 rfl (lv_at hl 1 rfl) ?_
        obtain ⟨x11, hx11, h⟩ := Option.bind_eq_some_iff.mp h
        refine m_iald hx hb hKv hM (by decide) at_X5_13 0 rfl hx11 dX5_best_280 ?_
        exact m_iret hx hb hr hlocks hM (congrArg (a₁ := (x11, M9)) Prod.fst (Option.some.inj h)) (congrArg (a₁ := (x11, M9)) (fun z => Em ad cI cZ z.2) (Option.some.inj h)) dX5_best_281
      · replace h := (if_neg c10).symm.trans h
        refine lv_iload hx hb dX5_best_270 (lv_at hl 2 rfl) ?_
        refine lv_goto (tgt := 281) hx hb dX5_best_272 (by decide) ?_
        exact m_iret hx hb hr hlocks hM (congrArg (a₁ := (y8, M9)) Prod.fst (Option.some.inj h)) (congrArg (a₁ := (y8, M9)) (fun z => Em ad cI cZ z.2) (Option.some.inj h)) dX5_best_281
    · replace h := (if_pos c5).symm.trans h
      refine lv_ldc (v := (-1000000 : Int32)) hx hb hown k1 dX5_best_22 ?_
      exact m_iret hx hb hr hlocks hM (congrArg (a₁ := ((-1000000 : Int32), M1)) Prod.fst (Option.some.inj h)) (congrArg (a₁ := ((-1000000 : Int32), M1)) (fun z => Em ad cI cZ z.2) (Option.some.inj h)) dX5_best_24
set_option maxHeartbeats 4000000 in
set_option maxRecDepth 100000 in
theorem kX5_saw (l : Launch) (D : va_G) (cI cZ : ClassId) (ad : Nat → Nat) {X : State → Prop} (hX0 : mX ad 14 X) (a1 : Int32) (a2 : Int32) (a3 : Int32) (M : Mem) (res : (Int32 × Mem)) (h : fX5_saw a1 a2 a3 M = some res) : mC l yX5_saw wsX5_saw { frames := 2, cells := 0, slots := 0, locals := 43 } D [(cI, .int), (cZ, .boolean)] ad 14 X [.ref (ad 0), .int a1, .int a2, .int a3] (Em ad cI cZ M) (some (.int res.1)) (Em ad cI cZ res.2) := by
  refine m_ofW (cc := cX5_saw) (maxL := 5) (ret := (some .int)) (by decide) rfl (Nat.le_of_ble_eq_true rfl) ?_
  intro p e s m args below meth c hx hb hml hr hlocks hts hown hKv hXs ls hl hM
  have hXk := hX0
  have Z : mZ p s m args meth c cX5_saw 5 (some .int) wsX5_saw RX5 D [(cI, .int), (cZ, .boolean)] X := ⟨hx, hb, hml, hr, hlocks, hts, hown, hKv, hXs⟩
  replace hown : s.vm.findClass RX5 = some m.cls := hown
  have hl : lv_has ls 5 [(0, .ref (ad 0)), (1, .int a1), (2, .int a2), (3, .int a3)] := hl
  have k0 := hts (Cond.fieldLink RX5 53 "NoonWalkerModel" "thrown" "I") (List.mem_of_getElem? (i := 1) rfl)
  have k1 := hts (Cond.fieldLink RX5 34 "NoonWalkerModel" "s" "[I") (List.mem_of_getElem? (i := 2) rfl)
  unfold fX5_saw at h
  refine lv_aload_n hx hb dX5_saw_0 rfl (lv_at hl 0 rfl) ?_
  refine lv_iconst (v := (0 : Int32)) hx hb dX5_saw_1 (by decide) ?_
  obtain ⟨M1, hM1, h⟩ := Option.bind_eq_some_iff.mp h
  refine m_put hx hb hts hown hKv hM (fun _ h => List.mem_cons_of_mem _ (List.mem_append_right _ (h))) tyX5 tyX5_ok nmX5 (by decide) at_X5 rfl 0 (by decide) k0 rfl rfl rfl (Nat.le_of_ble_eq_true rfl) (pt_X5_0 (Option.some.inj hM1)) dX5_saw_2 (fun H locs hM => ?_)
  refine lv_aload_n hx hb dX5_saw_5 rfl (lv_at hl 0 rfl) ?_
  refine lv_iload_n hx hb dX5_saw_6 rfl (lv_at hl 1 rfl) ?_
  obtain ⟨x2, hx2, h⟩ := Option.bind_eq_some_iff.mp h
  refine m_callV (As := [.int a1]) (st1 := [.int x2]) hx hb (hml.trans hl.1.symm) hown hts hKv hXs hXk hM (kX5_isTown l D cI cZ ad hX0 a1 M1 _ hx2) (cwV 1 hts gX5_saw_X5_isTown rfl rfl rfl (by decide +kernel) ⟨Nat.le_of_ble_eq_true rfl, Nat.le_of_ble_eq_true rfl⟩) (by decide) at_X5 rfl rfl rfl rfl (Nat.le_of_ble_eq_true rfl) dX5_saw_7 ⟨Nat.zero_le _, Nat.zero_le _⟩ (fun H locs hM => ?_)
  refine lv_if_eq (tgt := 30) hx hb dX5_saw_10 (by decide) (fun c3 => ?_) (fun c3 => ?_)
  · replace h := (if_pos c3).symm.trans h
    refine lv_iconst (v := (-1 : Int32)) hx hb dX5_saw_30 (by decide) ?_
    exact m_iret hx hb hr hlocks hM (congrArg (a₁ := ((-1 : Int32), M1)) Prod.fst (Option.some.inj h)) (congrArg (a₁ := ((-1 : Int32), M1)) (fun z => Em ad cI cZ z.2) (Option.some.inj h)) dX5_saw_31
  · replace h := (if_neg c3).symm.trans h
    refine lv_iload_n hx hb dX5_saw_13 rfl (lv_at hl 2 rfl) ?_
    refine lv_iconst (v := (0 : Int32)) hx hb dX5_saw_14 (by decide) ?_
    refine lv_bipush (v := (23 : Int32)) hx hb dX5_saw_15 (by decide) ?_
    obtain ⟨x4, hx4, h⟩ := Option.bind_eq_some_iff.mp h
    refine m_callS (As := [.int a2, .int (0 : Int32), .int (23 : Int32)]) (st1 := [.int x4]) hx hb (hml.trans hl.1.symm) hown hts hKv hXs hXk hM (kX5_in l D cI cZ ad hX0 a2 (0 : Int32) (23 : Int32) M1 _ hx4) (va_cwS 3 hts gX5_saw_X5_in rfl rfl rfl (by decide +kernel) ⟨Nat.le_of_ble_eq_true rfl, Nat.le_of_ble_eq_true rfl⟩) rfl rfl rfl (Nat.le_of_ble_eq_true rfl) dX5_saw_17 ⟨Nat.zero_le _, Nat.zero_le _⟩ (fun H locs hM => ?_)
    refine lv_if_eq (tgt := 30) hx hb dX5_saw_20 (by decide) (fun c5 => ?_) (fun c5 => ?_)
    · replace h := (if_pos c5).symm.trans h
      refine lv_iconst (v := (-1 : Int32)) hx hb dX5_saw_30 (by decide) ?_
      exact m_iret hx hb hr hlocks hM (congrArg (a₁ := ((-1 : Int32), M1)) Prod.fst (Option.some.inj h)) (congrArg (a₁ := ((-1 : Int32), M1)) (fun z => Em ad cI cZ z.2) (Option.some.inj h)) dX5_saw_31
    · replace h := (if_neg c5).symm.trans h
      refine lv_iload_n hx hb dX5_saw_23 rfl (lv_at hl 3 rfl) ?_
      obtain ⟨x6, hx6, h⟩ := Option.bind_eq_some_iff.mp h
      refine m_callS (As := [.int a3]) (st1 := [.int x6]) hx hb (hml.trans hl.1.symm) hown hts hKv hXs hXk hM (kX5_isHour l D cI cZ ad hX0 a3 M1 _ hx6) (va_cwS 1 hts gX5_saw_X5_isHour rfl rfl rfl (by decide +kernel) ⟨Nat.le_of_ble_eq_true rfl, Nat.le_of_ble_eq_true rfl⟩) rfl rfl rfl (Nat.le_of_ble_eq_true rfl) dX5_saw_24 ⟨Nat.zero_le _, Nat.zero_le _⟩ (fun H locs hM => ?_)
      refine lv_if_ne (tgt := 32) hx hb dX5_saw_27 (by decide) (fun c7 => ?_) (fun c7 => ?_)
      · replace h := (if_neg c7).symm.trans h
        refine lv_aload_n hx hb dX5_saw_32 rfl (lv_at hl 0 rfl) ?_
        refine m_get hx hb hts hown hKv hM (fun _ h => List.mem_cons_of_mem _ (List.mem_append_right _ (h))) (by decide) at_X5 rfl 22 (by decide) k1 (v := .ref (ad 9)) rfl dX5_saw_33 ?_
        refine lv_iconst (v := (1 : Int32)) hx hb dX5_saw_36 (by decide) ?_
        obtain ⟨x8, hx8, h⟩ := Option.bind_eq_some_iff.mp h
        refine m_iald hx hb hKv hM (by decide) at_X5_9 0 rfl hx8 dX5_saw_37 ?_
        refine lv_bipush (v := (8 : Int32)) hx hb dX5_saw_38 (by decide) ?_
        refine lv_icmp_ne (tgt := 46) hx hb dX5_saw_40 (by decide) (fun c9 => ?_) (fun c9 => ?_)
        · replace h := (if_neg c9).symm.trans h
          refine lv_iconst (v := (2 : Int32)) hx hb dX5_saw_46 (by decide) ?_
          refine lv_iconst (v := (3 : Int32)) hx hb dX5_saw_47 (by decide) ?_
          refine lv_aload_n hx hb dX5_saw_48 rfl (lv_at hl 0 rfl) ?_
          refine m_get hx hb hts hown hKv hM (fun _ h => List.mem_cons_of_mem _ (List.mem_append_right _ (h))) (by decide) at_X5 rfl 22 (by decide) k1 (v := .ref (ad 9)) rfl dX5_saw_49 ?_
          refine lv_iconst (v := (1 : Int32)) hx hb dX5_saw_52 (by decide) ?_
          obtain ⟨x10, hx10, h⟩ := Option.bind_eq_some_iff.mp h
          refine m_iald hx hb hKv hM (by decide) at_X5_9 0 rfl hx10 dX5_saw_53 ?_
          refine lv_imul hx hb dX5_saw_54 ?_
          refine lv_iadd hx hb dX5_saw_55 ?_
          refine lv_istore (lv' := [(4, .int ((2 : Int32) + ((3 : Int32) * x10))), (0, .ref (ad 0)), (1, .int a1), (2, .int a2), (3, .int a3)]) hx hb dX5_saw_56 hl (by decide) rfl (fun ls hl => ?_)
          refine lv_aload_n hx hb dX5_saw_58 rfl (lv_at hl 1 rfl) ?_
          refine m_get hx hb hts hown hKv hM (fun _ h => List.mem_cons_of_mem _ (List.mem_append_right _ (h))) (by decide) at_X5 rfl 22 (by decide) k1 (v := .ref (ad 9)) rfl dX5_saw_59 ?_
          refine lv_iload hx hb dX5_saw_62 (lv_at hl 0 rfl) ?_
          refine lv_iload_n hx hb dX5_saw_64 rfl (lv_at hl 2 rfl) ?_
          obtain ⟨M11, hM11, h⟩ := Option.bind_eq_some_iff.mp h
          refine m_iast hx hb hKv hM (by decide) at_X5_9 0 rfl (sta_some hM11).1 (pa_X5_9 (sta_some hM11).2) dX5_saw_65 (fun H locs hM => ?_)
          refine lv_aload_n hx hb dX5_saw_66 rfl (lv_at hl 1 rfl) ?_
          refine m_get hx hb hts hown hKv hM (fun _ h => List.mem_cons_of_mem _ (List.mem_append_right _ (h))) (by decide) at_X5 rfl 22 (by decide) k1 (v := .ref (ad 9)) rfl dX5_saw_67 ?_
          refine lv_iload hx hb dX5_saw_70 (lv_at hl 0 rfl) ?_
          refine lv_iconst (v := (1 : Int32)) hx hb dX5_saw_72 (by decide) ?_
          refine lv_iadd hx hb dX5_saw_73 ?_
          refine lv_iload_n hx hb dX5_saw_74 rfl (lv_at hl 3 rfl) ?_
          obtain ⟨M12, hM12, h⟩ := Option.bind_eq_some_iff.mp h
          refine m_iast hx hb hKv hM (by decide) at_X5_9 0 rfl (sta_some hM12).1 (pa_X5_9 (sta_some hM12).2) dX5_saw_75 (fun H locs hM => ?_)
          refine lv_aload_n hx hb dX5_saw_76 rfl (lv_at hl 1 rfl) ?_
          refine m_get hx hb hts hown hKv hM (fun _ h => List.mem_cons_of_mem _ (List.mem_append_right _ (h))) (by decide) at_X5 rfl 22 (by decide) k1 (v := .ref (ad 9)) rfl dX5_saw_77 ?_
          refine lv_iload hx hb dX5_saw_80 (lv_at hl 0 rfl) ?_
          refine lv_iconst (v := (2 : Int32)) hx hb dX5_saw_82 (by decide) ?_
          refine lv_iadd hx hb dX5_saw_83 ?_
          refine lv_iload_n hx hb dX5_saw_84 rfl (lv_at hl 4 rfl) ?_
          obtain ⟨M13, hM13, h⟩ := Option.bind_eq_some_iff.mp h
          refine m_iast hx hb hKv hM (by decide) at_X5_9 0 rfl (sta_some hM13).1 (pa_X5_9 (sta_some hM13).2) dX5_saw_85 (fun H locs hM => ?_)
          refine lv_aload_n hx hb dX5_saw_86 rfl (lv_at hl 1 rfl) ?_
          refine m_get hx hb hts hown hKv hM (fun _ h => List.mem_cons_of_mem _ (List.mem_append_right _ (h))) (by decide) at_X5 rfl 22 (by decide) k1 (v := .ref (ad 9)) rfl dX5_saw_87 ?_
          refine lv_iconst (v := (1 : Int32)) hx hb dX5_saw_90 (by decide) ?_
          refine lv_dup2_11 hx hb dX5_saw_91 rfl rfl ?_
          obtain ⟨x14, hx14, h⟩ := Option.bind_eq_some_iff.mp h
          refine m_iald hx hb hKv hM (by decide) at_X5_9 0 rfl hx14 dX5_saw_92 ?_
          refine lv_iconst (v := (1 : Int32)) hx hb dX5_saw_93 (by decide) ?_
          refine lv_iadd hx hb dX5_saw_94 ?_
          obtain ⟨M15, hM15, h⟩ := Option.bind_eq_some_iff.mp h
          refine m_iast hx hb hKv hM (by decide) at_X5_9 0 rfl (sta_some hM15).1 (pa_X5_9 (sta_some hM15).2) dX5_saw_95 (fun H locs hM => ?_)
          refine lv_aload_n hx hb dX5_saw_96 rfl (lv_at hl 1 rfl) ?_
          refine m_get hx hb hts hown hKv hM (fun _ h => List.mem_cons_of_mem _ (List.mem_append_right _ (h))) (by decide) at_X5 rfl 22 (by decide) k1 (v := .ref (ad 9)) rfl dX5_saw_97 ?_
          refine lv_iconst (v := (1 : Int32)) hx hb dX5_saw_100 (by decide) ?_
          obtain ⟨x16, hx16, h⟩ := Option.bind_eq_some_iff.mp h
          refine m_iald hx hb hKv hM (by decide) at_X5_9 0 rfl hx16 dX5_saw_101 ?_
          exact m_iret hx hb hr hlocks hM (congrArg (a₁ := (x16, M15)) Prod.fst (Option.some.inj h)) (congrArg (a₁ := (x16, M15)) (fun z => Em ad cI cZ z.2) (Option.some.inj h)) dX5_saw_102
        · replace h := (if_pos c9).symm.trans h
          refine lv_bipush (v := (-3 : Int32)) hx hb dX5_saw_43 (by decide) ?_
          exact m_iret hx hb hr hlocks hM (congrArg (a₁ := ((-3 : Int32), M1)) Prod.fst (Option.some.inj h)) (congrArg (a₁ := ((-3 : Int32), M1)) (fun z => Em ad cI cZ z.2) (Option.some.inj h)) dX5_saw_45
      · replace h := (if_pos c7).symm.trans h
        refine lv_iconst (v := (-1 : Int32)) hx hb dX5_saw_30 (by decide) ?_
        exact m_iret hx hb hr hlocks hM (congrArg (a₁ := ((-1 : Int32), M1)) Prod.fst (Option.some.inj h)) (congrArg (a₁ := ((-1 : Int32), M1)) (fun z => Em ad cI cZ z.2) (Option.some.inj h)) dX5_saw_31
set_option maxHeartbeats 4000000 in
set_option maxRecDepth 100000 in
theorem kX5_forget (l : Launch) (D : va_G) (cI cZ : ClassId) (ad : Nat → Nat) {X : State → Prop} (hX0 : mX ad 14 X)  (M : Mem) (res : (Int32 × Mem)) (h : fX5_forget M = some res) : mC l yX5_forget wsX5_forget { frames := 0, cells := 0, slots := 0, locals := 0 } D [(cI, .int), (cZ, .boolean)] ad 14 X [.ref (ad 0)] (Em ad cI cZ M) (some (.int res.1)) (Em ad cI cZ res.2) := by
  refine m_ofW (cc := cX5_forget) (maxL := 2) (ret := (some .int)) (by decide) rfl (Nat.le_of_ble_eq_true rfl) ?_
  intro p e s m args below meth c hx hb hml hr hlocks hts hown hKv hXs ls hl hM
  have hXk := hX0
  have Z : mZ p s m args meth c cX5_forget 2 (some .int) wsX5_forget RX5 D [(cI, .int), (cZ, .boolean)] X := ⟨hx, hb, hml, hr, hlocks, hts, hown, hKv, hXs⟩
  replace hown : s.vm.findClass RX5 = some m.cls := hown
  have hl : lv_has ls 2 [(0, .ref (ad 0))] := hl
  have k0 := hts (Cond.fieldLink RX5 53 "NoonWalkerModel" "thrown" "I") (List.mem_of_getElem? (i := 1) rfl)
  have k1 := hts (Cond.fieldLink RX5 34 "NoonWalkerModel" "s" "[I") (List.mem_of_getElem? (i := 2) rfl)
  unfold fX5_forget at h
  refine lv_aload_n hx hb dX5_forget_0 rfl (lv_at hl 0 rfl) ?_
  refine lv_iconst (v := (0 : Int32)) hx hb dX5_forget_1 (by decide) ?_
  obtain ⟨M1, hM1, h⟩ := Option.bind_eq_some_iff.mp h
  refine m_put hx hb hts hown hKv hM (fun _ h => List.mem_cons_of_mem _ (List.mem_append_right _ (h))) tyX5 tyX5_ok nmX5 (by decide) at_X5 rfl 0 (by decide) k0 rfl rfl rfl (Nat.le_of_ble_eq_true rfl) (pt_X5_0 (Option.some.inj hM1)) dX5_forget_2 (fun H locs hM => ?_)
  refine lv_aload_n hx hb dX5_forget_5 rfl (lv_at hl 0 rfl) ?_
  refine m_get hx hb hts hown hKv hM (fun _ h => List.mem_cons_of_mem _ (List.mem_append_right _ (h))) (by decide) at_X5 rfl 22 (by decide) k1 (v := .ref (ad 9)) rfl dX5_forget_6 ?_
  refine lv_iconst (v := (1 : Int32)) hx hb dX5_forget_9 (by decide) ?_
  obtain ⟨x2, hx2, h⟩ := Option.bind_eq_some_iff.mp h
  refine m_iald hx hb hKv hM (by decide) at_X5_9 0 rfl hx2 dX5_forget_10 ?_
  refine lv_istore_n (lv' := [(1, .int x2), (0, .ref (ad 0))]) hx hb dX5_forget_11 rfl hl (by decide) rfl (fun ls hl => ?_)
  refine lv_aload_n hx hb dX5_forget_12 rfl (lv_at hl 1 rfl) ?_
  refine m_get hx hb hts hown hKv hM (fun _ h => List.mem_cons_of_mem _ (List.mem_append_right _ (h))) (by decide) at_X5 rfl 22 (by decide) k1 (v := .ref (ad 9)) rfl dX5_forget_13 ?_
  refine lv_iconst (v := (1 : Int32)) hx hb dX5_forget_16 (by decide) ?_
  refine lv_iconst (v := (0 : Int32)) hx hb dX5_forget_17 (by decide) ?_
  obtain ⟨M3, hM3, h⟩ := Option.bind_eq_some_iff.mp h
  refine m_iast hx hb hKv hM (by decide) at_X5_9 0 rfl (sta_some hM3).1 (pa_X5_9 (sta_some hM3).2) dX5_forget_18 (fun H locs hM => ?_)
  refine lv_iload_n hx hb dX5_forget_19 rfl (lv_at hl 0 rfl) ?_
  exact m_iret hx hb hr hlocks hM (congrArg (a₁ := (x2, M3)) Prod.fst (Option.some.inj h)) (congrArg (a₁ := (x2, M3)) (fun z => Em ad cI cZ z.2) (Option.some.inj h)) dX5_forget_20
set_option maxHeartbeats 4000000 in
set_option maxRecDepth 100000 in
theorem wX5_so_9 {p : Program} {l : Launch} {e : Env} {s : State} {m : MethodId} {args : Array Value} {below : List Frame} {meth : Method} {c : Code} {D : va_G} {cI cZ : ClassId} {ad : Nat → Nat} {X : State → Prop} (Z : mZ p s m args meth c cX5_so 4 (some .int) wsX5_so RX5 D [(cI, .int), (cZ, .boolean)] X) (hX0 : mX ad 14 X)     {K : Int32 → Mem → Option (Int32 × Mem)} (res : (Int32 × Mem)) (hKc : ∀ (y1 : Int32) (M1 : Mem), K y1 M1 = some res → ∀ (H : Heap) (locs : List Loc) (ls : Array Slot), lv_has ls 4 [(1, .int y1)] → mH D ad 14 (Em ad cI cZ M1) s.heap H locs → W p l e { frames := 4, cells := 0, slots := 0, locals := 95 } s m args below meth c H locs 0 0 (MQ below (mQ D ad 14 (some (.int res.1)) (Em ad cI cZ res.2)) args s 0 0 (mA ad 14)) (F0 m 70 ls [])) :
    ∀ (n : Nat) (v1 : Int32) (v2 : Int32) (M : Mem), fX5_so_9 K n v1 v2 M = some res → ∀ (H : Heap) (locs : List Loc) (ls : Array Slot), lv_has ls 4 [(0, .ref (ad 0)), (1, .int v1), (2, .int v2)] → mH D ad 14 (Em ad cI cZ M) s.heap H locs → W p l e { frames := 4, cells := 0, slots := 0, locals := 95 } s m args below meth c H locs 0 0 (MQ below (mQ D ad 14 (some (.int res.1)) (Em ad cI cZ res.2)) args s 0 0 (mA ad 14)) (F0 m 9 ls []) := by
  obtain ⟨hx, hb, hml, hr, hlocks, hts, hown, hKv, hXs⟩ := id Z
  have hXk := hX0
  have k0 := hts (Cond.fieldLink RX5 34 "NoonWalkerModel" "s" "[I") (List.mem_of_getElem? (i := 2) rfl)
  intro n
  induction n with
  | zero => intro _ _ _ h; exact absurd h (by unfold fX5_so_9; exact fun h => by cases h)
  | succ n ih =>
    intro v1 v2 M h H locs ls hl hM
    rw [fX5_so_9] at h
    refine lv_iload_n hx hb dX5_so_9 rfl (lv_at hl 2 rfl) ?_
    refine lv_aload_n hx hb dX5_so_10 rfl (lv_at hl 0 rfl) ?_
    refine m_get hx hb hts hown hKv hM (fun _ h => List.mem_cons_of_mem _ (List.mem_append_right _ (h))) (by decide) at_X5 rfl 22 (by decide) k0 (v := .ref (ad 9)) rfl dX5_so_11 ?_
    refine lv_iconst (v := (1 : Int32)) hx hb dX5_so_14 (by decide) ?_
    obtain ⟨x1, hx1, h⟩ := Option.bind_eq_some_iff.mp h
    refine m_iald hx hb hKv hM (by decide) at_X5_9 0 rfl hx1 dX5_so_15 ?_
    refine lv_icmp_ge (tgt := 70) hx hb dX5_so_16 (by decide) (fun c2 => ?_) (fun c2 => ?_)
    · replace h := (if_pos c2).symm.trans h
      exact hKc _ _ h _ _ _ (lv_sub hl [1] rfl) hM
    · replace h := (if_neg c2).symm.trans h
      refine lv_iconst (v := (2 : Int32)) hx hb dX5_so_19 (by decide) ?_
      refine lv_iconst (v := (3 : Int32)) hx hb dX5_so_20 (by decide) ?_
      refine lv_iload_n hx hb dX5_so_21 rfl (lv_at hl 2 rfl) ?_
      refine lv_imul hx hb dX5_so_22 ?_
      refine lv_iadd hx hb dX5_so_23 ?_
      refine lv_istore_n (lv' := [(3, .int ((2 : Int32) + ((3 : Int32) * v2))), (0, .ref (ad 0)), (1, .int v1), (2, .int v2)]) hx hb dX5_so_24 rfl hl (by decide) rfl (fun ls hl => ?_)
      refine lv_iload_n hx hb dX5_so_25 rfl (lv_at hl 2 rfl) ?_
      refine lv_aload_n hx hb dX5_so_26 rfl (lv_at hl 1 rfl) ?_
      refine lv_aload_n hx hb dX5_so_27 rfl (lv_at hl 1 rfl) ?_
      refine m_get hx hb hts hown hKv hM (fun _ h => List.mem_cons_of_mem _ (List.mem_append_right _ (h))) (by decide) at_X5 rfl 22 (by decide) k0 (v := .ref (ad 9)) rfl dX5_so_28 ?_
      refine lv_iload_n hx hb dX5_so_31 rfl (lv_at hl 0 rfl) ?_
      obtain ⟨x3, hx3, h⟩ := Option.bind_eq_some_iff.mp h
      refine m_iald hx hb hKv hM (by decide) at_X5_9 0 rfl hx3 dX5_so_32 ?_
      refine lv_aload_n hx hb dX5_so_33 rfl (lv_at hl 1 rfl) ?_
      refine m_get hx hb hts hown hKv hM (fun _ h => List.mem_cons_of_mem _ (List.mem_append_right _ (h))) (by decide) at_X5 rfl 22 (by decide) k0 (v := .ref (ad 9)) rfl dX5_so_34 ?_
      refine lv_iload_n hx hb dX5_so_37 rfl (lv_at hl 0 rfl) ?_
      refine lv_iconst (v := (2 : Int32)) hx hb dX5_so_38 (by decide) ?_
      refine lv_iadd hx hb dX5_so_39 ?_
      obtain ⟨x4, hx4, h⟩ := Option.bind_eq_some_iff.mp h
      refine m_iald hx hb hKv hM (by decide) at_X5_9 0 rfl hx4 dX5_so_40 ?_
      obtain ⟨x5, hx5, h⟩ := Option.bind_eq_some_iff.mp h
      refine m_callV (As := [.int x3, .int x4]) (st1 := [.int x5.1, .int v1]) hx hb (hml.trans hl.1.symm) hown hts hKv hXs hXk hM (kX5_clockIn l D cI cZ ad hX0 x3 x4 M _ hx5) (cwV 2 hts gX5_so_X5_clockIn rfl rfl rfl (by decide +kernel) ⟨Nat.le_of_ble_eq_true rfl, Nat.le_of_ble_eq_true rfl⟩) (by decide) at_X5 rfl rfl rfl rfl (Nat.le_of_ble_eq_true rfl) dX5_so_41 ⟨Nat.zero_le _, Nat.zero_le _⟩ (fun H locs hM => ?_)
      refine lv_aload_n hx hb dX5_so_44 rfl (lv_at hl 1 rfl) ?_
      refine m_get hx hb hts hown hKv hM (fun _ h => List.mem_cons_of_mem _ (List.mem_append_right _ (h))) (by decide) at_X5 rfl 22 (by decide) k0 (v := .ref (ad 9)) rfl dX5_so_45 ?_
      refine lv_iload_n hx hb dX5_so_48 rfl (lv_at hl 0 rfl) ?_
      refine lv_iconst (v := (1 : Int32)) hx hb dX5_so_49 (by decide) ?_
      refine lv_iadd hx hb dX5_so_50 ?_
      obtain ⟨x6, hx6, h⟩ := Option.bind_eq_some_iff.mp h
      refine m_iald hx hb hKv hM (by decide) at_X5_9 0 rfl hx6 dX5_so_51 ?_
      refine lv_icmp_ne (tgt := 61) hx hb dX5_so_52 (by decide) (fun c7 => ?_) (fun c7 => ?_)
      · replace h := (if_neg c7).symm.trans h
        refine lv_iconst (v := (0 : Int32)) hx hb dX5_so_61 (by decide) ?_
        refine lv_ior hx hb dX5_so_62 ?_
        refine lv_istore_n (lv' := [(1, .int (v1 ||| (0 : Int32))), (3, .int ((2 : Int32) + ((3 : Int32) * v2))), (0, .ref (ad 0)), (2, .int v2)]) hx hb dX5_so_63 rfl hl (by decide) rfl (fun ls hl => ?_)
        refine lv_iinc (v := (v2 + 1)) (lv' := [(2, .int (v2 + 1)), (1, .int (v1 ||| (0 : Int32))), (3, .int ((2 : Int32) + ((3 : Int32) * v2))), (0, .ref (ad 0))]) hx hb dX5_so_64 hl (k := 3) rfl rfl (by decide) rfl (fun ls hl => ?_)
        refine lv_goto (tgt := 9) hx hb dX5_so_67 (by decide) ?_
        exact ih _ _ _ h _ _ _ (lv_sub hl [3, 1, 0] rfl) hM
      · replace h := (if_pos c7).symm.trans h
        refine lv_iconst (v := (1 : Int32)) hx hb dX5_so_55 (by decide) ?_
        refine lv_iload_n hx hb dX5_so_56 rfl (lv_at hl 3 rfl) ?_
        refine lv_ishl hx hb dX5_so_57 ?_
        refine lv_goto (tgt := 62) hx hb dX5_so_58 (by decide) ?_
        refine lv_ior hx hb dX5_so_62 ?_
        refine lv_istore_n (lv' := [(1, .int (v1 ||| ((1 : Int32) <<< (v2 &&& 31)))), (3, .int ((2 : Int32) + ((3 : Int32) * v2))), (0, .ref (ad 0)), (2, .int v2)]) hx hb dX5_so_63 rfl hl (by decide) rfl (fun ls hl => ?_)
        refine lv_iinc (v := (v2 + 1)) (lv' := [(2, .int (v2 + 1)), (1, .int (v1 ||| ((1 : Int32) <<< (v2 &&& 31)))), (3, .int ((2 : Int32) + ((3 : Int32) * v2))), (0, .ref (ad 0))]) hx hb dX5_so_64 hl (k := 3) rfl rfl (by decide) rfl (fun ls hl => ?_)
        refine lv_goto (tgt := 9) hx hb dX5_so_67 (by decide) ?_
        exact ih _ _ _ h _ _ _ (lv_sub hl [3, 1, 0] rfl) hM
set_option maxHeartbeats 4000000 in
set_option maxRecDepth 100000 in
theorem kX5_so (l : Launch) (D : va_G) (cI cZ : ClassId) (ad : Nat → Nat) {X : State → Prop} (hX0 : mX ad 14 X)  (M : Mem) (res : (Int32 × Mem)) (h : fX5_so M = some res) : mC l yX5_so wsX5_so { frames := 4, cells := 0, slots := 0, locals := 95 } D [(cI, .int), (cZ, .boolean)] ad 14 X [.ref (ad 0)] (Em ad cI cZ M) (some (.int res.1)) (Em ad cI cZ res.2) := by
  refine m_ofW (cc := cX5_so) (maxL := 4) (ret := (some .int)) (by decide) rfl (Nat.le_of_ble_eq_true rfl) ?_
  intro p e s m args below meth c hx hb hml hr hlocks hts hown hKv hXs ls hl hM
  have hXk := hX0
  have Z : mZ p s m args meth c cX5_so 4 (some .int) wsX5_so RX5 D [(cI, .int), (cZ, .boolean)] X := ⟨hx, hb, hml, hr, hlocks, hts, hown, hKv, hXs⟩
  replace hown : s.vm.findClass RX5 = some m.cls := hown
  have hl : lv_has ls 4 [(0, .ref (ad 0))] := hl
  have k0 := hts (Cond.fieldLink RX5 53 "NoonWalkerModel" "thrown" "I") (List.mem_of_getElem? (i := 1) rfl)
  unfold fX5_so at h
  refine lv_aload_n hx hb dX5_so_0 rfl (lv_at hl 0 rfl) ?_
  refine lv_iconst (v := (0 : Int32)) hx hb dX5_so_1 (by decide) ?_
  obtain ⟨M1, hM1, h⟩ := Option.bind_eq_some_iff.mp h
  refine m_put hx hb hts hown hKv hM (fun _ h => List.mem_cons_of_mem _ (List.mem_append_right _ (h))) tyX5 tyX5_ok nmX5 (by decide) at_X5 rfl 0 (by decide) k0 rfl rfl rfl (Nat.le_of_ble_eq_true rfl) (pt_X5_0 (Option.some.inj hM1)) dX5_so_2 (fun H locs hM => ?_)
  refine lv_iconst (v := (0 : Int32)) hx hb dX5_so_5 (by decide) ?_
  refine lv_istore_n (lv' := [(1, .int (0 : Int32)), (0, .ref (ad 0))]) hx hb dX5_so_6 rfl hl (by decide) rfl (fun ls hl => ?_)
  refine lv_iconst (v := (0 : Int32)) hx hb dX5_so_7 (by decide) ?_
  refine lv_istore_n (lv' := [(2, .int (0 : Int32)), (1, .int (0 : Int32)), (0, .ref (ad 0))]) hx hb dX5_so_8 rfl hl (by decide) rfl (fun ls hl => ?_)
  refine wX5_so_9 Z hX0 _ (fun y2 M3 h H locs ls hl hM => ?_) _ _ _ _ h _ _ _ (lv_sub hl [2, 1, 0] rfl) hM
  refine lv_iload_n hx hb dX5_so_70 rfl (lv_at hl 0 rfl) ?_
  exact m_iret hx hb hr hlocks hM (congrArg (a₁ := (y2, M3)) Prod.fst (Option.some.inj h)) (congrArg (a₁ := (y2, M3)) (fun z => Em ad cI cZ z.2) (Option.some.inj h)) dX5_so_71
set_option maxHeartbeats 4000000 in
set_option maxRecDepth 100000 in
theorem wX5_isSoAt_6 {p : Program} {l : Launch} {e : Env} {s : State} {m : MethodId} {args : Array Value} {below : List Frame} {meth : Method} {c : Code} {D : va_G} {cI cZ : ClassId} {ad : Nat → Nat} {X : State → Prop} (Z : mZ p s m args meth c cX5_isSoAt 9 (some .boolean) wsX5_isSoAt RX5 D [(cI, .int), (cZ, .boolean)] X) (hX0 : mX ad 14 X)   (u1 : Int32) (u2 : Int32) (u3 : Int32) (u4 : Int32) (M : Mem) {K : Int32 → Option Int32} (res : Int32) (hKc : ∀ (y5 : Int32), K y5 = some res → ∀ (H : Heap) (locs : List Loc) (ls : Array Slot), lv_has ls 9 [(5, .int y5)] → mH D ad 14 (Em ad cI cZ M) s.heap H locs → W p l e { frames := 2, cells := 0, slots := 0, locals := 50 } s m args below meth c H locs 0 0 (MQ below (mQ D ad 14 (some (.int res)) (Em ad cI cZ M)) args s 0 0 (mA ad 14)) (F0 m 126 ls [])) :
    ∀ (n : Nat) (v5 : Int32) (v6 : Int32), fX5_isSoAt_6 u1 u2 u3 u4 M K n v5 v6 = some res → ∀ (H : Heap) (locs : List Loc) (ls : Array Slot), lv_has ls 9 [(0, .ref (ad 0)), (1, .int u1), (2, .int u2), (3, .int u3), (4, .int u4), (5, .int v5), (6, .int v6)] → mH D ad 14 (Em ad cI cZ M) s.heap H locs → W p l e { frames := 2, cells := 0, slots := 0, locals := 50 } s m args below meth c H locs 0 0 (MQ below (mQ D ad 14 (some (.int res)) (Em ad cI cZ M)) args s 0 0 (mA ad 14)) (F0 m 6 ls []) := by
  obtain ⟨hx, hb, hml, hr, hlocks, hts, hown, hKv, hXs⟩ := id Z
  have hXk := hX0
  have k0 := hts (Cond.fieldLink RX5 34 "NoonWalkerModel" "s" "[I") (List.mem_of_getElem? (i := 1) rfl)
  have k1 := hts (Cond.fieldLink RX5 16 "NoonWalkerModel" "road" "[I") (List.mem_of_getElem? (i := 2) rfl)
  intro n
  induction n with
  | zero => intro _ _ h; exact absurd h (by unfold fX5_isSoAt_6; exact fun h => by cases h)
  | succ n ih =>
    intro v5 v6 h H locs ls hl hM
    rw [fX5_isSoAt_6] at h
    refine lv_iload hx hb dX5_isSoAt_6 (lv_at hl 6 rfl) ?_
    refine lv_aload_n hx hb dX5_isSoAt_8 rfl (lv_at hl 0 rfl) ?_
    refine m_get hx hb hts hown hKv hM (fun _ h => List.mem_cons_of_mem _ (List.mem_append_right _ (h))) (by decide) at_X5 rfl 22 (by decide) k0 (v := .ref (ad 9)) rfl dX5_isSoAt_9 ?_
    refine lv_iconst (v := (1 : Int32)) hx hb dX5_isSoAt_12 (by decide) ?_
    obtain ⟨x1, hx1, h⟩ := Option.bind_eq_some_iff.mp h
    refine m_iald hx hb hKv hM (by decide) at_X5_9 0 rfl hx1 dX5_isSoAt_13 ?_
    refine lv_icmp_ge (tgt := 126) hx hb dX5_isSoAt_14 (by decide) (fun c2 => ?_) (fun c2 => ?_)
    · replace h := (if_pos c2).symm.trans h
      exact hKc _ h _ _ _ (lv_sub hl [5] rfl) hM
    · replace h := (if_neg c2).symm.trans h
      refine lv_iconst (v := (2 : Int32)) hx hb dX5_isSoAt_17 (by decide) ?_
      refine lv_iconst (v := (3 : Int32)) hx hb dX5_isSoAt_18 (by decide) ?_
      refine lv_iload hx hb dX5_isSoAt_19 (lv_at hl 6 rfl) ?_
      refine lv_imul hx hb dX5_isSoAt_21 ?_
      refine lv_iadd hx hb dX5_isSoAt_22 ?_
      refine lv_istore (lv' := [(7, .int ((2 : Int32) + ((3 : Int32) * v6))), (0, .ref (ad 0)), (1, .int u1), (2, .int u2), (3, .int u3), (4, .int u4), (5, .int v5), (6, .int v6)]) hx hb dX5_isSoAt_23 hl (by decide) rfl (fun ls hl => ?_)
      refine lv_aload_n hx hb dX5_isSoAt_25 rfl (lv_at hl 1 rfl) ?_
      refine m_get hx hb hts hown hKv hM (fun _ h => List.mem_cons_of_mem _ (List.mem_append_right _ (h))) (by decide) at_X5 rfl 22 (by decide) k0 (v := .ref (ad 9)) rfl dX5_isSoAt_26 ?_
      refine lv_iload hx hb dX5_isSoAt_29 (lv_at hl 0 rfl) ?_
      refine lv_iconst (v := (2 : Int32)) hx hb dX5_isSoAt_31 (by decide) ?_
      refine lv_iadd hx hb dX5_isSoAt_32 ?_
      obtain ⟨x3, hx3, h⟩ := Option.bind_eq_some_iff.mp h
      refine m_iald hx hb hKv hM (by decide) at_X5_9 0 rfl hx3 dX5_isSoAt_33 ?_
      refine lv_iload_n hx hb dX5_isSoAt_34 rfl (lv_at hl 2 rfl) ?_
      refine lv_icmp_ne (tgt := 120) hx hb dX5_isSoAt_35 (by decide) (fun c4 => ?_) (fun c4 => ?_)
      · replace h := (if_neg c4).symm.trans h
        refine lv_iinc (v := (v6 + 1)) (lv' := [(6, .int (v6 + 1)), (7, .int ((2 : Int32) + ((3 : Int32) * v6))), (0, .ref (ad 0)), (1, .int u1), (2, .int u2), (3, .int u3), (4, .int u4), (5, .int v5)]) hx hb dX5_isSoAt_120 hl (k := 7) rfl rfl (by decide) rfl (fun ls hl => ?_)
        refine lv_goto (tgt := 6) hx hb dX5_isSoAt_123 (by decide) ?_
        exact ih _ _ h _ _ _ (lv_sub hl [2, 3, 4, 5, 6, 7, 0] rfl) hM
      · replace h := (if_pos c4).symm.trans h
        refine lv_iload_n hx hb dX5_isSoAt_38 rfl (lv_at hl 4 rfl) ?_
        refine lv_if_ge (tgt := 57) hx hb dX5_isSoAt_39 (by decide) (fun c5 => ?_) (fun c5 => ?_)
        · replace h := (if_pos c5).symm.trans h
          refine lv_aload_n hx hb dX5_isSoAt_57 rfl (lv_at hl 1 rfl) ?_
          refine lv_aload_n hx hb dX5_isSoAt_58 rfl (lv_at hl 1 rfl) ?_
          refine m_get hx hb hts hown hKv hM (fun _ h => List.mem_cons_of_mem _ (List.mem_append_right _ (h))) (by decide) at_X5 rfl 22 (by decide) k0 (v := .ref (ad 9)) rfl dX5_isSoAt_59 ?_
          refine lv_iload hx hb dX5_isSoAt_62 (lv_at hl 0 rfl) ?_
          obtain ⟨x6, hx6, h⟩ := Option.bind_eq_some_iff.mp h
          refine m_iald hx hb hKv hM (by decide) at_X5_9 0 rfl hx6 dX5_isSoAt_64 ?_
          refine lv_iload_n hx hb dX5_isSoAt_65 rfl (lv_at hl 4 rfl) ?_
          refine lv_iload hx hb dX5_isSoAt_66 (lv_at hl 5 rfl) ?_
          refine lv_aload_n hx hb dX5_isSoAt_68 rfl (lv_at hl 1 rfl) ?_
          refine m_get hx hb hts hown hKv hM (fun _ h => List.mem_cons_of_mem _ (List.mem_append_right _ (h))) (by decide) at_X5 rfl 10 (by decide) k1 (v := .ref (ad 3)) rfl dX5_isSoAt_69 ?_
          refine lv_iconst (v := (3 : Int32)) hx hb dX5_isSoAt_72 (by decide) ?_
          refine lv_iload_n hx hb dX5_isSoAt_73 rfl (lv_at hl 4 rfl) ?_
          refine lv_imul hx hb dX5_isSoAt_74 ?_
          obtain ⟨x7, hx7, h⟩ := Option.bind_eq_some_iff.mp h
          refine m_iald hx hb hKv hM (by decide) at_X5_3 0 rfl hx7 dX5_isSoAt_75 ?_
          obtain ⟨x8, hx8, h⟩ := Option.bind_eq_some_iff.mp h
          refine m_callV (As := [.int x6, .int u3, .int u4, .int x7]) (st1 := [.int x8]) hx hb (hml.trans hl.1.symm) hown hts hKv hXs hXk hM (kX5_farOn l D cI cZ ad hX0 x6 u3 u4 x7 M _ hx8) (cwV 4 hts gX5_isSoAt_X5_farOn rfl rfl rfl (by decide +kernel) ⟨Nat.le_of_ble_eq_true rfl, Nat.le_of_ble_eq_true rfl⟩) (by decide) at_X5 rfl rfl rfl rfl (Nat.le_of_ble_eq_true rfl) dX5_isSoAt_76 ⟨Nat.zero_le _, Nat.zero_le _⟩ (fun H locs hM => ?_)
          refine lv_istore (lv' := [(8, .int x8), (7, .int ((2 : Int32) + ((3 : Int32) * v6))), (0, .ref (ad 0)), (1, .int u1), (2, .int u2), (3, .int u3), (4, .int u4), (5, .int v5), (6, .int v6)]) hx hb dX5_isSoAt_79 hl (by decide) rfl (fun ls hl => ?_)
          refine lv_iload hx hb dX5_isSoAt_81 (lv_at hl 7 rfl) ?_
          refine lv_if_eq (tgt := 117) hx hb dX5_isSoAt_83 (by decide) (fun c9 => ?_) (fun c9 => ?_)
          · replace h := (if_pos c9).symm.trans h
            refine lv_iconst (v := (0 : Int32)) hx hb dX5_isSoAt_117 (by decide) ?_
            refine lv_istore (lv' := [(5, .int (0 : Int32)), (8, .int x8), (7, .int ((2 : Int32) + ((3 : Int32) * v6))), (0, .ref (ad 0)), (1, .int u1), (2, .int u2), (3, .int u3), (4, .int u4), (6, .int v6)]) hx hb dX5_isSoAt_118 hl (by decide) rfl (fun ls hl => ?_)
            refine lv_iinc (v := (v6 + 1)) (lv' := [(6, .int (v6 + 1)), (5, .int (0 : Int32)), (8, .int x8), (7, .int ((2 : Int32) + ((3 : Int32) * v6))), (0, .ref (ad 0)), (1, .int u1), (2, .int u2), (3, .int u3), (4, .int u4)]) hx hb dX5_isSoAt_120 hl (k := 8) rfl rfl (by decide) rfl (fun ls hl => ?_)
            refine lv_goto (tgt := 6) hx hb dX5_isSoAt_123 (by decide) ?_
            exact ih _ _ h _ _ _ (lv_sub hl [4, 5, 6, 7, 8, 1, 0] rfl) hM
          · replace h := (if_neg c9).symm.trans h
            refine lv_iload hx hb dX5_isSoAt_86 (lv_at hl 0 rfl) ?_
            refine lv_bipush (v := (-9 : Int32)) hx hb dX5_isSoAt_88 (by decide) ?_
            refine lv_icmp_eq (tgt := 117) hx hb dX5_isSoAt_90 (by decide) (fun c10 => ?_) (fun c10 => ?_)
            · replace h := (if_pos c10).symm.trans h
              refine lv_iconst (v := (0 : Int32)) hx hb dX5_isSoAt_117 (by decide) ?_
              refine lv_istore (lv' := [(5, .int (0 : Int32)), (8, .int x8), (7, .int ((2 : Int32) + ((3 : Int32) * v6))), (0, .ref (ad 0)), (1, .int u1), (2, .int u2), (3, .int u3), (4, .int u4), (6, .int v6)]) hx hb dX5_isSoAt_118 hl (by decide) rfl (fun ls hl => ?_)
              refine lv_iinc (v := (v6 + 1)) (lv' := [(6, .int (v6 + 1)), (5, .int (0 : Int32)), (8, .int x8), (7, .int ((2 : Int32) + ((3 : Int32) * v6))), (0, .ref (ad 0)), (1, .int u1), (2, .int u2), (3, .int u3), (4, .int u4)]) hx hb dX5_isSoAt_120 hl (k := 8) rfl rfl (by decide) rfl (fun ls hl => ?_)
              refine lv_goto (tgt := 6) hx hb dX5_isSoAt_123 (by decide) ?_
              exact ih _ _ h _ _ _ (lv_sub hl [4, 5, 6, 7, 8, 1, 0] rfl) hM
            · replace h := (if_neg c10).symm.trans h
              refine lv_bipush (v := (12 : Int32)) hx hb dX5_isSoAt_93 (by decide) ?_
              refine lv_iload hx hb dX5_isSoAt_95 (lv_at hl 0 rfl) ?_
              refine lv_iadd hx hb dX5_isSoAt_97 ?_
              refine lv_bipush (v := (24 : Int32)) hx hb dX5_isSoAt_98 (by decide) ?_
              obtain ⟨x11, hx11, h⟩ := Option.bind_eq_some_iff.mp h
              refine m_irem hx hb hx11 dX5_isSoAt_100 ?_
              refine lv_aload_n hx hb dX5_isSoAt_101 rfl (lv_at hl 2 rfl) ?_
              refine m_get hx hb hts hown hKv hM (fun _ h => List.mem_cons_of_mem _ (List.mem_append_right _ (h))) (by decide) at_X5 rfl 22 (by decide) k0 (v := .ref (ad 9)) rfl dX5_isSoAt_102 ?_
              refine lv_iload hx hb dX5_isSoAt_105 (lv_at hl 1 rfl) ?_
              refine lv_iconst (v := (1 : Int32)) hx hb dX5_isSoAt_107 (by decide) ?_
              refine lv_iadd hx hb dX5_isSoAt_108 ?_
              obtain ⟨x12, hx12, h⟩ := Option.bind_eq_some_iff.mp h
              refine m_iald hx hb hKv hM (by decide) at_X5_9 0 rfl hx12 dX5_isSoAt_109 ?_
              refine lv_icmp_ne (tgt := 117) hx hb dX5_isSoAt_110 (by decide) (fun c13 => ?_) (fun c13 => ?_)
              · replace h := (if_neg c13).symm.trans h
                refine lv_iconst (v := (0 : Int32)) hx hb dX5_isSoAt_117 (by decide) ?_
                refine lv_istore (lv' := [(5, .int (0 : Int32)), (8, .int x8), (7, .int ((2 : Int32) + ((3 : Int32) * v6))), (0, .ref (ad 0)), (1, .int u1), (2, .int u2), (3, .int u3), (4, .int u4), (6, .int v6)]) hx hb dX5_isSoAt_118 hl (by decide) rfl (fun ls hl => ?_)
                refine lv_iinc (v := (v6 + 1)) (lv' := [(6, .int (v6 + 1)), (5, .int (0 : Int32)), (8, .int x8), (7, .int ((2 : Int32) + ((3 : Int32) * v6))), (0, .ref (ad 0)), (1, .int u1), (2, .int u2), (3, .int u3), (4, .int u4)]) hx hb dX5_isSoAt_120 hl (k := 8) rfl rfl (by decide) rfl (fun ls hl => ?_)
                refine lv_goto (tgt := 6) hx hb dX5_isSoAt_123 (by decide) ?_
                exact ih _ _ h _ _ _ (lv_sub hl [4, 5, 6, 7, 8, 1, 0] rfl) hM
              · replace h := (if_pos c13).symm.trans h
                refine lv_iconst (v := (1 : Int32)) hx hb dX5_isSoAt_113 (by decide) ?_
                refine lv_goto (tgt := 118) hx hb dX5_isSoAt_114 (by decide) ?_
                refine lv_istore (lv' := [(5, .int (1 : Int32)), (8, .int x8), (7, .int ((2 : Int32) + ((3 : Int32) * v6))), (0, .ref (ad 0)), (1, .int u1), (2, .int u2), (3, .int u3), (4, .int u4), (6, .int v6)]) hx hb dX5_isSoAt_118 hl (by decide) rfl (fun ls hl => ?_)
                refine lv_iinc (v := (v6 + 1)) (lv' := [(6, .int (v6 + 1)), (5, .int (1 : Int32)), (8, .int x8), (7, .int ((2 : Int32) + ((3 : Int32) * v6))), (0, .ref (ad 0)), (1, .int u1), (2, .int u2), (3, .int u3), (4, .int u4)]) hx hb dX5_isSoAt_120 hl (k := 8) rfl rfl (by decide) rfl (fun ls hl => ?_)
                refine lv_goto (tgt := 6) hx hb dX5_isSoAt_123 (by decide) ?_
                exact ih _ _ h _ _ _ (lv_sub hl [4, 5, 6, 7, 8, 1, 0] rfl) hM
        · replace h := (if_neg c5).symm.trans h
          refine lv_aload_n hx hb dX5_isSoAt_42 rfl (lv_at hl 1 rfl) ?_
          refine lv_aload_n hx hb dX5_isSoAt_43 rfl (lv_at hl 1 rfl) ?_
          refine m_get hx hb hts hown hKv hM (fun _ h => List.mem_cons_of_mem _ (List.mem_append_right _ (h))) (by decide) at_X5 rfl 22 (by decide) k0 (v := .ref (ad 9)) rfl dX5_isSoAt_44 ?_
          refine lv_iload hx hb dX5_isSoAt_47 (lv_at hl 0 rfl) ?_
          obtain ⟨x14, hx14, h⟩ := Option.bind_eq_some_iff.mp h
          refine m_iald hx hb hKv hM (by decide) at_X5_9 0 rfl hx14 dX5_isSoAt_49 ?_
          refine lv_iload_n hx hb dX5_isSoAt_50 rfl (lv_at hl 3 rfl) ?_
          obtain ⟨x15, hx15, h⟩ := Option.bind_eq_some_iff.mp h
          refine m_callV (As := [.int x14, .int u2]) (st1 := [.int x15]) hx hb (hml.trans hl.1.symm) hown hts hKv hXs hXk hM (kX5_farOf l D cI cZ ad hX0 x14 u2 M _ hx15) (cwV 2 hts gX5_isSoAt_X5_farOf rfl rfl rfl (by decide +kernel) ⟨Nat.le_of_ble_eq_true rfl, Nat.le_of_ble_eq_true rfl⟩) (by decide) at_X5 rfl rfl rfl rfl (Nat.le_of_ble_eq_true rfl) dX5_isSoAt_51 ⟨Nat.zero_le _, Nat.zero_le _⟩ (fun H locs hM => ?_)
          refine lv_goto (tgt := 79) hx hb dX5_isSoAt_54 (by decide) ?_
          refine lv_istore (lv' := [(8, .int x15), (7, .int ((2 : Int32) + ((3 : Int32) * v6))), (0, .ref (ad 0)), (1, .int u1), (2, .int u2), (3, .int u3), (4, .int u4), (5, .int v5), (6, .int v6)]) hx hb dX5_isSoAt_79 hl (by decide) rfl (fun ls hl => ?_)
          refine lv_iload hx hb dX5_isSoAt_81 (lv_at hl 7 rfl) ?_
          refine lv_if_eq (tgt := 117) hx hb dX5_isSoAt_83 (by decide) (fun c16 => ?_) (fun c16 => ?_)
          · replace h := (if_pos c16).symm.trans h
            refine lv_iconst (v := (0 : Int32)) hx hb dX5_isSoAt_117 (by decide) ?_
            refine lv_istore (lv' := [(5, .int (0 : Int32)), (8, .int x15), (7, .int ((2 : Int32) + ((3 : Int32) * v6))), (0, .ref (ad 0)), (1, .int u1), (2, .int u2), (3, .int u3), (4, .int u4), (6, .int v6)]) hx hb dX5_isSoAt_118 hl (by decide) rfl (fun ls hl => ?_)
            refine lv_iinc (v := (v6 + 1)) (lv' := [(6, .int (v6 + 1)), (5, .int (0 : Int32)), (8, .int x15), (7, .int ((2 : Int32) + ((3 : Int32) * v6))), (0, .ref (ad 0)), (1, .int u1), (2, .int u2), (3, .int u3), (4, .int u4)]) hx hb dX5_isSoAt_120 hl (k := 8) rfl rfl (by decide) rfl (fun ls hl => ?_)
            refine lv_goto (tgt := 6) hx hb dX5_isSoAt_123 (by decide) ?_
            exact ih _ _ h _ _ _ (lv_sub hl [4, 5, 6, 7, 8, 1, 0] rfl) hM
          · replace h := (if_neg c16).symm.trans h
            refine lv_iload hx hb dX5_isSoAt_86 (lv_at hl 0 rfl) ?_
            refine lv_bipush (v := (-9 : Int32)) hx hb dX5_isSoAt_88 (by decide) ?_
            refine lv_icmp_eq (tgt := 117) hx hb dX5_isSoAt_90 (by decide) (fun c17 => ?_) (fun c17 => ?_)
            · replace h := (if_pos c17).symm.trans h
              refine lv_iconst (v := (0 : Int32)) hx hb dX5_isSoAt_117 (by decide) ?_
              refine lv_istore (lv' := [(5, .int (0 : Int32)), (8, .int x15), (7, .int ((2 : Int32) + ((3 : Int32) * v6))), (0, .ref (ad 0)), (1, .int u1), (2, .int u2), (3, .int u3), (4, .int u4), (6, .int v6)]) hx hb dX5_isSoAt_118 hl (by decide) rfl (fun ls hl => ?_)
              refine lv_iinc (v := (v6 + 1)) (lv' := [(6, .int (v6 + 1)), (5, .int (0 : Int32)), (8, .int x15), (7, .int ((2 : Int32) + ((3 : Int32) * v6))), (0, .ref (ad 0)), (1, .int u1), (2, .int u2), (3, .int u3), (4, .int u4)]) hx hb dX5_isSoAt_120 hl (k := 8) rfl rfl (by decide) rfl (fun ls hl => ?_)
              refine lv_goto (tgt := 6) hx hb dX5_isSoAt_123 (by decide) ?_
              exact ih _ _ h _ _ _ (lv_sub hl [4, 5, 6, 7, 8, 1, 0] rfl) hM
            · replace h := (if_neg c17).symm.trans h
              refine lv_bipush (v := (12 : Int32)) hx hb dX5_isSoAt_93 (by decide) ?_
              refine lv_iload hx hb dX5_isSoAt_95 (lv_at hl 0 rfl) ?_
              refine lv_iadd hx hb dX5_isSoAt_97 ?_
              refine lv_bipush (v := (24 : Int32)) hx hb dX5_isSoAt_98 (by decide) ?_
              obtain ⟨x18, hx18, h⟩ := Option.bind_eq_some_iff.mp h
              refine m_irem hx hb hx18 dX5_isSoAt_100 ?_
              refine lv_aload_n hx hb dX5_isSoAt_101 rfl (lv_at hl 2 rfl) ?_
              refine m_get hx hb hts hown hKv hM (fun _ h => List.mem_cons_of_mem _ (List.mem_append_right _ (h))) (by decide) at_X5 rfl 22 (by decide) k0 (v := .ref (ad 9)) rfl dX5_isSoAt_102 ?_
              refine lv_iload hx hb dX5_isSoAt_105 (lv_at hl 1 rfl) ?_
              refine lv_iconst (v := (1 : Int32)) hx hb dX5_isSoAt_107 (by decide) ?_
              refine lv_iadd hx hb dX5_isSoAt_108 ?_
              obtain ⟨x19, hx19, h⟩ := Option.bind_eq_some_iff.mp h
              refine m_iald hx hb hKv hM (by decide) at_X5_9 0 rfl hx19 dX5_isSoAt_109 ?_
              refine lv_icmp_ne (tgt := 117) hx hb dX5_isSoAt_110 (by decide) (fun c20 => ?_) (fun c20 => ?_)
              · replace h := (if_neg c20).symm.trans h
                refine lv_iconst (v := (0 : Int32)) hx hb dX5_isSoAt_117 (by decide) ?_
                refine lv_istore (lv' := [(5, .int (0 : Int32)), (8, .int x15), (7, .int ((2 : Int32) + ((3 : Int32) * v6))), (0, .ref (ad 0)), (1, .int u1), (2, .int u2), (3, .int u3), (4, .int u4), (6, .int v6)]) hx hb dX5_isSoAt_118 hl (by decide) rfl (fun ls hl => ?_)
                refine lv_iinc (v := (v6 + 1)) (lv' := [(6, .int (v6 + 1)), (5, .int (0 : Int32)), (8, .int x15), (7, .int ((2 : Int32) + ((3 : Int32) * v6))), (0, .ref (ad 0)), (1, .int u1), (2, .int u2), (3, .int u3), (4, .int u4)]) hx hb dX5_isSoAt_120 hl (k := 8) rfl rfl (by decide) rfl (fun ls hl => ?_)
                refine lv_goto (tgt := 6) hx hb dX5_isSoAt_123 (by decide) ?_
                exact ih _ _ h _ _ _ (lv_sub hl [4, 5, 6, 7, 8, 1, 0] rfl) hM
              · replace h := (if_pos c20).symm.trans h
                refine lv_iconst (v := (1 : Int32)) hx hb dX5_isSoAt_113 (by decide) ?_
                refine lv_goto (tgt := 118) hx hb dX5_isSoAt_114 (by decide) ?_
                refine lv_istore (lv' := [(5, .int (1 : Int32)), (8, .int x15), (7, .int ((2 : Int32) + ((3 : Int32) * v6))), (0, .ref (ad 0)), (1, .int u1), (2, .int u2), (3, .int u3), (4, .int u4), (6, .int v6)]) hx hb dX5_isSoAt_118 hl (by decide) rfl (fun ls hl => ?_)
                refine lv_iinc (v := (v6 + 1)) (lv' := [(6, .int (v6 + 1)), (5, .int (1 : Int32)), (8, .int x15), (7, .int ((2 : Int32) + ((3 : Int32) * v6))), (0, .ref (ad 0)), (1, .int u1), (2, .int u2), (3, .int u3), (4, .int u4)]) hx hb dX5_isSoAt_120 hl (k := 8) rfl rfl (by decide) rfl (fun ls hl => ?_)
                refine lv_goto (tgt := 6) hx hb dX5_isSoAt_123 (by decide) ?_
                exact ih _ _ h _ _ _ (lv_sub hl [4, 5, 6, 7, 8, 1, 0] rfl) hM
set_option maxHeartbeats 4000000 in
set_option maxRecDepth 100000 in
theorem kX5_isSoAt (l : Launch) (D : va_G) (cI cZ : ClassId) (ad : Nat → Nat) {X : State → Prop} (hX0 : mX ad 14 X) (a1 : Int32) (a2 : Int32) (a3 : Int32) (a4 : Int32) (M : Mem) (res : Int32) (h : fX5_isSoAt a1 a2 a3 a4 M = some res) : mC l yX5_isSoAt wsX5_isSoAt { frames := 2, cells := 0, slots := 0, locals := 50 } D [(cI, .int), (cZ, .boolean)] ad 14 X [.ref (ad 0), .int a1, .int a2, .int a3, .int a4] (Em ad cI cZ M) (some (.int res)) (Em ad cI cZ M) := by
  refine m_ofW (cc := cX5_isSoAt) (maxL := 9) (ret := (some .boolean)) (by decide) rfl (Nat.le_of_ble_eq_true rfl) ?_
  intro p e s m args below meth c hx hb hml hr hlocks hts hown hKv hXs ls hl hM
  have hXk := hX0
  have Z : mZ p s m args meth c cX5_isSoAt 9 (some .boolean) wsX5_isSoAt RX5 D [(cI, .int), (cZ, .boolean)] X := ⟨hx, hb, hml, hr, hlocks, hts, hown, hKv, hXs⟩
  replace hown : s.vm.findClass RX5 = some m.cls := hown
  have hl : lv_has ls 9 [(0, .ref (ad 0)), (1, .int a1), (2, .int a2), (3, .int a3), (4, .int a4)] := hl
  unfold fX5_isSoAt at h
  refine lv_iconst (v := (1 : Int32)) hx hb dX5_isSoAt_0 (by decide) ?_
  refine lv_istore (lv' := [(5, .int (1 : Int32)), (0, .ref (ad 0)), (1, .int a1), (2, .int a2), (3, .int a3), (4, .int a4)]) hx hb dX5_isSoAt_1 hl (by decide) rfl (fun ls hl => ?_)
  refine lv_iconst (v := (0 : Int32)) hx hb dX5_isSoAt_3 (by decide) ?_
  refine lv_istore (lv' := [(6, .int (0 : Int32)), (5, .int (1 : Int32)), (0, .ref (ad 0)), (1, .int a1), (2, .int a2), (3, .int a3), (4, .int a4)]) hx hb dX5_isSoAt_4 hl (by decide) rfl (fun ls hl => ?_)
  refine wX5_isSoAt_6 Z hX0 a1 a2 a3 a4 M _ (fun y1 h H locs ls hl hM => ?_) _ _ _ h _ _ _ (lv_sub hl [2, 3, 4, 5, 6, 1, 0] rfl) hM
  refine lv_iload hx hb dX5_isSoAt_126 (lv_at hl 0 rfl) ?_
  obtain ⟨z2, hz2, h⟩ := Option.bind_eq_some_iff.mp h
  exact m_zret hx hb hr hlocks hM ((zb_some hz2).1.trans (Option.some.inj h)) (zb_some hz2).2 rfl dX5_isSoAt_128
set_option maxHeartbeats 4000000 in
set_option maxRecDepth 100000 in
theorem wX5_stoodIn_9 {p : Program} {l : Launch} {e : Env} {s : State} {m : MethodId} {args : Array Value} {below : List Frame} {meth : Method} {c : Code} {D : va_G} {cI cZ : ClassId} {ad : Nat → Nat} {X : State → Prop} (Z : mZ p s m args meth c cX5_stoodIn 7 (some .int) wsX5_stoodIn RX5 D [(cI, .int), (cZ, .boolean)] X) (hX0 : mX ad 14 X)   (u1 : Int32) (u2 : Int32) (M : Mem) {K : Int32 → Int32 → Option Int32} (res : Int32) (hKc : ∀ (y3 : Int32) (y4 : Int32), K y3 y4 = some res → ∀ (H : Heap) (locs : List Loc) (ls : Array Slot), lv_has ls 7 [(0, .ref (ad 0)), (1, .int u1), (2, .int u2), (3, .int y3), (4, .int y4)] → mH D ad 14 (Em ad cI cZ M) s.heap H locs → W p l e { frames := 3, cells := 0, slots := 0, locals := 78 } s m args below meth c H locs 0 0 (MQ below (mQ D ad 14 (some (.int res)) (Em ad cI cZ M)) args s 0 0 (mA ad 14)) (F0 m 52 ls [])) :
    ∀ (n : Nat) (v3 : Int32) (v4 : Int32) (v5 : Int32), fX5_stoodIn_9 u1 u2 M K n v3 v4 v5 = some res → ∀ (H : Heap) (locs : List Loc) (ls : Array Slot), lv_has ls 7 [(0, .ref (ad 0)), (1, .int u1), (2, .int u2), (3, .int v3), (4, .int v4), (5, .int v5)] → mH D ad 14 (Em ad cI cZ M) s.heap H locs → W p l e { frames := 3, cells := 0, slots := 0, locals := 78 } s m args below meth c H locs 0 0 (MQ below (mQ D ad 14 (some (.int res)) (Em ad cI cZ M)) args s 0 0 (mA ad 14)) (F0 m 9 ls []) := by
  obtain ⟨hx, hb, hml, hr, hlocks, hts, hown, hKv, hXs⟩ := id Z
  have hXk := hX0
  have k0 := hts (Cond.fieldLink RX5 131 "NoonWalkerModel" "towns" "I") (List.mem_of_getElem? (i := 1) rfl)
  intro n
  induction n with
  | zero => intro _ _ _ h; exact absurd h (by unfold fX5_stoodIn_9; exact fun h => by cases h)
  | succ n ih =>
    intro v3 v4 v5 h H locs ls hl hM
    rw [fX5_stoodIn_9] at h
    refine lv_iload hx hb dX5_stoodIn_9 (lv_at hl 5 rfl) ?_
    refine lv_aload_n hx hb dX5_stoodIn_11 rfl (lv_at hl 0 rfl) ?_
    refine m_get hx hb hts hown hKv hM (fun _ h => List.mem_cons_of_mem _ (List.mem_append_right _ (h))) (by decide) at_X5 rfl 13 (by decide) k0 (v := .int (M.1 0 13)) rfl dX5_stoodIn_12 ?_
    refine lv_icmp_ge (tgt := 52) hx hb dX5_stoodIn_15 (by decide) (fun c1 => ?_) (fun c1 => ?_)
    · replace h := (if_pos c1).symm.trans h
      exact hKc _ _ h _ _ _ (lv_sub hl [0, 1, 2, 3, 4] rfl) hM
    · replace h := (if_neg c1).symm.trans h
      refine lv_aload_n hx hb dX5_stoodIn_18 rfl (lv_at hl 0 rfl) ?_
      refine lv_iload_n hx hb dX5_stoodIn_19 rfl (lv_at hl 1 rfl) ?_
      refine lv_iload hx hb dX5_stoodIn_20 (lv_at hl 5 rfl) ?_
      refine lv_iconst (v := (-1 : Int32)) hx hb dX5_stoodIn_22 (by decide) ?_
      refine lv_iconst (v := (0 : Int32)) hx hb dX5_stoodIn_23 (by decide) ?_
      obtain ⟨x2, hx2, h⟩ := Option.bind_eq_some_iff.mp h
      refine m_callV (As := [.int u1, .int v5, .int (-1 : Int32), .int (0 : Int32)]) (st1 := [.int x2]) hx hb (hml.trans hl.1.symm) hown hts hKv hXs hXk hM (kX5_isSoAt l D cI cZ ad hX0 u1 v5 (-1 : Int32) (0 : Int32) M _ hx2) (cwV 4 hts gX5_stoodIn_X5_isSoAt rfl rfl rfl (by decide +kernel) ⟨Nat.le_of_ble_eq_true rfl, Nat.le_of_ble_eq_true rfl⟩) (by decide) at_X5 rfl rfl rfl rfl (Nat.le_of_ble_eq_true rfl) dX5_stoodIn_24 ⟨Nat.zero_le _, Nat.zero_le _⟩ (fun H locs hM => ?_)
      refine lv_if_eq (tgt := 46) hx hb dX5_stoodIn_27 (by decide) (fun c3 => ?_) (fun c3 => ?_)
      · replace h := (if_pos c3).symm.trans h
        refine lv_iinc (v := (v5 + 1)) (lv' := [(5, .int (v5 + 1)), (0, .ref (ad 0)), (1, .int u1), (2, .int u2), (3, .int v3), (4, .int v4)]) hx hb dX5_stoodIn_46 hl (k := 5) rfl rfl (by decide) rfl (fun ls hl => ?_)
        refine lv_goto (tgt := 9) hx hb dX5_stoodIn_49 (by decide) ?_
        exact ih _ _ _ h _ _ _ (lv_sub hl [1, 2, 3, 4, 5, 0] rfl) hM
      · replace h := (if_neg c3).symm.trans h
        refine lv_iload_n hx hb dX5_stoodIn_30 rfl (lv_at hl 3 rfl) ?_
        refine lv_if_ne (tgt := 39) hx hb dX5_stoodIn_31 (by decide) (fun c4 => ?_) (fun c4 => ?_)
        · replace h := (if_neg c4).symm.trans h
          refine lv_iload hx hb dX5_stoodIn_39 (lv_at hl 4 rfl) ?_
          refine lv_istore (lv' := [(4, .int v4), (0, .ref (ad 0)), (1, .int u1), (2, .int u2), (3, .int v3), (5, .int v5)]) hx hb dX5_stoodIn_41 hl (by decide) rfl (fun ls hl => ?_)
          refine lv_iinc (v := (v3 + 1)) (lv' := [(3, .int (v3 + 1)), (4, .int v4), (0, .ref (ad 0)), (1, .int u1), (2, .int u2), (5, .int v5)]) hx hb dX5_stoodIn_43 hl (k := 4) rfl rfl (by decide) rfl (fun ls hl => ?_)
          refine lv_iinc (v := (v5 + 1)) (lv' := [(5, .int (v5 + 1)), (3, .int (v3 + 1)), (4, .int v4), (0, .ref (ad 0)), (1, .int u1), (2, .int u2)]) hx hb dX5_stoodIn_46 hl (k := 5) rfl rfl (by decide) rfl (fun ls hl => ?_)
          refine lv_goto (tgt := 9) hx hb dX5_stoodIn_49 (by decide) ?_
          exact ih _ _ _ h _ _ _ (lv_sub hl [3, 4, 5, 1, 2, 0] rfl) hM
        · replace h := (if_pos c4).symm.trans h
          refine lv_iload hx hb dX5_stoodIn_34 (lv_at hl 5 rfl) ?_
          refine lv_goto (tgt := 41) hx hb dX5_stoodIn_36 (by decide) ?_
          refine lv_istore (lv' := [(4, .int v5), (0, .ref (ad 0)), (1, .int u1), (2, .int u2), (3, .int v3), (5, .int v5)]) hx hb dX5_stoodIn_41 hl (by decide) rfl (fun ls hl => ?_)
          refine lv_iinc (v := (v3 + 1)) (lv' := [(3, .int (v3 + 1)), (4, .int v5), (0, .ref (ad 0)), (1, .int u1), (2, .int u2), (5, .int v5)]) hx hb dX5_stoodIn_43 hl (k := 4) rfl rfl (by decide) rfl (fun ls hl => ?_)
          refine lv_iinc (v := (v5 + 1)) (lv' := [(5, .int (v5 + 1)), (3, .int (v3 + 1)), (4, .int v5), (0, .ref (ad 0)), (1, .int u1), (2, .int u2)]) hx hb dX5_stoodIn_46 hl (k := 5) rfl rfl (by decide) rfl (fun ls hl => ?_)
          refine lv_goto (tgt := 9) hx hb dX5_stoodIn_49 (by decide) ?_
          exact ih _ _ _ h _ _ _ (lv_sub hl [3, 4, 5, 1, 2, 0] rfl) hM
set_option maxHeartbeats 4000000 in
set_option maxRecDepth 100000 in
theorem wX5_stoodIn_67 {p : Program} {l : Launch} {e : Env} {s : State} {m : MethodId} {args : Array Value} {below : List Frame} {meth : Method} {c : Code} {D : va_G} {cI cZ : ClassId} {ad : Nat → Nat} {X : State → Prop} (Z : mZ p s m args meth c cX5_stoodIn 7 (some .int) wsX5_stoodIn RX5 D [(cI, .int), (cZ, .boolean)] X) (hX0 : mX ad 14 X)   (u1 : Int32) (u2 : Int32) (u5 : Int32) (M : Mem) {K : Int32 → Int32 → Option Int32} (res : Int32) (hKc : ∀ (y3 : Int32) (y4 : Int32), K y3 y4 = some res → ∀ (H : Heap) (locs : List Loc) (ls : Array Slot), lv_has ls 7 [(0, .ref (ad 0)), (1, .int u1), (2, .int u2), (3, .int y3), (4, .int y4), (5, .int u5)] → mH D ad 14 (Em ad cI cZ M) s.heap H locs → W p l e { frames := 3, cells := 0, slots := 0, locals := 78 } s m args below meth c H locs 0 0 (MQ below (mQ D ad 14 (some (.int res)) (Em ad cI cZ M)) args s 0 0 (mA ad 14)) (F0 m 126 ls [])) :
    ∀ (n : Nat) (v3 : Int32) (v4 : Int32) (v6 : Int32), fX5_stoodIn_67 u1 u2 u5 M K n v3 v4 v6 = some res → ∀ (H : Heap) (locs : List Loc) (ls : Array Slot), lv_has ls 7 [(0, .ref (ad 0)), (1, .int u1), (2, .int u2), (3, .int v3), (4, .int v4), (5, .int u5), (6, .int v6)] → mH D ad 14 (Em ad cI cZ M) s.heap H locs → W p l e { frames := 3, cells := 0, slots := 0, locals := 78 } s m args below meth c H locs 0 0 (MQ below (mQ D ad 14 (some (.int res)) (Em ad cI cZ M)) args s 0 0 (mA ad 14)) (F0 m 67 ls []) := by
  obtain ⟨hx, hb, hml, hr, hlocks, hts, hown, hKv, hXs⟩ := id Z
  have hXk := hX0
  have k0 := hts (Cond.fieldLink RX5 16 "NoonWalkerModel" "road" "[I") (List.mem_of_getElem? (i := 3) rfl)
  intro n
  induction n with
  | zero => intro _ _ _ h; exact absurd h (by unfold fX5_stoodIn_67; exact fun h => by cases h)
  | succ n ih =>
    intro v3 v4 v6 h H locs ls hl hM
    rw [fX5_stoodIn_67] at h
    refine lv_iload hx hb dX5_stoodIn_67 (lv_at hl 6 rfl) ?_
    refine lv_aload_n hx hb dX5_stoodIn_69 rfl (lv_at hl 0 rfl) ?_
    refine m_get hx hb hts hown hKv hM (fun _ h => List.mem_cons_of_mem _ (List.mem_append_right _ (h))) (by decide) at_X5 rfl 10 (by decide) k0 (v := .ref (ad 3)) rfl dX5_stoodIn_70 ?_
    refine lv_iconst (v := (3 : Int32)) hx hb dX5_stoodIn_73 (by decide) ?_
    refine lv_iload hx hb dX5_stoodIn_74 (lv_at hl 5 rfl) ?_
    refine lv_imul hx hb dX5_stoodIn_76 ?_
    refine lv_iconst (v := (2 : Int32)) hx hb dX5_stoodIn_77 (by decide) ?_
    refine lv_iadd hx hb dX5_stoodIn_78 ?_
    obtain ⟨x1, hx1, h⟩ := Option.bind_eq_some_iff.mp h
    refine m_iald hx hb hKv hM (by decide) at_X5_3 0 rfl hx1 dX5_stoodIn_79 ?_
    refine lv_icmp_ge (tgt := 126) hx hb dX5_stoodIn_80 (by decide) (fun c2 => ?_) (fun c2 => ?_)
    · replace h := (if_pos c2).symm.trans h
      exact hKc _ _ h _ _ _ (lv_sub hl [0, 1, 2, 3, 4, 5] rfl) hM
    · replace h := (if_neg c2).symm.trans h
      refine lv_aload_n hx hb dX5_stoodIn_83 rfl (lv_at hl 0 rfl) ?_
      refine lv_iload_n hx hb dX5_stoodIn_84 rfl (lv_at hl 1 rfl) ?_
      refine lv_iconst (v := (0 : Int32)) hx hb dX5_stoodIn_85 (by decide) ?_
      refine lv_iload hx hb dX5_stoodIn_86 (lv_at hl 5 rfl) ?_
      refine lv_iload hx hb dX5_stoodIn_88 (lv_at hl 6 rfl) ?_
      obtain ⟨x3, hx3, h⟩ := Option.bind_eq_some_iff.mp h
      refine m_callV (As := [.int u1, .int (0 : Int32), .int u5, .int v6]) (st1 := [.int x3]) hx hb (hml.trans hl.1.symm) hown hts hKv hXs hXk hM (kX5_isSoAt l D cI cZ ad hX0 u1 (0 : Int32) u5 v6 M _ hx3) (cwV 4 hts gX5_stoodIn_X5_isSoAt rfl rfl rfl (by decide +kernel) ⟨Nat.le_of_ble_eq_true rfl, Nat.le_of_ble_eq_true rfl⟩) (by decide) at_X5 rfl rfl rfl rfl (Nat.le_of_ble_eq_true rfl) dX5_stoodIn_90 ⟨Nat.zero_le _, Nat.zero_le _⟩ (fun H locs hM => ?_)
      refine lv_if_eq (tgt := 120) hx hb dX5_stoodIn_93 (by decide) (fun c4 => ?_) (fun c4 => ?_)
      · replace h := (if_pos c4).symm.trans h
        refine lv_iinc (v := (v6 + 1)) (lv' := [(6, .int (v6 + 1)), (0, .ref (ad 0)), (1, .int u1), (2, .int u2), (3, .int v3), (4, .int v4), (5, .int u5)]) hx hb dX5_stoodIn_120 hl (k := 6) rfl rfl (by decide) rfl (fun ls hl => ?_)
        refine lv_goto (tgt := 67) hx hb dX5_stoodIn_123 (by decide) ?_
        exact ih _ _ _ h _ _ _ (lv_sub hl [1, 2, 3, 4, 5, 6, 0] rfl) hM
      · replace h := (if_neg c4).symm.trans h
        refine lv_iload_n hx hb dX5_stoodIn_96 rfl (lv_at hl 3 rfl) ?_
        refine lv_if_ne (tgt := 113) hx hb dX5_stoodIn_97 (by decide) (fun c5 => ?_) (fun c5 => ?_)
        · replace h := (if_neg c5).symm.trans h
          refine lv_iload hx hb dX5_stoodIn_113 (lv_at hl 4 rfl) ?_
          refine lv_istore (lv' := [(4, .int v4), (0, .ref (ad 0)), (1, .int u1), (2, .int u2), (3, .int v3), (5, .int u5), (6, .int v6)]) hx hb dX5_stoodIn_115 hl (by decide) rfl (fun ls hl => ?_)
          refine lv_iinc (v := (v3 + 1)) (lv' := [(3, .int (v3 + 1)), (4, .int v4), (0, .ref (ad 0)), (1, .int u1), (2, .int u2), (5, .int u5), (6, .int v6)]) hx hb dX5_stoodIn_117 hl (k := 4) rfl rfl (by decide) rfl (fun ls hl => ?_)
          refine lv_iinc (v := (v6 + 1)) (lv' := [(6, .int (v6 + 1)), (3, .int (v3 + 1)), (4, .int v4), (0, .ref (ad 0)), (1, .int u1), (2, .int u2), (5, .int u5)]) hx hb dX5_stoodIn_120 hl (k := 6) rfl rfl (by decide) rfl (fun ls hl => ?_)
          refine lv_goto (tgt := 67) hx hb dX5_stoodIn_123 (by decide) ?_
          exact ih _ _ _ h _ _ _ (lv_sub hl [3, 4, 5, 1, 2, 6, 0] rfl) hM
        · replace h := (if_pos c5).symm.trans h
          refine lv_bipush (v := (100 : Int32)) hx hb dX5_stoodIn_100 (by decide) ?_
          refine lv_iload hx hb dX5_stoodIn_102 (lv_at hl 5 rfl) ?_
          refine lv_iconst (v := (1 : Int32)) hx hb dX5_stoodIn_104 (by decide) ?_
          refine lv_iadd hx hb dX5_stoodIn_105 ?_
          refine lv_imul hx hb dX5_stoodIn_106 ?_
          refine lv_iload hx hb dX5_stoodIn_107 (lv_at hl 6 rfl) ?_
          refine lv_iadd hx hb dX5_stoodIn_109 ?_
          refine lv_goto (tgt := 115) hx hb dX5_stoodIn_110 (by decide) ?_
          refine lv_istore (lv' := [(4, .int (((100 : Int32) * (u5 + (1 : Int32))) + v6)), (0, .ref (ad 0)), (1, .int u1), (2, .int u2), (3, .int v3), (5, .int u5), (6, .int v6)]) hx hb dX5_stoodIn_115 hl (by decide) rfl (fun ls hl => ?_)
          refine lv_iinc (v := (v3 + 1)) (lv' := [(3, .int (v3 + 1)), (4, .int (((100 : Int32) * (u5 + (1 : Int32))) + v6)), (0, .ref (ad 0)), (1, .int u1), (2, .int u2), (5, .int u5), (6, .int v6)]) hx hb dX5_stoodIn_117 hl (k := 4) rfl rfl (by decide) rfl (fun ls hl => ?_)
          refine lv_iinc (v := (v6 + 1)) (lv' := [(6, .int (v6 + 1)), (3, .int (v3 + 1)), (4, .int (((100 : Int32) * (u5 + (1 : Int32))) + v6)), (0, .ref (ad 0)), (1, .int u1), (2, .int u2), (5, .int u5)]) hx hb dX5_stoodIn_120 hl (k := 6) rfl rfl (by decide) rfl (fun ls hl => ?_)
          refine lv_goto (tgt := 67) hx hb dX5_stoodIn_123 (by decide) ?_
          exact ih _ _ _ h _ _ _ (lv_sub hl [3, 4, 5, 1, 2, 6, 0] rfl) hM
set_option maxHeartbeats 4000000 in
set_option maxRecDepth 100000 in
theorem wX5_stoodIn_55 {p : Program} {l : Launch} {e : Env} {s : State} {m : MethodId} {args : Array Value} {below : List Frame} {meth : Method} {c : Code} {D : va_G} {cI cZ : ClassId} {ad : Nat → Nat} {X : State → Prop} (Z : mZ p s m args meth c cX5_stoodIn 7 (some .int) wsX5_stoodIn RX5 D [(cI, .int), (cZ, .boolean)] X) (hX0 : mX ad 14 X)   (u1 : Int32) (u2 : Int32) (M : Mem) {K : Int32 → Int32 → Option Int32} (res : Int32) (hKc : ∀ (y3 : Int32) (y4 : Int32), K y3 y4 = some res → ∀ (H : Heap) (locs : List Loc) (ls : Array Slot), lv_has ls 7 [(2, .int u2), (3, .int y3), (4, .int y4)] → mH D ad 14 (Em ad cI cZ M) s.heap H locs → W p l e { frames := 3, cells := 0, slots := 0, locals := 78 } s m args below meth c H locs 0 0 (MQ below (mQ D ad 14 (some (.int res)) (Em ad cI cZ M)) args s 0 0 (mA ad 14)) (F0 m 132 ls [])) :
    ∀ (n : Nat) (v3 : Int32) (v4 : Int32) (v5 : Int32), fX5_stoodIn_55 u1 u2 M K n v3 v4 v5 = some res → ∀ (H : Heap) (locs : List Loc) (ls : Array Slot), lv_has ls 7 [(0, .ref (ad 0)), (1, .int u1), (2, .int u2), (3, .int v3), (4, .int v4), (5, .int v5)] → mH D ad 14 (Em ad cI cZ M) s.heap H locs → W p l e { frames := 3, cells := 0, slots := 0, locals := 78 } s m args below meth c H locs 0 0 (MQ below (mQ D ad 14 (some (.int res)) (Em ad cI cZ M)) args s 0 0 (mA ad 14)) (F0 m 55 ls []) := by
  obtain ⟨hx, hb, hml, hr, hlocks, hts, hown, hKv, hXs⟩ := id Z
  have hXk := hX0
  have k0 := hts (Cond.fieldLink RX5 134 "NoonWalkerModel" "roads" "I") (List.mem_of_getElem? (i := 2) rfl)
  intro n
  induction n with
  | zero => intro _ _ _ h; exact absurd h (by unfold fX5_stoodIn_55; exact fun h => by cases h)
  | succ n ih =>
    intro v3 v4 v5 h H locs ls hl hM
    rw [fX5_stoodIn_55] at h
    refine lv_iload hx hb dX5_stoodIn_55 (lv_at hl 5 rfl) ?_
    refine lv_aload_n hx hb dX5_stoodIn_57 rfl (lv_at hl 0 rfl) ?_
    refine m_get hx hb hts hown hKv hM (fun _ h => List.mem_cons_of_mem _ (List.mem_append_right _ (h))) (by decide) at_X5 rfl 14 (by decide) k0 (v := .int (M.1 0 14)) rfl dX5_stoodIn_58 ?_
    refine lv_icmp_ge (tgt := 132) hx hb dX5_stoodIn_61 (by decide) (fun c1 => ?_) (fun c1 => ?_)
    · replace h := (if_pos c1).symm.trans h
      exact hKc _ _ h _ _ _ (lv_sub hl [2, 3, 4] rfl) hM
    · replace h := (if_neg c1).symm.trans h
      refine lv_iconst (v := (1 : Int32)) hx hb dX5_stoodIn_64 (by decide) ?_
      refine lv_istore (lv' := [(6, .int (1 : Int32)), (0, .ref (ad 0)), (1, .int u1), (2, .int u2), (3, .int v3), (4, .int v4), (5, .int v5)]) hx hb dX5_stoodIn_65 hl (by decide) rfl (fun ls hl => ?_)
      refine wX5_stoodIn_67 Z hX0 u1 u2 v5 M _ (fun y2 y3 h H locs ls hl hM => ?_) _ _ _ _ h _ _ _ (lv_sub hl [1, 2, 3, 4, 5, 6, 0] rfl) hM
      refine lv_iinc (v := (v5 + 1)) (lv' := [(5, .int (v5 + 1)), (0, .ref (ad 0)), (1, .int u1), (2, .int u2), (3, .int y2), (4, .int y3)]) hx hb dX5_stoodIn_126 hl (k := 5) rfl rfl (by decide) rfl (fun ls hl => ?_)
      refine lv_goto (tgt := 55) hx hb dX5_stoodIn_129 (by decide) ?_
      exact ih _ _ _ h _ _ _ (lv_sub hl [1, 2, 3, 4, 5, 0] rfl) hM
set_option maxHeartbeats 4000000 in
set_option maxRecDepth 100000 in
theorem kX5_stoodIn (l : Launch) (D : va_G) (cI cZ : ClassId) (ad : Nat → Nat) {X : State → Prop} (hX0 : mX ad 14 X) (a1 : Int32) (a2 : Int32) (M : Mem) (res : Int32) (h : fX5_stoodIn a1 a2 M = some res) : mC l yX5_stoodIn wsX5_stoodIn { frames := 3, cells := 0, slots := 0, locals := 78 } D [(cI, .int), (cZ, .boolean)] ad 14 X [.ref (ad 0), .int a1, .int a2] (Em ad cI cZ M) (some (.int res)) (Em ad cI cZ M) := by
  refine m_ofW (cc := cX5_stoodIn) (maxL := 7) (ret := (some .int)) (by decide) rfl (Nat.le_of_ble_eq_true rfl) ?_
  intro p e s m args below meth c hx hb hml hr hlocks hts hown hKv hXs ls hl hM
  have hXk := hX0
  have Z : mZ p s m args meth c cX5_stoodIn 7 (some .int) wsX5_stoodIn RX5 D [(cI, .int), (cZ, .boolean)] X := ⟨hx, hb, hml, hr, hlocks, hts, hown, hKv, hXs⟩
  replace hown : s.vm.findClass RX5 = some m.cls := hown
  have hl : lv_has ls 7 [(0, .ref (ad 0)), (1, .int a1), (2, .int a2)] := hl
  unfold fX5_stoodIn at h
  refine lv_iconst (v := (0 : Int32)) hx hb dX5_stoodIn_0 (by decide) ?_
  refine lv_istore_n (lv' := [(3, .int (0 : Int32)), (0, .ref (ad 0)), (1, .int a1), (2, .int a2)]) hx hb dX5_stoodIn_1 rfl hl (by decide) rfl (fun ls hl => ?_)
  refine lv_bipush (v := (-9 : Int32)) hx hb dX5_stoodIn_2 (by decide) ?_
  refine lv_istore (lv' := [(4, .int (-9 : Int32)), (3, .int (0 : Int32)), (0, .ref (ad 0)), (1, .int a1), (2, .int a2)]) hx hb dX5_stoodIn_4 hl (by decide) rfl (fun ls hl => ?_)
  refine lv_iconst (v := (0 : Int32)) hx hb dX5_stoodIn_6 (by decide) ?_
  refine lv_istore (lv' := [(5, .int (0 : Int32)), (4, .int (-9 : Int32)), (3, .int (0 : Int32)), (0, .ref (ad 0)), (1, .int a1), (2, .int a2)]) hx hb dX5_stoodIn_7 hl (by decide) rfl (fun ls hl => ?_)
  refine wX5_stoodIn_9 Z hX0 a1 a2 M _ (fun y1 y2 h H locs ls hl hM => ?_) _ _ _ _ h _ _ _ (lv_sub hl [3, 4, 5, 2, 1, 0] rfl) hM
  refine lv_iconst (v := (0 : Int32)) hx hb dX5_stoodIn_52 (by decide) ?_
  refine lv_istore (lv' := [(5, .int (0 : Int32)), (0, .ref (ad 0)), (1, .int a1), (2, .int a2), (3, .int y1), (4, .int y2)]) hx hb dX5_stoodIn_53 hl (by decide) rfl (fun ls hl => ?_)
  refine wX5_stoodIn_55 Z hX0 a1 a2 M _ (fun y3 y4 h H locs ls hl hM => ?_) _ _ _ _ h _ _ _ (lv_sub hl [1, 2, 3, 4, 5, 0] rfl) hM
  refine lv_iload_n hx hb dX5_stoodIn_132 rfl (lv_at hl 0 rfl) ?_
  refine lv_if_eq (tgt := 141) hx hb dX5_stoodIn_133 (by decide) (fun c5 => ?_) (fun c5 => ?_)
  · replace h := (if_pos c5).symm.trans h
    refine lv_iload_n hx hb dX5_stoodIn_141 rfl (lv_at hl 1 rfl) ?_
    exact m_iret hx hb hr hlocks hM (Option.some.inj h) rfl dX5_stoodIn_142
  · replace h := (if_neg c5).symm.trans h
    refine lv_iload hx hb dX5_stoodIn_136 (lv_at hl 2 rfl) ?_
    refine lv_goto (tgt := 142) hx hb dX5_stoodIn_138 (by decide) ?_
    exact m_iret hx hb hr hlocks hM (Option.some.inj h) rfl dX5_stoodIn_142
set_option maxHeartbeats 4000000 in
set_option maxRecDepth 100000 in
theorem kX5_stood (l : Launch) (D : va_G) (cI cZ : ClassId) (ad : Nat → Nat) {X : State → Prop} (hX0 : mX ad 14 X) (a1 : Int32) (a2 : Int32) (M : Mem) (res : (Int32 × Mem)) (h : fX5_stood a1 a2 M = some res) : mC l yX5_stood wsX5_stood { frames := 4, cells := 0, slots := 0, locals := 104 } D [(cI, .int), (cZ, .boolean)] ad 14 X [.ref (ad 0), .int a1, .int a2] (Em ad cI cZ M) (some (.int res.1)) (Em ad cI cZ res.2) := by
  refine m_ofW (cc := cX5_stood) (maxL := 3) (ret := (some .int)) (by decide) rfl (Nat.le_of_ble_eq_true rfl) ?_
  intro p e s m args below meth c hx hb hml hr hlocks hts hown hKv hXs ls hl hM
  have hXk := hX0
  have Z : mZ p s m args meth c cX5_stood 3 (some .int) wsX5_stood RX5 D [(cI, .int), (cZ, .boolean)] X := ⟨hx, hb, hml, hr, hlocks, hts, hown, hKv, hXs⟩
  replace hown : s.vm.findClass RX5 = some m.cls := hown
  have hl : lv_has ls 3 [(0, .ref (ad 0)), (1, .int a1), (2, .int a2)] := hl
  have k0 := hts (Cond.fieldLink RX5 53 "NoonWalkerModel" "thrown" "I") (List.mem_of_getElem? (i := 1) rfl)
  unfold fX5_stood at h
  refine lv_aload_n hx hb dX5_stood_0 rfl (lv_at hl 0 rfl) ?_
  refine lv_iconst (v := (0 : Int32)) hx hb dX5_stood_1 (by decide) ?_
  obtain ⟨M1, hM1, h⟩ := Option.bind_eq_some_iff.mp h
  refine m_put hx hb hts hown hKv hM (fun _ h => List.mem_cons_of_mem _ (List.mem_append_right _ (h))) tyX5 tyX5_ok nmX5 (by decide) at_X5 rfl 0 (by decide) k0 rfl rfl rfl (Nat.le_of_ble_eq_true rfl) (pt_X5_0 (Option.some.inj hM1)) dX5_stood_2 (fun H locs hM => ?_)
  refine lv_iload_n hx hb dX5_stood_5 rfl (lv_at hl 1 rfl) ?_
  obtain ⟨x2, hx2, h⟩ := Option.bind_eq_some_iff.mp h
  refine m_callS (As := [.int a1]) (st1 := [.int x2]) hx hb (hml.trans hl.1.symm) hown hts hKv hXs hXk hM (kX5_isHour l D cI cZ ad hX0 a1 M1 _ hx2) (va_cwS 1 hts gX5_stood_X5_isHour rfl rfl rfl (by decide +kernel) ⟨Nat.le_of_ble_eq_true rfl, Nat.le_of_ble_eq_true rfl⟩) rfl rfl rfl (Nat.le_of_ble_eq_true rfl) dX5_stood_6 ⟨Nat.zero_le _, Nat.zero_le _⟩ (fun H locs hM => ?_)
  refine lv_if_eq (tgt := 39) hx hb dX5_stood_9 (by decide) (fun c3 => ?_) (fun c3 => ?_)
  · replace h := (if_pos c3).symm.trans h
    refine lv_iconst (v := (-1 : Int32)) hx hb dX5_stood_39 (by decide) ?_
    exact m_iret hx hb hr hlocks hM (congrArg (a₁ := ((-1 : Int32), M1)) Prod.fst (Option.some.inj h)) (congrArg (a₁ := ((-1 : Int32), M1)) (fun z => Em ad cI cZ z.2) (Option.some.inj h)) dX5_stood_40
  · replace h := (if_neg c3).symm.trans h
    refine lv_iload_n hx hb dX5_stood_12 rfl (lv_at hl 2 rfl) ?_
    refine lv_iconst (v := (0 : Int32)) hx hb dX5_stood_13 (by decide) ?_
    refine lv_iconst (v := (1 : Int32)) hx hb dX5_stood_14 (by decide) ?_
    obtain ⟨x4, hx4, h⟩ := Option.bind_eq_some_iff.mp h
    refine m_callS (As := [.int a2, .int (0 : Int32), .int (1 : Int32)]) (st1 := [.int x4]) hx hb (hml.trans hl.1.symm) hown hts hKv hXs hXk hM (kX5_in l D cI cZ ad hX0 a2 (0 : Int32) (1 : Int32) M1 _ hx4) (va_cwS 3 hts gX5_stood_X5_in rfl rfl rfl (by decide +kernel) ⟨Nat.le_of_ble_eq_true rfl, Nat.le_of_ble_eq_true rfl⟩) rfl rfl rfl (Nat.le_of_ble_eq_true rfl) dX5_stood_15 ⟨Nat.zero_le _, Nat.zero_le _⟩ (fun H locs hM => ?_)
    refine lv_if_eq (tgt := 39) hx hb dX5_stood_18 (by decide) (fun c5 => ?_) (fun c5 => ?_)
    · replace h := (if_pos c5).symm.trans h
      refine lv_iconst (v := (-1 : Int32)) hx hb dX5_stood_39 (by decide) ?_
      exact m_iret hx hb hr hlocks hM (congrArg (a₁ := ((-1 : Int32), M1)) Prod.fst (Option.some.inj h)) (congrArg (a₁ := ((-1 : Int32), M1)) (fun z => Em ad cI cZ z.2) (Option.some.inj h)) dX5_stood_40
    · replace h := (if_neg c5).symm.trans h
      refine lv_aload_n hx hb dX5_stood_21 rfl (lv_at hl 0 rfl) ?_
      refine lv_iload_n hx hb dX5_stood_22 rfl (lv_at hl 1 rfl) ?_
      refine lv_iload_n hx hb dX5_stood_23 rfl (lv_at hl 2 rfl) ?_
      refine lv_iconst (v := (1 : Int32)) hx hb dX5_stood_24 (by decide) ?_
      refine lv_icmp_ne (tgt := 32) hx hb dX5_stood_25 (by decide) (fun c6 => ?_) (fun c6 => ?_)
      · replace h := (if_neg c6).symm.trans h
        refine lv_iconst (v := (0 : Int32)) hx hb dX5_stood_32 (by decide) ?_
        obtain ⟨x7, hx7, h⟩ := Option.bind_eq_some_iff.mp h
        refine m_callV (As := [.int a1, .int (0 : Int32)]) (st1 := [.int x7]) hx hb (hml.trans hl.1.symm) hown hts hKv hXs hXk hM (kX5_stoodIn l D cI cZ ad hX0 a1 (0 : Int32) M1 _ hx7) (cwV 2 hts gX5_stood_X5_stoodIn rfl rfl rfl (by decide +kernel) ⟨Nat.le_of_ble_eq_true rfl, Nat.le_of_ble_eq_true rfl⟩) (by decide) at_X5 rfl rfl rfl rfl (Nat.le_of_ble_eq_true rfl) dX5_stood_33 ⟨Nat.zero_le _, Nat.zero_le _⟩ (fun H locs hM => ?_)
        refine lv_goto (tgt := 40) hx hb dX5_stood_36 (by decide) ?_
        exact m_iret hx hb hr hlocks hM (congrArg (a₁ := (x7, M1)) Prod.fst (Option.some.inj h)) (congrArg (a₁ := (x7, M1)) (fun z => Em ad cI cZ z.2) (Option.some.inj h)) dX5_stood_40
      · replace h := (if_pos c6).symm.trans h
        refine lv_iconst (v := (1 : Int32)) hx hb dX5_stood_28 (by decide) ?_
        refine lv_goto (tgt := 33) hx hb dX5_stood_29 (by decide) ?_
        obtain ⟨x8, hx8, h⟩ := Option.bind_eq_some_iff.mp h
        refine m_callV (As := [.int a1, .int (1 : Int32)]) (st1 := [.int x8]) hx hb (hml.trans hl.1.symm) hown hts hKv hXs hXk hM (kX5_stoodIn l D cI cZ ad hX0 a1 (1 : Int32) M1 _ hx8) (cwV 2 hts gX5_stood_X5_stoodIn rfl rfl rfl (by decide +kernel) ⟨Nat.le_of_ble_eq_true rfl, Nat.le_of_ble_eq_true rfl⟩) (by decide) at_X5 rfl rfl rfl rfl (Nat.le_of_ble_eq_true rfl) dX5_stood_33 ⟨Nat.zero_le _, Nat.zero_le _⟩ (fun H locs hM => ?_)
        refine lv_goto (tgt := 40) hx hb dX5_stood_36 (by decide) ?_
        exact m_iret hx hb hr hlocks hM (congrArg (a₁ := (x8, M1)) Prod.fst (Option.some.inj h)) (congrArg (a₁ := (x8, M1)) (fun z => Em ad cI cZ z.2) (Option.some.inj h)) dX5_stood_40
set_option maxHeartbeats 4000000 in
set_option maxRecDepth 100000 in
theorem wX5_two_9 {p : Program} {l : Launch} {e : Env} {s : State} {m : MethodId} {args : Array Value} {below : List Frame} {meth : Method} {c : Code} {D : va_G} {cI cZ : ClassId} {ad : Nat → Nat} {X : State → Prop} (Z : mZ p s m args meth c cX5_two 3 (some .int) wsX5_two RX5 D [(cI, .int), (cZ, .boolean)] X) (hX0 : mX ad 14 X)    (M : Mem) {K : Int32 → Option (Int32 × Mem)} (res : (Int32 × Mem)) (hKc : ∀ (y1 : Int32), K y1 = some res → ∀ (H : Heap) (locs : List Loc) (ls : Array Slot), lv_has ls 3 [(1, .int y1)] → mH D ad 14 (Em ad cI cZ M) s.heap H locs → W p l e { frames := 4, cells := 0, slots := 0, locals := 104 } s m args below meth c H locs 0 0 (MQ below (mQ D ad 14 (some (.int res.1)) (Em ad cI cZ res.2)) args s 0 0 (mA ad 14)) (F0 m 51 ls [])) :
    ∀ (n : Nat) (v1 : Int32) (v2 : Int32), fX5_two_9 M K n v1 v2 = some res → ∀ (H : Heap) (locs : List Loc) (ls : Array Slot), lv_has ls 3 [(0, .ref (ad 0)), (1, .int v1), (2, .int v2)] → mH D ad 14 (Em ad cI cZ M) s.heap H locs → W p l e { frames := 4, cells := 0, slots := 0, locals := 104 } s m args below meth c H locs 0 0 (MQ below (mQ D ad 14 (some (.int res.1)) (Em ad cI cZ res.2)) args s 0 0 (mA ad 14)) (F0 m 9 ls []) := by
  obtain ⟨hx, hb, hml, hr, hlocks, hts, hown, hKv, hXs⟩ := id Z
  have hXk := hX0
  have k0 := hts (Cond.fieldLink RX5 34 "NoonWalkerModel" "s" "[I") (List.mem_of_getElem? (i := 2) rfl)
  intro n
  induction n with
  | zero => intro _ _ h; exact absurd h (by unfold fX5_two_9; exact fun h => by cases h)
  | succ n ih =>
    intro v1 v2 h H locs ls hl hM
    rw [fX5_two_9] at h
    refine lv_iload_n hx hb dX5_two_9 rfl (lv_at hl 2 rfl) ?_
    refine lv_aload_n hx hb dX5_two_10 rfl (lv_at hl 0 rfl) ?_
    refine m_get hx hb hts hown hKv hM (fun _ h => List.mem_cons_of_mem _ (List.mem_append_right _ (h))) (by decide) at_X5 rfl 22 (by decide) k0 (v := .ref (ad 9)) rfl dX5_two_11 ?_
    refine lv_iconst (v := (1 : Int32)) hx hb dX5_two_14 (by decide) ?_
    obtain ⟨x1, hx1, h⟩ := Option.bind_eq_some_iff.mp h
    refine m_iald hx hb hKv hM (by decide) at_X5_9 0 rfl hx1 dX5_two_15 ?_
    refine lv_icmp_ge (tgt := 51) hx hb dX5_two_16 (by decide) (fun c2 => ?_) (fun c2 => ?_)
    · replace h := (if_pos c2).symm.trans h
      exact hKc _ h _ _ _ (lv_sub hl [1] rfl) hM
    · replace h := (if_neg c2).symm.trans h
      refine lv_aload_n hx hb dX5_two_19 rfl (lv_at hl 0 rfl) ?_
      refine lv_aload_n hx hb dX5_two_20 rfl (lv_at hl 0 rfl) ?_
      refine m_get hx hb hts hown hKv hM (fun _ h => List.mem_cons_of_mem _ (List.mem_append_right _ (h))) (by decide) at_X5 rfl 22 (by decide) k0 (v := .ref (ad 9)) rfl dX5_two_21 ?_
      refine lv_iconst (v := (2 : Int32)) hx hb dX5_two_24 (by decide) ?_
      refine lv_iconst (v := (3 : Int32)) hx hb dX5_two_25 (by decide) ?_
      refine lv_iload_n hx hb dX5_two_26 rfl (lv_at hl 2 rfl) ?_
      refine lv_imul hx hb dX5_two_27 ?_
      refine lv_iadd hx hb dX5_two_28 ?_
      refine lv_iconst (v := (2 : Int32)) hx hb dX5_two_29 (by decide) ?_
      refine lv_iadd hx hb dX5_two_30 ?_
      obtain ⟨x3, hx3, h⟩ := Option.bind_eq_some_iff.mp h
      refine m_iald hx hb hKv hM (by decide) at_X5_9 0 rfl hx3 dX5_two_31 ?_
      refine lv_iconst (v := (0 : Int32)) hx hb dX5_two_32 (by decide) ?_
      obtain ⟨x4, hx4, h⟩ := Option.bind_eq_some_iff.mp h
      refine m_callV (As := [.int x3, .int (0 : Int32)]) (st1 := [.int x4]) hx hb (hml.trans hl.1.symm) hown hts hKv hXs hXk hM (kX5_stoodIn l D cI cZ ad hX0 x3 (0 : Int32) M _ hx4) (cwV 2 hts gX5_two_X5_stoodIn rfl rfl rfl (by decide +kernel) ⟨Nat.le_of_ble_eq_true rfl, Nat.le_of_ble_eq_true rfl⟩) (by decide) at_X5 rfl rfl rfl rfl (Nat.le_of_ble_eq_true rfl) dX5_two_33 ⟨Nat.zero_le _, Nat.zero_le _⟩ (fun H locs hM => ?_)
      refine lv_if_ne (tgt := 43) hx hb dX5_two_36 (by decide) (fun c5 => ?_) (fun c5 => ?_)
      · replace h := (if_neg c5).symm.trans h
        refine lv_iload_n hx hb dX5_two_43 rfl (lv_at hl 1 rfl) ?_
        refine lv_istore_n (lv' := [(1, .int v1), (0, .ref (ad 0)), (2, .int v2)]) hx hb dX5_two_44 rfl hl (by decide) rfl (fun ls hl => ?_)
        refine lv_iinc (v := (v2 + 1)) (lv' := [(2, .int (v2 + 1)), (1, .int v1), (0, .ref (ad 0))]) hx hb dX5_two_45 hl (k := 2) rfl rfl (by decide) rfl (fun ls hl => ?_)
        refine lv_goto (tgt := 9) hx hb dX5_two_48 (by decide) ?_
        exact ih _ _ h _ _ _ (lv_sub hl [2, 1, 0] rfl) hM
      · replace h := (if_pos c5).symm.trans h
        refine lv_iconst (v := (1 : Int32)) hx hb dX5_two_39 (by decide) ?_
        refine lv_goto (tgt := 44) hx hb dX5_two_40 (by decide) ?_
        refine lv_istore_n (lv' := [(1, .int (1 : Int32)), (0, .ref (ad 0)), (2, .int v2)]) hx hb dX5_two_44 rfl hl (by decide) rfl (fun ls hl => ?_)
        refine lv_iinc (v := (v2 + 1)) (lv' := [(2, .int (v2 + 1)), (1, .int (1 : Int32)), (0, .ref (ad 0))]) hx hb dX5_two_45 hl (k := 2) rfl rfl (by decide) rfl (fun ls hl => ?_)
        refine lv_goto (tgt := 9) hx hb dX5_two_48 (by decide) ?_
        exact ih _ _ h _ _ _ (lv_sub hl [2, 1, 0] rfl) hM
set_option maxHeartbeats 4000000 in
set_option maxRecDepth 100000 in
theorem kX5_two (l : Launch) (D : va_G) (cI cZ : ClassId) (ad : Nat → Nat) {X : State → Prop} (hX0 : mX ad 14 X)  (M : Mem) (res : (Int32 × Mem)) (h : fX5_two M = some res) : mC l yX5_two wsX5_two { frames := 4, cells := 0, slots := 0, locals := 104 } D [(cI, .int), (cZ, .boolean)] ad 14 X [.ref (ad 0)] (Em ad cI cZ M) (some (.int res.1)) (Em ad cI cZ res.2) := by
  refine m_ofW (cc := cX5_two) (maxL := 3) (ret := (some .int)) (by decide) rfl (Nat.le_of_ble_eq_true rfl) ?_
  intro p e s m args below meth c hx hb hml hr hlocks hts hown hKv hXs ls hl hM
  have hXk := hX0
  have Z : mZ p s m args meth c cX5_two 3 (some .int) wsX5_two RX5 D [(cI, .int), (cZ, .boolean)] X := ⟨hx, hb, hml, hr, hlocks, hts, hown, hKv, hXs⟩
  replace hown : s.vm.findClass RX5 = some m.cls := hown
  have hl : lv_has ls 3 [(0, .ref (ad 0))] := hl
  have k0 := hts (Cond.fieldLink RX5 53 "NoonWalkerModel" "thrown" "I") (List.mem_of_getElem? (i := 1) rfl)
  unfold fX5_two at h
  refine lv_aload_n hx hb dX5_two_0 rfl (lv_at hl 0 rfl) ?_
  refine lv_iconst (v := (0 : Int32)) hx hb dX5_two_1 (by decide) ?_
  obtain ⟨M1, hM1, h⟩ := Option.bind_eq_some_iff.mp h
  refine m_put hx hb hts hown hKv hM (fun _ h => List.mem_cons_of_mem _ (List.mem_append_right _ (h))) tyX5 tyX5_ok nmX5 (by decide) at_X5 rfl 0 (by decide) k0 rfl rfl rfl (Nat.le_of_ble_eq_true rfl) (pt_X5_0 (Option.some.inj hM1)) dX5_two_2 (fun H locs hM => ?_)
  refine lv_iconst (v := (0 : Int32)) hx hb dX5_two_5 (by decide) ?_
  refine lv_istore_n (lv' := [(1, .int (0 : Int32)), (0, .ref (ad 0))]) hx hb dX5_two_6 rfl hl (by decide) rfl (fun ls hl => ?_)
  refine lv_iconst (v := (0 : Int32)) hx hb dX5_two_7 (by decide) ?_
  refine lv_istore_n (lv' := [(2, .int (0 : Int32)), (1, .int (0 : Int32)), (0, .ref (ad 0))]) hx hb dX5_two_8 rfl hl (by decide) rfl (fun ls hl => ?_)
  refine wX5_two_9 Z hX0 M1 _ (fun y2 h H locs ls hl hM => ?_) _ _ _ h _ _ _ (lv_sub hl [2, 1, 0] rfl) hM
  refine lv_iload_n hx hb dX5_two_51 rfl (lv_at hl 0 rfl) ?_
  exact m_iret hx hb hr hlocks hM (congrArg (a₁ := (y2, M1)) Prod.fst (Option.some.inj h)) (congrArg (a₁ := (y2, M1)) (fun z => Em ad cI cZ z.2) (Option.some.inj h)) dX5_two_52
set_option maxHeartbeats 4000000 in
set_option maxRecDepth 100000 in
theorem kX5_go (l : Launch) (D : va_G) (cI cZ : ClassId) (ad : Nat → Nat) {X : State → Prop} (hX0 : mX ad 14 X) (a1 : Int32) (M : Mem) (res : (Int32 × Mem)) (h : fX5_go a1 M = some res) : mC l yX5_go wsX5_go { frames := 1, cells := 0, slots := 0, locals := 22 } D [(cI, .int), (cZ, .boolean)] ad 14 X [.ref (ad 0), .int a1] (Em ad cI cZ M) (some (.int res.1)) (Em ad cI cZ res.2) := by
  refine m_ofW (cc := cX5_go) (maxL := 2) (ret := (some .int)) (by decide) rfl (Nat.le_of_ble_eq_true rfl) ?_
  intro p e s m args below meth c hx hb hml hr hlocks hts hown hKv hXs ls hl hM
  have hXk := hX0
  have Z : mZ p s m args meth c cX5_go 2 (some .int) wsX5_go RX5 D [(cI, .int), (cZ, .boolean)] X := ⟨hx, hb, hml, hr, hlocks, hts, hown, hKv, hXs⟩
  replace hown : s.vm.findClass RX5 = some m.cls := hown
  have hl : lv_has ls 2 [(0, .ref (ad 0)), (1, .int a1)] := hl
  have k0 := hts (Cond.fieldLink RX5 53 "NoonWalkerModel" "thrown" "I") (List.mem_of_getElem? (i := 1) rfl)
  have k1 := hts (Cond.fieldLink RX5 34 "NoonWalkerModel" "s" "[I") (List.mem_of_getElem? (i := 2) rfl)
  unfold fX5_go at h
  refine lv_aload_n hx hb dX5_go_0 rfl (lv_at hl 0 rfl) ?_
  refine lv_iconst (v := (0 : Int32)) hx hb dX5_go_1 (by decide) ?_
  obtain ⟨M1, hM1, h⟩ := Option.bind_eq_some_iff.mp h
  refine m_put hx hb hts hown hKv hM (fun _ h => List.mem_cons_of_mem _ (List.mem_append_right _ (h))) tyX5 tyX5_ok nmX5 (by decide) at_X5 rfl 0 (by decide) k0 rfl rfl rfl (Nat.le_of_ble_eq_true rfl) (pt_X5_0 (Option.some.inj hM1)) dX5_go_2 (fun H locs hM => ?_)
  refine lv_iload_n hx hb dX5_go_5 rfl (lv_at hl 1 rfl) ?_
  refine lv_iconst (v := (1 : Int32)) hx hb dX5_go_6 (by decide) ?_
  refine lv_sipush (v := (999 : Int32)) hx hb dX5_go_7 (by decide) ?_
  obtain ⟨x2, hx2, h⟩ := Option.bind_eq_some_iff.mp h
  refine m_callS (As := [.int a1, .int (1 : Int32), .int (999 : Int32)]) (st1 := [.int x2]) hx hb (hml.trans hl.1.symm) hown hts hKv hXs hXk hM (kX5_in l D cI cZ ad hX0 a1 (1 : Int32) (999 : Int32) M1 _ hx2) (va_cwS 3 hts gX5_go_X5_in rfl rfl rfl (by decide +kernel) ⟨Nat.le_of_ble_eq_true rfl, Nat.le_of_ble_eq_true rfl⟩) rfl rfl rfl (Nat.le_of_ble_eq_true rfl) dX5_go_10 ⟨Nat.zero_le _, Nat.zero_le _⟩ (fun H locs hM => ?_)
  refine lv_if_ne (tgt := 18) hx hb dX5_go_13 (by decide) (fun c3 => ?_) (fun c3 => ?_)
  · replace h := (if_neg c3).symm.trans h
    refine lv_aload_n hx hb dX5_go_18 rfl (lv_at hl 0 rfl) ?_
    refine m_get hx hb hts hown hKv hM (fun _ h => List.mem_cons_of_mem _ (List.mem_append_right _ (h))) (by decide) at_X5 rfl 22 (by decide) k1 (v := .ref (ad 9)) rfl dX5_go_19 ?_
    refine lv_iconst (v := (0 : Int32)) hx hb dX5_go_22 (by decide) ?_
    obtain ⟨x4, hx4, h⟩ := Option.bind_eq_some_iff.mp h
    refine m_iald hx hb hKv hM (by decide) at_X5_9 0 rfl hx4 dX5_go_23 ?_
    refine lv_sipush (v := (999 : Int32)) hx hb dX5_go_24 (by decide) ?_
    refine lv_icmp_ne (tgt := 33) hx hb dX5_go_27 (by decide) (fun c5 => ?_) (fun c5 => ?_)
    · replace h := (if_neg c5).symm.trans h
      refine lv_aload_n hx hb dX5_go_33 rfl (lv_at hl 0 rfl) ?_
      refine m_get hx hb hts hown hKv hM (fun _ h => List.mem_cons_of_mem _ (List.mem_append_right _ (h))) (by decide) at_X5 rfl 22 (by decide) k1 (v := .ref (ad 9)) rfl dX5_go_34 ?_
      refine lv_iconst (v := (0 : Int32)) hx hb dX5_go_37 (by decide) ?_
      refine lv_sipush (v := (999 : Int32)) hx hb dX5_go_38 (by decide) ?_
      refine lv_aload_n hx hb dX5_go_41 rfl (lv_at hl 0 rfl) ?_
      refine m_get hx hb hts hown hKv hM (fun _ h => List.mem_cons_of_mem _ (List.mem_append_right _ (h))) (by decide) at_X5 rfl 22 (by decide) k1 (v := .ref (ad 9)) rfl dX5_go_42 ?_
      refine lv_iconst (v := (0 : Int32)) hx hb dX5_go_45 (by decide) ?_
      obtain ⟨x6, hx6, h⟩ := Option.bind_eq_some_iff.mp h
      refine m_iald hx hb hKv hM (by decide) at_X5_9 0 rfl hx6 dX5_go_46 ?_
      refine lv_iload_n hx hb dX5_go_47 rfl (lv_at hl 1 rfl) ?_
      refine lv_iadd hx hb dX5_go_48 ?_
      obtain ⟨x7, hx7, h⟩ := Option.bind_eq_some_iff.mp h
      refine m_callS (As := [.int (999 : Int32), .int (x6 + a1)]) (st1 := [.int x7, .int (0 : Int32), .ref (ad 9)]) hx hb (hml.trans hl.1.symm) hown hts hKv hXs hXk hM (kX5_lesser l D cI cZ ad hX0 (999 : Int32) (x6 + a1) M1 _ hx7) (va_cwS 2 hts gX5_go_X5_lesser rfl rfl rfl (by decide +kernel) ⟨Nat.le_of_ble_eq_true rfl, Nat.le_of_ble_eq_true rfl⟩) rfl rfl rfl (Nat.le_of_ble_eq_true rfl) dX5_go_49 ⟨Nat.zero_le _, Nat.zero_le _⟩ (fun H locs hM => ?_)
      obtain ⟨M8, hM8, h⟩ := Option.bind_eq_some_iff.mp h
      refine m_iast hx hb hKv hM (by decide) at_X5_9 0 rfl (sta_some hM8).1 (pa_X5_9 (sta_some hM8).2) dX5_go_52 (fun H locs hM => ?_)
      refine lv_aload_n hx hb dX5_go_53 rfl (lv_at hl 0 rfl) ?_
      refine m_get hx hb hts hown hKv hM (fun _ h => List.mem_cons_of_mem _ (List.mem_append_right _ (h))) (by decide) at_X5 rfl 22 (by decide) k1 (v := .ref (ad 9)) rfl dX5_go_54 ?_
      refine lv_iconst (v := (0 : Int32)) hx hb dX5_go_57 (by decide) ?_
      obtain ⟨x9, hx9, h⟩ := Option.bind_eq_some_iff.mp h
      refine m_iald hx hb hKv hM (by decide) at_X5_9 0 rfl hx9 dX5_go_58 ?_
      exact m_iret hx hb hr hlocks hM (congrArg (a₁ := (x9, M8)) Prod.fst (Option.some.inj h)) (congrArg (a₁ := (x9, M8)) (fun z => Em ad cI cZ z.2) (Option.some.inj h)) dX5_go_59
    · replace h := (if_pos c5).symm.trans h
      refine lv_bipush (v := (-2 : Int32)) hx hb dX5_go_30 (by decide) ?_
      exact m_iret hx hb hr hlocks hM (congrArg (a₁ := ((-2 : Int32), M1)) Prod.fst (Option.some.inj h)) (congrArg (a₁ := ((-2 : Int32), M1)) (fun z => Em ad cI cZ z.2) (Option.some.inj h)) dX5_go_32
  · replace h := (if_pos c3).symm.trans h
    refine lv_iconst (v := (-1 : Int32)) hx hb dX5_go_16 (by decide) ?_
    exact m_iret hx hb hr hlocks hM (congrArg (a₁ := ((-1 : Int32), M1)) Prod.fst (Option.some.inj h)) (congrArg (a₁ := ((-1 : Int32), M1)) (fun z => Em ad cI cZ z.2) (Option.some.inj h)) dX5_go_17
set_option maxHeartbeats 4000000 in
set_option maxRecDepth 100000 in
theorem wX5_ill_29 {p : Program} {l : Launch} {e : Env} {s : State} {m : MethodId} {args : Array Value} {below : List Frame} {meth : Method} {c : Code} {D : va_G} {cI cZ : ClassId} {ad : Nat → Nat} {X : State → Prop} (Z : mZ p s m args meth c cX5_ill 5 (some .int) wsX5_ill RX5 D [(cI, .int), (cZ, .boolean)] X) (hX0 : mX ad 14 X)   (u1 : Int32) (u2 : Int32) (M : Mem) {K : Int32 → Option (Int32 × Mem)} (res : (Int32 × Mem)) (hKc : ∀ (y3 : Int32), K y3 = some res → ∀ (H : Heap) (locs : List Loc) (ls : Array Slot), lv_has ls 5 [(3, .int y3)] → mH D ad 14 (Em ad cI cZ M) s.heap H locs → W p l e { frames := 2, cells := 0, slots := 0, locals := 42 } s m args below meth c H locs 0 0 (MQ below (mQ D ad 14 (some (.int res.1)) (Em ad cI cZ res.2)) args s 0 0 (mA ad 14)) (F0 m 85 ls [])) :
    ∀ (n : Nat) (v3 : Int32) (v4 : Int32), fX5_ill_29 u1 u2 M K n v3 v4 = some res → ∀ (H : Heap) (locs : List Loc) (ls : Array Slot), lv_has ls 5 [(0, .ref (ad 0)), (1, .int u1), (2, .int u2), (3, .int v3), (4, .int v4)] → mH D ad 14 (Em ad cI cZ M) s.heap H locs → W p l e { frames := 2, cells := 0, slots := 0, locals := 42 } s m args below meth c H locs 0 0 (MQ below (mQ D ad 14 (some (.int res.1)) (Em ad cI cZ res.2)) args s 0 0 (mA ad 14)) (F0 m 29 ls []) := by
  obtain ⟨hx, hb, hml, hr, hlocks, hts, hown, hKv, hXs⟩ := id Z
  have hXk := hX0
  have k0 := hts (Cond.fieldLink RX5 137 "NoonWalkerModel" "halts" "I") (List.mem_of_getElem? (i := 2) rfl)
  have k1 := hts (Cond.fieldLink RX5 31 "NoonWalkerModel" "comes" "[I") (List.mem_of_getElem? (i := 3) rfl)
  have k2 := hts (Cond.fieldLink RX5 34 "NoonWalkerModel" "s" "[I") (List.mem_of_getElem? (i := 4) rfl)
  intro n
  induction n with
  | zero => intro _ _ h; exact absurd h (by unfold fX5_ill_29; exact fun h => by cases h)
  | succ n ih =>
    intro v3 v4 h H locs ls hl hM
    rw [fX5_ill_29] at h
    refine lv_iload hx hb dX5_ill_29 (lv_at hl 4 rfl) ?_
    refine lv_aload_n hx hb dX5_ill_31 rfl (lv_at hl 0 rfl) ?_
    refine m_get hx hb hts hown hKv hM (fun _ h => List.mem_cons_of_mem _ (List.mem_append_right _ (h))) (by decide) at_X5 rfl 15 (by decide) k0 (v := .int (M.1 0 15)) rfl dX5_ill_32 ?_
    refine lv_icmp_ge (tgt := 85) hx hb dX5_ill_35 (by decide) (fun c1 => ?_) (fun c1 => ?_)
    · replace h := (if_pos c1).symm.trans h
      exact hKc _ h _ _ _ (lv_sub hl [3] rfl) hM
    · replace h := (if_neg c1).symm.trans h
      refine lv_iload_n hx hb dX5_ill_38 rfl (lv_at hl 3 rfl) ?_
      refine lv_aload_n hx hb dX5_ill_39 rfl (lv_at hl 0 rfl) ?_
      refine m_get hx hb hts hown hKv hM (fun _ h => List.mem_cons_of_mem _ (List.mem_append_right _ (h))) (by decide) at_X5 rfl 21 (by decide) k1 (v := .ref (ad 8)) rfl dX5_ill_40 ?_
      refine lv_iload hx hb dX5_ill_43 (lv_at hl 4 rfl) ?_
      obtain ⟨x2, hx2, h⟩ := Option.bind_eq_some_iff.mp h
      refine m_iald hx hb hKv hM (by decide) at_X5_8 0 rfl hx2 dX5_ill_45 ?_
      refine lv_aload_n hx hb dX5_ill_46 rfl (lv_at hl 0 rfl) ?_
      refine m_get hx hb hts hown hKv hM (fun _ h => List.mem_cons_of_mem _ (List.mem_append_right _ (h))) (by decide) at_X5 rfl 21 (by decide) k1 (v := .ref (ad 8)) rfl dX5_ill_47 ?_
      refine lv_iload hx hb dX5_ill_50 (lv_at hl 4 rfl) ?_
      obtain ⟨x3, hx3, h⟩ := Option.bind_eq_some_iff.mp h
      refine m_iald hx hb hKv hM (by decide) at_X5_8 0 rfl hx3 dX5_ill_52 ?_
      refine lv_aload_n hx hb dX5_ill_53 rfl (lv_at hl 0 rfl) ?_
      refine m_get hx hb hts hown hKv hM (fun _ h => List.mem_cons_of_mem _ (List.mem_append_right _ (h))) (by decide) at_X5 rfl 22 (by decide) k2 (v := .ref (ad 9)) rfl dX5_ill_54 ?_
      refine lv_iconst (v := (0 : Int32)) hx hb dX5_ill_57 (by decide) ?_
      obtain ⟨x4, hx4, h⟩ := Option.bind_eq_some_iff.mp h
      refine m_iald hx hb hKv hM (by decide) at_X5_9 0 rfl hx4 dX5_ill_58 ?_
      refine lv_icmp_le (tgt := 66) hx hb dX5_ill_59 (by decide) (fun c5 => ?_) (fun c5 => ?_)
      · replace h := (if_pos c5).symm.trans h
        refine lv_iconst (v := (0 : Int32)) hx hb dX5_ill_66 (by decide) ?_
        refine lv_iadd hx hb dX5_ill_67 ?_
        refine lv_iload_n hx hb dX5_ill_68 rfl (lv_at hl 2 rfl) ?_
        refine lv_icmp_gt (tgt := 76) hx hb dX5_ill_69 (by decide) (fun c6 => ?_) (fun c6 => ?_)
        · replace h := (if_pos c6).symm.trans h
          refine lv_iconst (v := (0 : Int32)) hx hb dX5_ill_76 (by decide) ?_
          refine lv_iadd hx hb dX5_ill_77 ?_
          refine lv_istore_n (lv' := [(3, .int (v3 + (0 : Int32))), (0, .ref (ad 0)), (1, .int u1), (2, .int u2), (4, .int v4)]) hx hb dX5_ill_78 rfl hl (by decide) rfl (fun ls hl => ?_)
          refine lv_iinc (v := (v4 + 1)) (lv' := [(4, .int (v4 + 1)), (3, .int (v3 + (0 : Int32))), (0, .ref (ad 0)), (1, .int u1), (2, .int u2)]) hx hb dX5_ill_79 hl (k := 4) rfl rfl (by decide) rfl (fun ls hl => ?_)
          refine lv_goto (tgt := 29) hx hb dX5_ill_82 (by decide) ?_
          exact ih _ _ h _ _ _ (lv_sub hl [2, 3, 4, 1, 0] rfl) hM
        · replace h := (if_neg c6).symm.trans h
          refine lv_iconst (v := (1 : Int32)) hx hb dX5_ill_72 (by decide) ?_
          refine lv_goto (tgt := 77) hx hb dX5_ill_73 (by decide) ?_
          refine lv_iadd hx hb dX5_ill_77 ?_
          refine lv_istore_n (lv' := [(3, .int (v3 + (1 : Int32))), (0, .ref (ad 0)), (1, .int u1), (2, .int u2), (4, .int v4)]) hx hb dX5_ill_78 rfl hl (by decide) rfl (fun ls hl => ?_)
          refine lv_iinc (v := (v4 + 1)) (lv' := [(4, .int (v4 + 1)), (3, .int (v3 + (1 : Int32))), (0, .ref (ad 0)), (1, .int u1), (2, .int u2)]) hx hb dX5_ill_79 hl (k := 4) rfl rfl (by decide) rfl (fun ls hl => ?_)
          refine lv_goto (tgt := 29) hx hb dX5_ill_82 (by decide) ?_
          exact ih _ _ h _ _ _ (lv_sub hl [2, 3, 4, 1, 0] rfl) hM
      · replace h := (if_neg c5).symm.trans h
        refine lv_iload_n hx hb dX5_ill_62 rfl (lv_at hl 1 rfl) ?_
        refine lv_goto (tgt := 67) hx hb dX5_ill_63 (by decide) ?_
        refine lv_iadd hx hb dX5_ill_67 ?_
        refine lv_iload_n hx hb dX5_ill_68 rfl (lv_at hl 2 rfl) ?_
        refine lv_icmp_gt (tgt := 76) hx hb dX5_ill_69 (by decide) (fun c7 => ?_) (fun c7 => ?_)
        · replace h := (if_pos c7).symm.trans h
          refine lv_iconst (v := (0 : Int32)) hx hb dX5_ill_76 (by decide) ?_
          refine lv_iadd hx hb dX5_ill_77 ?_
          refine lv_istore_n (lv' := [(3, .int (v3 + (0 : Int32))), (0, .ref (ad 0)), (1, .int u1), (2, .int u2), (4, .int v4)]) hx hb dX5_ill_78 rfl hl (by decide) rfl (fun ls hl => ?_)
          refine lv_iinc (v := (v4 + 1)) (lv' := [(4, .int (v4 + 1)), (3, .int (v3 + (0 : Int32))), (0, .ref (ad 0)), (1, .int u1), (2, .int u2)]) hx hb dX5_ill_79 hl (k := 4) rfl rfl (by decide) rfl (fun ls hl => ?_)
          refine lv_goto (tgt := 29) hx hb dX5_ill_82 (by decide) ?_
          exact ih _ _ h _ _ _ (lv_sub hl [2, 3, 4, 1, 0] rfl) hM
        · replace h := (if_neg c7).symm.trans h
          refine lv_iconst (v := (1 : Int32)) hx hb dX5_ill_72 (by decide) ?_
          refine lv_goto (tgt := 77) hx hb dX5_ill_73 (by decide) ?_
          refine lv_iadd hx hb dX5_ill_77 ?_
          refine lv_istore_n (lv' := [(3, .int (v3 + (1 : Int32))), (0, .ref (ad 0)), (1, .int u1), (2, .int u2), (4, .int v4)]) hx hb dX5_ill_78 rfl hl (by decide) rfl (fun ls hl => ?_)
          refine lv_iinc (v := (v4 + 1)) (lv' := [(4, .int (v4 + 1)), (3, .int (v3 + (1 : Int32))), (0, .ref (ad 0)), (1, .int u1), (2, .int u2)]) hx hb dX5_ill_79 hl (k := 4) rfl rfl (by decide) rfl (fun ls hl => ?_)
          refine lv_goto (tgt := 29) hx hb dX5_ill_82 (by decide) ?_
          exact ih _ _ h _ _ _ (lv_sub hl [2, 3, 4, 1, 0] rfl) hM
set_option maxHeartbeats 4000000 in
set_option maxRecDepth 100000 in
theorem kX5_ill (l : Launch) (D : va_G) (cI cZ : ClassId) (ad : Nat → Nat) {X : State → Prop} (hX0 : mX ad 14 X) (a1 : Int32) (a2 : Int32) (M : Mem) (res : (Int32 × Mem)) (h : fX5_ill a1 a2 M = some res) : mC l yX5_ill wsX5_ill { frames := 2, cells := 0, slots := 0, locals := 42 } D [(cI, .int), (cZ, .boolean)] ad 14 X [.ref (ad 0), .int a1, .int a2] (Em ad cI cZ M) (some (.int res.1)) (Em ad cI cZ res.2) := by
  refine m_ofW (cc := cX5_ill) (maxL := 5) (ret := (some .int)) (by decide) rfl (Nat.le_of_ble_eq_true rfl) ?_
  intro p e s m args below meth c hx hb hml hr hlocks hts hown hKv hXs ls hl hM
  have hXk := hX0
  have Z : mZ p s m args meth c cX5_ill 5 (some .int) wsX5_ill RX5 D [(cI, .int), (cZ, .boolean)] X := ⟨hx, hb, hml, hr, hlocks, hts, hown, hKv, hXs⟩
  replace hown : s.vm.findClass RX5 = some m.cls := hown
  have hl : lv_has ls 5 [(0, .ref (ad 0)), (1, .int a1), (2, .int a2)] := hl
  have k0 := hts (Cond.fieldLink RX5 53 "NoonWalkerModel" "thrown" "I") (List.mem_of_getElem? (i := 1) rfl)
  unfold fX5_ill at h
  refine lv_aload_n hx hb dX5_ill_0 rfl (lv_at hl 0 rfl) ?_
  refine lv_iconst (v := (0 : Int32)) hx hb dX5_ill_1 (by decide) ?_
  obtain ⟨M1, hM1, h⟩ := Option.bind_eq_some_iff.mp h
  refine m_put hx hb hts hown hKv hM (fun _ h => List.mem_cons_of_mem _ (List.mem_append_right _ (h))) tyX5 tyX5_ok nmX5 (by decide) at_X5 rfl 0 (by decide) k0 rfl rfl rfl (Nat.le_of_ble_eq_true rfl) (pt_X5_0 (Option.some.inj hM1)) dX5_ill_2 (fun H locs hM => ?_)
  refine lv_iload_n hx hb dX5_ill_5 rfl (lv_at hl 1 rfl) ?_
  refine lv_iconst (v := (0 : Int32)) hx hb dX5_ill_6 (by decide) ?_
  refine lv_bipush (v := (99 : Int32)) hx hb dX5_ill_7 (by decide) ?_
  obtain ⟨x2, hx2, h⟩ := Option.bind_eq_some_iff.mp h
  refine m_callS (As := [.int a1, .int (0 : Int32), .int (99 : Int32)]) (st1 := [.int x2]) hx hb (hml.trans hl.1.symm) hown hts hKv hXs hXk hM (kX5_in l D cI cZ ad hX0 a1 (0 : Int32) (99 : Int32) M1 _ hx2) (va_cwS 3 hts gX5_ill_X5_in rfl rfl rfl (by decide +kernel) ⟨Nat.le_of_ble_eq_true rfl, Nat.le_of_ble_eq_true rfl⟩) rfl rfl rfl (Nat.le_of_ble_eq_true rfl) dX5_ill_9 ⟨Nat.zero_le _, Nat.zero_le _⟩ (fun H locs hM => ?_)
  refine lv_if_eq (tgt := 22) hx hb dX5_ill_12 (by decide) (fun c3 => ?_) (fun c3 => ?_)
  · replace h := (if_pos c3).symm.trans h
    refine lv_iconst (v := (-1 : Int32)) hx hb dX5_ill_22 (by decide) ?_
    exact m_iret hx hb hr hlocks hM (congrArg (a₁ := ((-1 : Int32), M1)) Prod.fst (Option.some.inj h)) (congrArg (a₁ := ((-1 : Int32), M1)) (fun z => Em ad cI cZ z.2) (Option.some.inj h)) dX5_ill_23
  · replace h := (if_neg c3).symm.trans h
    refine lv_iload_n hx hb dX5_ill_15 rfl (lv_at hl 2 rfl) ?_
    obtain ⟨x4, hx4, h⟩ := Option.bind_eq_some_iff.mp h
    refine m_callS (As := [.int a2]) (st1 := [.int x4]) hx hb (hml.trans hl.1.symm) hown hts hKv hXs hXk hM (kX5_isHour l D cI cZ ad hX0 a2 M1 _ hx4) (va_cwS 1 hts gX5_ill_X5_isHour rfl rfl rfl (by decide +kernel) ⟨Nat.le_of_ble_eq_true rfl, Nat.le_of_ble_eq_true rfl⟩) rfl rfl rfl (Nat.le_of_ble_eq_true rfl) dX5_ill_16 ⟨Nat.zero_le _, Nat.zero_le _⟩ (fun H locs hM => ?_)
    refine lv_if_ne (tgt := 24) hx hb dX5_ill_19 (by decide) (fun c5 => ?_) (fun c5 => ?_)
    · replace h := (if_neg c5).symm.trans h
      refine lv_iconst (v := (0 : Int32)) hx hb dX5_ill_24 (by decide) ?_
      refine lv_istore_n (lv' := [(3, .int (0 : Int32)), (0, .ref (ad 0)), (1, .int a1), (2, .int a2)]) hx hb dX5_ill_25 rfl hl (by decide) rfl (fun ls hl => ?_)
      refine lv_iconst (v := (0 : Int32)) hx hb dX5_ill_26 (by decide) ?_
      refine lv_istore (lv' := [(4, .int (0 : Int32)), (3, .int (0 : Int32)), (0, .ref (ad 0)), (1, .int a1), (2, .int a2)]) hx hb dX5_ill_27 hl (by decide) rfl (fun ls hl => ?_)
      refine wX5_ill_29 Z hX0 a1 a2 M1 _ (fun y6 h H locs ls hl hM => ?_) _ _ _ h _ _ _ (lv_sub hl [2, 3, 4, 1, 0] rfl) hM
      refine lv_iload_n hx hb dX5_ill_85 rfl (lv_at hl 0 rfl) ?_
      exact m_iret hx hb hr hlocks hM (congrArg (a₁ := (y6, M1)) Prod.fst (Option.some.inj h)) (congrArg (a₁ := (y6, M1)) (fun z => Em ad cI cZ z.2) (Option.some.inj h)) dX5_ill_86
    · replace h := (if_pos c5).symm.trans h
      refine lv_iconst (v := (-1 : Int32)) hx hb dX5_ill_22 (by decide) ?_
      exact m_iret hx hb hr hlocks hM (congrArg (a₁ := ((-1 : Int32), M1)) Prod.fst (Option.some.inj h)) (congrArg (a₁ := ((-1 : Int32), M1)) (fun z => Em ad cI cZ z.2) (Option.some.inj h)) dX5_ill_23
set_option maxHeartbeats 4000000 in
set_option maxRecDepth 100000 in
theorem kX5_rate (l : Launch) (D : va_G) (cI cZ : ClassId) (ad : Nat → Nat) {X : State → Prop} (hX0 : mX ad 14 X) (a1 : Int32) (a2 : Int32) (M : Mem) (res : (Int32 × Mem)) (h : fX5_rate a1 a2 M = some res) : mC l yX5_rate wsX5_rate { frames := 4, cells := 0, slots := 0, locals := 95 } D [(cI, .int), (cZ, .boolean)] ad 14 X [.ref (ad 0), .int a1, .int a2] (Em ad cI cZ M) (some (.int res.1)) (Em ad cI cZ res.2) := by
  refine m_ofW (cc := cX5_rate) (maxL := 6) (ret := (some .int)) (by decide) rfl (Nat.le_of_ble_eq_true rfl) ?_
  intro p e s m args below meth c hx hb hml hr hlocks hts hown hKv hXs ls hl hM
  have hXk := hX0
  have Z : mZ p s m args meth c cX5_rate 6 (some .int) wsX5_rate RX5 D [(cI, .int), (cZ, .boolean)] X := ⟨hx, hb, hml, hr, hlocks, hts, hown, hKv, hXs⟩
  replace hown : s.vm.findClass RX5 = some m.cls := hown
  have hl : lv_has ls 6 [(0, .ref (ad 0)), (1, .int a1), (2, .int a2)] := hl
  have k0 := hts (Cond.fieldLink RX5 53 "NoonWalkerModel" "thrown" "I") (List.mem_of_getElem? (i := 1) rfl)
  have k1 := hts (Cond.constant RX5 140 (-1000000)) (List.mem_of_getElem? (i := 2) rfl)
  have k2 := hts (Cond.fieldLink RX5 34 "NoonWalkerModel" "s" "[I") (List.mem_of_getElem? (i := 3) rfl)
  have k3 := hts (Cond.fieldLink RX5 13 "NoonWalkerModel" "bid" "[I") (List.mem_of_getElem? (i := 4) rfl)
  have k4 := hts (Cond.fieldLink RX5 203 "NoonWalkerModel" "trace" "J") (List.mem_of_getElem? (i := 5) rfl)
  have k5 := hts (Cond.constantLong RX5 215 (100001)) (List.mem_of_getElem? (i := 10) rfl)
  have k6 := hts (Cond.constantLong RX5 213 (10101)) (List.mem_of_getElem? (i := 9) rfl)
  have k7 := hts (Cond.constantLong RX5 211 (1011)) (List.mem_of_getElem? (i := 8) rfl)
  have k8 := hts (Cond.constantLong RX5 209 (101)) (List.mem_of_getElem? (i := 7) rfl)
  have k9 := hts (Cond.constantLong RX5 207 (11)) (List.mem_of_getElem? (i := 6) rfl)
  unfold fX5_rate at h
  refine lv_aload_n hx hb dX5_rate_0 rfl (lv_at hl 0 rfl) ?_
  refine lv_iconst (v := (0 : Int32)) hx hb dX5_rate_1 (by decide) ?_
  obtain ⟨M1, hM1, h⟩ := Option.bind_eq_some_iff.mp h
  refine m_put hx hb hts hown hKv hM (fun _ h => List.mem_cons_of_mem _ (List.mem_append_right _ (h))) tyX5 tyX5_ok nmX5 (by decide) at_X5 rfl 0 (by decide) k0 rfl rfl rfl (Nat.le_of_ble_eq_true rfl) (pt_X5_0 (Option.some.inj hM1)) dX5_rate_2 (fun H locs hM => ?_)
  refine lv_iload_n hx hb dX5_rate_5 rfl (lv_at hl 1 rfl) ?_
  refine lv_iconst (v := (0 : Int32)) hx hb dX5_rate_6 (by decide) ?_
  refine lv_iconst (v := (5 : Int32)) hx hb dX5_rate_7 (by decide) ?_
  obtain ⟨x2, hx2, h⟩ := Option.bind_eq_some_iff.mp h
  refine m_callS (As := [.int a1, .int (0 : Int32), .int (5 : Int32)]) (st1 := [.int x2]) hx hb (hml.trans hl.1.symm) hown hts hKv hXs hXk hM (kX5_in l D cI cZ ad hX0 a1 (0 : Int32) (5 : Int32) M1 _ hx2) (va_cwS 3 hts gX5_rate_X5_in rfl rfl rfl (by decide +kernel) ⟨Nat.le_of_ble_eq_true rfl, Nat.le_of_ble_eq_true rfl⟩) rfl rfl rfl (Nat.le_of_ble_eq_true rfl) dX5_rate_8 ⟨Nat.zero_le _, Nat.zero_le _⟩ (fun H locs hM => ?_)
  refine lv_if_eq (tgt := 22) hx hb dX5_rate_11 (by decide) (fun c3 => ?_) (fun c3 => ?_)
  · replace h := (if_pos c3).symm.trans h
    refine lv_ldc (v := (-1000000 : Int32)) hx hb hown k1 dX5_rate_22 ?_
    exact m_iret hx hb hr hlocks hM (congrArg (a₁ := ((-1000000 : Int32), M1)) Prod.fst (Option.some.inj h)) (congrArg (a₁ := ((-1000000 : Int32), M1)) (fun z => Em ad cI cZ z.2) (Option.some.inj h)) dX5_rate_24
  · replace h := (if_neg c3).symm.trans h
    refine lv_aload_n hx hb dX5_rate_14 rfl (lv_at hl 0 rfl) ?_
    refine lv_iload_n hx hb dX5_rate_15 rfl (lv_at hl 2 rfl) ?_
    obtain ⟨x4, hx4, h⟩ := Option.bind_eq_some_iff.mp h
    refine m_callV (As := [.int a2]) (st1 := [.int x4]) hx hb (hml.trans hl.1.symm) hown hts hKv hXs hXk hM (kX5_isTown l D cI cZ ad hX0 a2 M1 _ hx4) (cwV 1 hts gX5_rate_X5_isTown rfl rfl rfl (by decide +kernel) ⟨Nat.le_of_ble_eq_true rfl, Nat.le_of_ble_eq_true rfl⟩) (by decide) at_X5 rfl rfl rfl rfl (Nat.le_of_ble_eq_true rfl) dX5_rate_16 ⟨Nat.zero_le _, Nat.zero_le _⟩ (fun H locs hM => ?_)
    refine lv_if_ne (tgt := 25) hx hb dX5_rate_19 (by decide) (fun c5 => ?_) (fun c5 => ?_)
    · replace h := (if_neg c5).symm.trans h
      refine lv_aload_n hx hb dX5_rate_25 rfl (lv_at hl 0 rfl) ?_
      refine lv_iload_n hx hb dX5_rate_26 rfl (lv_at hl 2 rfl) ?_
      refine lv_aload_n hx hb dX5_rate_27 rfl (lv_at hl 0 rfl) ?_
      refine m_get hx hb hts hown hKv hM (fun _ h => List.mem_cons_of_mem _ (List.mem_append_right _ (h))) (by decide) at_X5 rfl 22 (by decide) k2 (v := .ref (ad 9)) rfl dX5_rate_28 ?_
      refine lv_iconst (v := (0 : Int32)) hx hb dX5_rate_31 (by decide) ?_
      obtain ⟨x6, hx6, h⟩ := Option.bind_eq_some_iff.mp h
      refine m_iald hx hb hKv hM (by decide) at_X5_9 0 rfl hx6 dX5_rate_32 ?_
      obtain ⟨x7, hx7, h⟩ := Option.bind_eq_some_iff.mp h
      refine m_callV (As := [.int a2, .int x6]) (st1 := [.int x7.1]) hx hb (hml.trans hl.1.symm) hown hts hKv hXs hXk hM (kX5_clockIn l D cI cZ ad hX0 a2 x6 M1 _ hx7) (cwV 2 hts gX5_rate_X5_clockIn rfl rfl rfl (by decide +kernel) ⟨Nat.le_of_ble_eq_true rfl, Nat.le_of_ble_eq_true rfl⟩) (by decide) at_X5 rfl rfl rfl rfl (Nat.le_of_ble_eq_true rfl) dX5_rate_33 ⟨Nat.zero_le _, Nat.zero_le _⟩ (fun H locs hM => ?_)
      refine lv_istore_n (lv' := [(3, .int x7.1), (0, .ref (ad 0)), (1, .int a1), (2, .int a2)]) hx hb dX5_rate_36 rfl hl (by decide) rfl (fun ls hl => ?_)
      refine lv_aload_n hx hb dX5_rate_37 rfl (lv_at hl 1 rfl) ?_
      refine m_get hx hb hts hown hKv hM (fun _ h => List.mem_cons_of_mem _ (List.mem_append_right _ (h))) (by decide) at_X5 rfl 9 (by decide) k3 (v := .ref (ad 2)) rfl dX5_rate_38 ?_
      refine lv_iload_n hx hb dX5_rate_41 rfl (lv_at hl 3 rfl) ?_
      obtain ⟨x8, hx8, h⟩ := Option.bind_eq_some_iff.mp h
      refine m_iald hx hb hKv hM (by decide) at_X5_2 0 rfl hx8 dX5_rate_42 ?_
      refine lv_aload_n hx hb dX5_rate_43 rfl (lv_at hl 1 rfl) ?_
      refine lv_iload_n hx hb dX5_rate_44 rfl (lv_at hl 3 rfl) ?_
      obtain ⟨x9, hx9, h⟩ := Option.bind_eq_some_iff.mp h
      refine m_callV (As := [.int a2]) (st1 := [.int x9, .int x8]) hx hb (hml.trans hl.1.symm) hown hts hKv hXs hXk hM (kX5_roadsOf l D cI cZ ad hX0 a2 x7.2 _ hx9) (cwV 1 hts gX5_rate_X5_roadsOf rfl rfl rfl (by decide +kernel) ⟨Nat.le_of_ble_eq_true rfl, Nat.le_of_ble_eq_true rfl⟩) (by decide) at_X5 rfl rfl rfl rfl (Nat.le_of_ble_eq_true rfl) dX5_rate_45 ⟨Nat.zero_le _, Nat.zero_le _⟩ (fun H locs hM => ?_)
      refine lv_iadd hx hb dX5_rate_48 ?_
      refine lv_istore (lv' := [(4, .int (x8 + x9)), (3, .int x7.1), (0, .ref (ad 0)), (1, .int a1), (2, .int a2)]) hx hb dX5_rate_49 hl (by decide) rfl (fun ls hl => ?_)
      refine lv_aload_n hx hb dX5_rate_51 rfl (lv_at hl 2 rfl) ?_
      refine m_get hx hb hts hown hKv hM (fun _ h => List.mem_cons_of_mem _ (List.mem_append_right _ (h))) (by decide) at_X5 rfl 9 (by decide) k3 (v := .ref (ad 2)) rfl dX5_rate_52 ?_
      refine lv_iload_n hx hb dX5_rate_55 rfl (lv_at hl 4 rfl) ?_
      obtain ⟨x10, hx10, h⟩ := Option.bind_eq_some_iff.mp h
      refine m_iald hx hb hKv hM (by decide) at_X5_2 0 rfl hx10 dX5_rate_56 ?_
      refine lv_iload_n hx hb dX5_rate_57 rfl (lv_at hl 1 rfl) ?_
      refine lv_bipush (v := (-9 : Int32)) hx hb dX5_rate_58 (by decide) ?_
      refine lv_icmp_ne (tgt := 67) hx hb dX5_rate_60 (by decide) (fun c11 => ?_) (fun c11 => ?_)
      · replace h := (if_neg c11).symm.trans h
        refine lv_iload_n hx hb dX5_rate_67 rfl (lv_at hl 1 rfl) ?_
        refine lv_isub hx hb dX5_rate_68 ?_
        refine lv_istore (lv' := [(5, .int (x10 - x7.1)), (4, .int (x8 + x9)), (3, .int x7.1), (0, .ref (ad 0)), (1, .int a1), (2, .int a2)]) hx hb dX5_rate_69 hl (by decide) rfl (fun ls hl => ?_)
        refine lv_aload_n hx hb dX5_rate_71 rfl (lv_at hl 3 rfl) ?_
        refine lv_dup hx hb dX5_rate_72 rfl ?_
        refine m_get hx hb hts hown hKv hM (fun _ h => List.mem_cons_of_mem _ (List.mem_append_right _ (h))) (by decide) at_X5 rfl 1 (by decide) k4 (v := .long x7.2.2) rfl dX5_rate_73 ?_
        refine lv_iload_n hx hb dX5_rate_76 rfl (lv_at hl 4 rfl) ?_
        refine lv_if_ne (tgt := 84) hx hb dX5_rate_77 (by decide) (fun c12 => ?_) (fun c12 => ?_)
        · replace h := (if_neg c12).symm.trans h
          refine lv_iload_n hx hb dX5_rate_84 rfl (lv_at hl 4 rfl) ?_
          refine lv_iconst (v := (1 : Int32)) hx hb dX5_rate_85 (by decide) ?_
          refine lv_icmp_ne (tgt := 95) hx hb dX5_rate_86 (by decide) (fun c13 => ?_) (fun c13 => ?_)
          · replace h := (if_neg c13).symm.trans h
            refine lv_iload_n hx hb dX5_rate_95 rfl (lv_at hl 4 rfl) ?_
            refine lv_iconst (v := (2 : Int32)) hx hb dX5_rate_96 (by decide) ?_
            refine lv_icmp_ne (tgt := 106) hx hb dX5_rate_97 (by decide) (fun c14 => ?_) (fun c14 => ?_)
            · replace h := (if_neg c14).symm.trans h
              refine lv_iload_n hx hb dX5_rate_106 rfl (lv_at hl 4 rfl) ?_
              refine lv_iconst (v := (3 : Int32)) hx hb dX5_rate_107 (by decide) ?_
              refine lv_icmp_ne (tgt := 117) hx hb dX5_rate_108 (by decide) (fun c15 => ?_) (fun c15 => ?_)
              · replace h := (if_neg c15).symm.trans h
                refine lv_iload_n hx hb dX5_rate_117 rfl (lv_at hl 4 rfl) ?_
                refine lv_iconst (v := (4 : Int32)) hx hb dX5_rate_118 (by decide) ?_
                refine lv_icmp_ne (tgt := 128) hx hb dX5_rate_119 (by decide) (fun c16 => ?_) (fun c16 => ?_)
                · replace h := (if_neg c16).symm.trans h
                  refine lv_ldc2 (v := (100001 : Int64)) hx hb hown k5 dX5_rate_128 ?_
                  refine lv_ladd hx hb dX5_rate_131 ?_
                  obtain ⟨M17, hM17, h⟩ := Option.bind_eq_some_iff.mp h
                  refine m_put hx hb hts hown hKv hM (fun _ h => List.mem_cons_of_mem _ (List.mem_append_right _ (h))) tyX5 tyX5_ok nmX5 (by decide) at_X5 rfl 1 (by decide) k4 rfl rfl rfl (Nat.le_of_ble_eq_true rfl) (pt_X5_1 (Option.some.inj hM17)) dX5_rate_132 (fun H locs hM => ?_)
                  refine lv_iload_n hx hb dX5_rate_135 rfl (lv_at hl 4 rfl) ?_
                  refine lv_if_ne (tgt := 148) hx hb dX5_rate_136 (by decide) (fun c18 => ?_) (fun c18 => ?_)
                  · replace h := (if_neg c18).symm.trans h
                    refine lv_iload_n hx hb dX5_rate_148 rfl (lv_at hl 4 rfl) ?_
                    refine lv_iconst (v := (1 : Int32)) hx hb dX5_rate_149 (by decide) ?_
                    refine lv_icmp_ne (tgt := 158) hx hb dX5_rate_150 (by decide) (fun c19 => ?_) (fun c19 => ?_)
                    · replace h := (if_neg c19).symm.trans h
                      refine lv_iload_n hx hb dX5_rate_158 rfl (lv_at hl 4 rfl) ?_
                      refine lv_iconst (v := (2 : Int32)) hx hb dX5_rate_159 (by decide) ?_
                      refine lv_icmp_ne (tgt := 168) hx hb dX5_rate_160 (by decide) (fun c20 => ?_) (fun c20 => ?_)
                      · replace h := (if_neg c20).symm.trans h
                        refine lv_iload_n hx hb dX5_rate_168 rfl (lv_at hl 4 rfl) ?_
                        refine lv_iconst (v := (3 : Int32)) hx hb dX5_rate_169 (by decide) ?_
                        refine lv_icmp_ne (tgt := 180) hx hb dX5_rate_170 (by decide) (fun c21 => ?_) (fun c21 => ?_)
                        · replace h := (if_neg c21).symm.trans h
                          refine lv_iload_n hx hb dX5_rate_180 rfl (lv_at hl 4 rfl) ?_
                          refine lv_iconst (v := (4 : Int32)) hx hb dX5_rate_181 (by decide) ?_
                          refine lv_icmp_ne (tgt := 192) hx hb dX5_rate_182 (by decide) (fun c22 => ?_) (fun c22 => ?_)
                          · replace h := (if_neg c22).symm.trans h
                            refine lv_aload_n hx hb dX5_rate_192 rfl (lv_at hl 3 rfl) ?_
                            refine m_get hx hb hts hown hKv hM (fun _ h => List.mem_cons_of_mem _ (List.mem_append_right _ (h))) (by decide) at_X5 rfl 9 (by decide) k3 (v := .ref (ad 2)) rfl dX5_rate_193 ?_
                            refine lv_iload_n hx hb dX5_rate_196 rfl (lv_at hl 5 rfl) ?_
                            obtain ⟨x23, hx23, h⟩ := Option.bind_eq_some_iff.mp h
                            refine m_iald hx hb hKv hM (by decide) at_X5_2 0 rfl hx23 dX5_rate_197 ?_
                            refine lv_aload_n hx hb dX5_rate_198 rfl (lv_at hl 3 rfl) ?_
                            refine m_get hx hb hts hown hKv hM (fun _ h => List.mem_cons_of_mem _ (List.mem_append_right _ (h))) (by decide) at_X5 rfl 22 (by decide) k2 (v := .ref (ad 9)) rfl dX5_rate_199 ?_
                            refine lv_iconst (v := (0 : Int32)) hx hb dX5_rate_202 (by decide) ?_
                            obtain ⟨x24, hx24, h⟩ := Option.bind_eq_some_iff.mp h
                            refine m_iald hx hb hKv hM (by decide) at_X5_9 0 rfl hx24 dX5_rate_203 ?_
                            refine lv_iadd hx hb dX5_rate_204 ?_
                            exact m_iret hx hb hr hlocks hM (congrArg (a₁ := ((x23 + x24), M17)) Prod.fst (Option.some.inj h)) (congrArg (a₁ := ((x23 + x24), M17)) (fun z => Em ad cI cZ z.2) (Option.some.inj h)) dX5_rate_205
                          · replace h := (if_pos c22).symm.trans h
                            refine lv_iload hx hb dX5_rate_185 (lv_at hl 0 rfl) ?_
                            refine lv_iload_n hx hb dX5_rate_187 rfl (lv_at hl 5 rfl) ?_
                            refine lv_iadd hx hb dX5_rate_188 ?_
                            refine lv_goto (tgt := 205) hx hb dX5_rate_189 (by decide) ?_
                            exact m_iret hx hb hr hlocks hM (congrArg (a₁ := (((x10 - x7.1) + a2), M17)) Prod.fst (Option.some.inj h)) (congrArg (a₁ := (((x10 - x7.1) + a2), M17)) (fun z => Em ad cI cZ z.2) (Option.some.inj h)) dX5_rate_205
                        · replace h := (if_pos c21).symm.trans h
                          refine lv_iconst (v := (2 : Int32)) hx hb dX5_rate_173 (by decide) ?_
                          refine lv_iload hx hb dX5_rate_174 (lv_at hl 1 rfl) ?_
                          refine lv_imul hx hb dX5_rate_176 ?_
                          refine lv_goto (tgt := 205) hx hb dX5_rate_177 (by decide) ?_
                          exact m_iret hx hb hr hlocks hM (congrArg (a₁ := (((2 : Int32) * (x8 + x9)), M17)) Prod.fst (Option.some.inj h)) (congrArg (a₁ := (((2 : Int32) * (x8 + x9)), M17)) (fun z => Em ad cI cZ z.2) (Option.some.inj h)) dX5_rate_205
                      · replace h := (if_pos c20).symm.trans h
                        refine lv_iload hx hb dX5_rate_163 (lv_at hl 0 rfl) ?_
                        refine lv_goto (tgt := 205) hx hb dX5_rate_165 (by decide) ?_
                        exact m_iret hx hb hr hlocks hM (congrArg (a₁ := ((x10 - x7.1), M17)) Prod.fst (Option.some.inj h)) (congrArg (a₁ := ((x10 - x7.1), M17)) (fun z => Em ad cI cZ z.2) (Option.some.inj h)) dX5_rate_205
                    · replace h := (if_pos c19).symm.trans h
                      refine lv_iload hx hb dX5_rate_153 (lv_at hl 1 rfl) ?_
                      refine lv_goto (tgt := 205) hx hb dX5_rate_155 (by decide) ?_
                      exact m_iret hx hb hr hlocks hM (congrArg (a₁ := ((x8 + x9), M17)) Prod.fst (Option.some.inj h)) (congrArg (a₁ := ((x8 + x9), M17)) (fun z => Em ad cI cZ z.2) (Option.some.inj h)) dX5_rate_205
                  · replace h := (if_pos c18).symm.trans h
                    refine lv_aload_n hx hb dX5_rate_139 rfl (lv_at hl 3 rfl) ?_
                    refine m_get hx hb hts hown hKv hM (fun _ h => List.mem_cons_of_mem _ (List.mem_append_right _ (h))) (by decide) at_X5 rfl 9 (by decide) k3 (v := .ref (ad 2)) rfl dX5_rate_140 ?_
                    refine lv_iload_n hx hb dX5_rate_143 rfl (lv_at hl 5 rfl) ?_
                    obtain ⟨x25, hx25, h⟩ := Option.bind_eq_some_iff.mp h
                    refine m_iald hx hb hKv hM (by decide) at_X5_2 0 rfl hx25 dX5_rate_144 ?_
                    refine lv_goto (tgt := 205) hx hb dX5_rate_145 (by decide) ?_
                    exact m_iret hx hb hr hlocks hM (congrArg (a₁ := (x25, M17)) Prod.fst (Option.some.inj h)) (congrArg (a₁ := (x25, M17)) (fun z => Em ad cI cZ z.2) (Option.some.inj h)) dX5_rate_205
                · replace h := (if_pos c16).symm.trans h
                  refine lv_ldc2 (v := (10101 : Int64)) hx hb hown k6 dX5_rate_122 ?_
                  refine lv_goto (tgt := 131) hx hb dX5_rate_125 (by decide) ?_
                  refine lv_ladd hx hb dX5_rate_131 ?_
                  obtain ⟨M26, hM26, h⟩ := Option.bind_eq_some_iff.mp h
                  refine m_put hx hb hts hown hKv hM (fun _ h => List.mem_cons_of_mem _ (List.mem_append_right _ (h))) tyX5 tyX5_ok nmX5 (by decide) at_X5 rfl 1 (by decide) k4 rfl rfl rfl (Nat.le_of_ble_eq_true rfl) (pt_X5_1 (Option.some.inj hM26)) dX5_rate_132 (fun H locs hM => ?_)
                  refine lv_iload_n hx hb dX5_rate_135 rfl (lv_at hl 4 rfl) ?_
                  refine lv_if_ne (tgt := 148) hx hb dX5_rate_136 (by decide) (fun c27 => ?_) (fun c27 => ?_)
                  · replace h := (if_neg c27).symm.trans h
                    refine lv_iload_n hx hb dX5_rate_148 rfl (lv_at hl 4 rfl) ?_
                    refine lv_iconst (v := (1 : Int32)) hx hb dX5_rate_149 (by decide) ?_
                    refine lv_icmp_ne (tgt := 158) hx hb dX5_rate_150 (by decide) (fun c28 => ?_) (fun c28 => ?_)
                    · replace h := (if_neg c28).symm.trans h
                      refine lv_iload_n hx hb dX5_rate_158 rfl (lv_at hl 4 rfl) ?_
                      refine lv_iconst (v := (2 : Int32)) hx hb dX5_rate_159 (by decide) ?_
                      refine lv_icmp_ne (tgt := 168) hx hb dX5_rate_160 (by decide) (fun c29 => ?_) (fun c29 => ?_)
                      · replace h := (if_neg c29).symm.trans h
                        refine lv_iload_n hx hb dX5_rate_168 rfl (lv_at hl 4 rfl) ?_
                        refine lv_iconst (v := (3 : Int32)) hx hb dX5_rate_169 (by decide) ?_
                        refine lv_icmp_ne (tgt := 180) hx hb dX5_rate_170 (by decide) (fun c30 => ?_) (fun c30 => ?_)
                        · replace h := (if_neg c30).symm.trans h
                          refine lv_iload_n hx hb dX5_rate_180 rfl (lv_at hl 4 rfl) ?_
                          refine lv_iconst (v := (4 : Int32)) hx hb dX5_rate_181 (by decide) ?_
                          refine lv_icmp_ne (tgt := 192) hx hb dX5_rate_182 (by decide) (fun c31 => ?_) (fun c31 => ?_)
                          · replace h := (if_neg c31).symm.trans h
                            refine lv_aload_n hx hb dX5_rate_192 rfl (lv_at hl 3 rfl) ?_
                            refine m_get hx hb hts hown hKv hM (fun _ h => List.mem_cons_of_mem _ (List.mem_append_right _ (h))) (by decide) at_X5 rfl 9 (by decide) k3 (v := .ref (ad 2)) rfl dX5_rate_193 ?_
                            refine lv_iload_n hx hb dX5_rate_196 rfl (lv_at hl 5 rfl) ?_
                            obtain ⟨x32, hx32, h⟩ := Option.bind_eq_some_iff.mp h
                            refine m_iald hx hb hKv hM (by decide) at_X5_2 0 rfl hx32 dX5_rate_197 ?_
                            refine lv_aload_n hx hb dX5_rate_198 rfl (lv_at hl 3 rfl) ?_
                            refine m_get hx hb hts hown hKv hM (fun _ h => List.mem_cons_of_mem _ (List.mem_append_right _ (h))) (by decide) at_X5 rfl 22 (by decide) k2 (v := .ref (ad 9)) rfl dX5_rate_199 ?_
                            refine lv_iconst (v := (0 : Int32)) hx hb dX5_rate_202 (by decide) ?_
                            obtain ⟨x33, hx33, h⟩ := Option.bind_eq_some_iff.mp h
                            refine m_iald hx hb hKv hM (by decide) at_X5_9 0 rfl hx33 dX5_rate_203 ?_
                            refine lv_iadd hx hb dX5_rate_204 ?_
                            exact m_iret hx hb hr hlocks hM (congrArg (a₁ := ((x32 + x33), M26)) Prod.fst (Option.some.inj h)) (congrArg (a₁ := ((x32 + x33), M26)) (fun z => Em ad cI cZ z.2) (Option.some.inj h)) dX5_rate_205
                          · replace h := (if_pos c31).symm.trans h
                            refine lv_iload hx hb dX5_rate_185 (lv_at hl 0 rfl) ?_
                            refine lv_iload_n hx hb dX5_rate_187 rfl (lv_at hl 5 rfl) ?_
                            refine lv_iadd hx hb dX5_rate_188 ?_
                            refine lv_goto (tgt := 205) hx hb dX5_rate_189 (by decide) ?_
                            exact m_iret hx hb hr hlocks hM (congrArg (a₁ := (((x10 - x7.1) + a2), M26)) Prod.fst (Option.some.inj h)) (congrArg (a₁ := (((x10 - x7.1) + a2), M26)) (fun z => Em ad cI cZ z.2) (Option.some.inj h)) dX5_rate_205
                        · replace h := (if_pos c30).symm.trans h
                          refine lv_iconst (v := (2 : Int32)) hx hb dX5_rate_173 (by decide) ?_
                          refine lv_iload hx hb dX5_rate_174 (lv_at hl 1 rfl) ?_
                          refine lv_imul hx hb dX5_rate_176 ?_
                          refine lv_goto (tgt := 205) hx hb dX5_rate_177 (by decide) ?_
                          exact m_iret hx hb hr hlocks hM (congrArg (a₁ := (((2 : Int32) * (x8 + x9)), M26)) Prod.fst (Option.some.inj h)) (congrArg (a₁ := (((2 : Int32) * (x8 + x9)), M26)) (fun z => Em ad cI cZ z.2) (Option.some.inj h)) dX5_rate_205
                      · replace h := (if_pos c29).symm.trans h
                        refine lv_iload hx hb dX5_rate_163 (lv_at hl 0 rfl) ?_
                        refine lv_goto (tgt := 205) hx hb dX5_rate_165 (by decide) ?_
                        exact m_iret hx hb hr hlocks hM (congrArg (a₁ := ((x10 - x7.1), M26)) Prod.fst (Option.some.inj h)) (congrArg (a₁ := ((x10 - x7.1), M26)) (fun z => Em ad cI cZ z.2) (Option.some.inj h)) dX5_rate_205
                    · replace h := (if_pos c28).symm.trans h
                      refine lv_iload hx hb dX5_rate_153 (lv_at hl 1 rfl) ?_
                      refine lv_goto (tgt := 205) hx hb dX5_rate_155 (by decide) ?_
                      exact m_iret hx hb hr hlocks hM (congrArg (a₁ := ((x8 + x9), M26)) Prod.fst (Option.some.inj h)) (congrArg (a₁ := ((x8 + x9), M26)) (fun z => Em ad cI cZ z.2) (Option.some.inj h)) dX5_rate_205
                  · replace h := (if_pos c27).symm.trans h
                    refine lv_aload_n hx hb dX5_rate_139 rfl (lv_at hl 3 rfl) ?_
                    refine m_get hx hb hts hown hKv hM (fun _ h => List.mem_cons_of_mem _ (List.mem_append_right _ (h))) (by decide) at_X5 rfl 9 (by decide) k3 (v := .ref (ad 2)) rfl dX5_rate_140 ?_
                    refine lv_iload_n hx hb dX5_rate_143 rfl (lv_at hl 5 rfl) ?_
                    obtain ⟨x34, hx34, h⟩ := Option.bind_eq_some_iff.mp h
                    refine m_iald hx hb hKv hM (by decide) at_X5_2 0 rfl hx34 dX5_rate_144 ?_
                    refine lv_goto (tgt := 205) hx hb dX5_rate_145 (by decide) ?_
                    exact m_iret hx hb hr hlocks hM (congrArg (a₁ := (x34, M26)) Prod.fst (Option.some.inj h)) (congrArg (a₁ := (x34, M26)) (fun z => Em ad cI cZ z.2) (Option.some.inj h)) dX5_rate_205
              · replace h := (if_pos c15).symm.trans h
                refine lv_ldc2 (v := (1011 : Int64)) hx hb hown k7 dX5_rate_111 ?_
                refine lv_goto (tgt := 131) hx hb dX5_rate_114 (by decide) ?_
                refine lv_ladd hx hb dX5_rate_131 ?_
                obtain ⟨M35, hM35, h⟩ := Option.bind_eq_some_iff.mp h
                refine m_put hx hb hts hown hKv hM (fun _ h => List.mem_cons_of_mem _ (List.mem_append_right _ (h))) tyX5 tyX5_ok nmX5 (by decide) at_X5 rfl 1 (by decide) k4 rfl rfl rfl (Nat.le_of_ble_eq_true rfl) (pt_X5_1 (Option.some.inj hM35)) dX5_rate_132 (fun H locs hM => ?_)
                refine lv_iload_n hx hb dX5_rate_135 rfl (lv_at hl 4 rfl) ?_
                refine lv_if_ne (tgt := 148) hx hb dX5_rate_136 (by decide) (fun c36 => ?_) (fun c36 => ?_)
                · replace h := (if_neg c36).symm.trans h
                  refine lv_iload_n hx hb dX5_rate_148 rfl (lv_at hl 4 rfl) ?_
                  refine lv_iconst (v := (1 : Int32)) hx hb dX5_rate_149 (by decide) ?_
                  refine lv_icmp_ne (tgt := 158) hx hb dX5_rate_150 (by decide) (fun c37 => ?_) (fun c37 => ?_)
                  · replace h := (if_neg c37).symm.trans h
                    refine lv_iload_n hx hb dX5_rate_158 rfl (lv_at hl 4 rfl) ?_
                    refine lv_iconst (v := (2 : Int32)) hx hb dX5_rate_159 (by decide) ?_
                    refine lv_icmp_ne (tgt := 168) hx hb dX5_rate_160 (by decide) (fun c38 => ?_) (fun c38 => ?_)
                    · replace h := (if_neg c38).symm.trans h
                      refine lv_iload_n hx hb dX5_rate_168 rfl (lv_at hl 4 rfl) ?_
                      refine lv_iconst (v := (3 : Int32)) hx hb dX5_rate_169 (by decide) ?_
                      refine lv_icmp_ne (tgt := 180) hx hb dX5_rate_170 (by decide) (fun c39 => ?_) (fun c39 => ?_)
                      · replace h := (if_neg c39).symm.trans h
                        refine lv_iload_n hx hb dX5_rate_180 rfl (lv_at hl 4 rfl) ?_
                        refine lv_iconst (v := (4 : Int32)) hx hb dX5_rate_181 (by decide) ?_
                        refine lv_icmp_ne (tgt := 192) hx hb dX5_rate_182 (by decide) (fun c40 => ?_) (fun c40 => ?_)
                        · replace h := (if_neg c40).symm.trans h
                          refine lv_aload_n hx hb dX5_rate_192 rfl (lv_at hl 3 rfl) ?_
                          refine m_get hx hb hts hown hKv hM (fun _ h => List.mem_cons_of_mem _ (List.mem_append_right _ (h))) (by decide) at_X5 rfl 9 (by decide) k3 (v := .ref (ad 2)) rfl dX5_rate_193 ?_
                          refine lv_iload_n hx hb dX5_rate_196 rfl (lv_at hl 5 rfl) ?_
                          obtain ⟨x41, hx41, h⟩ := Option.bind_eq_some_iff.mp h
                          refine m_iald hx hb hKv hM (by decide) at_X5_2 0 rfl hx41 dX5_rate_197 ?_
                          refine lv_aload_n hx hb dX5_rate_198 rfl (lv_at hl 3 rfl) ?_
                          refine m_get hx hb hts hown hKv hM (fun _ h => List.mem_cons_of_mem _ (List.mem_append_right _ (h))) (by decide) at_X5 rfl 22 (by decide) k2 (v := .ref (ad 9)) rfl dX5_rate_199 ?_
                          refine lv_iconst (v := (0 : Int32)) hx hb dX5_rate_202 (by decide) ?_
                          obtain ⟨x42, hx42, h⟩ := Option.bind_eq_some_iff.mp h
                          refine m_iald hx hb hKv hM (by decide) at_X5_9 0 rfl hx42 dX5_rate_203 ?_
                          refine lv_iadd hx hb dX5_rate_204 ?_
                          exact m_iret hx hb hr hlocks hM (congrArg (a₁ := ((x41 + x42), M35)) Prod.fst (Option.some.inj h)) (congrArg (a₁ := ((x41 + x42), M35)) (fun z => Em ad cI cZ z.2) (Option.some.inj h)) dX5_rate_205
                        · replace h := (if_pos c40).symm.trans h
                          refine lv_iload hx hb dX5_rate_185 (lv_at hl 0 rfl) ?_
                          refine lv_iload_n hx hb dX5_rate_187 rfl (lv_at hl 5 rfl) ?_
                          refine lv_iadd hx hb dX5_rate_188 ?_
                          refine lv_goto (tgt := 205) hx hb dX5_rate_189 (by decide) ?_
                          exact m_iret hx hb hr hlocks hM (congrArg (a₁ := (((x10 - x7.1) + a2), M35)) Prod.fst (Option.some.inj h)) (congrArg (a₁ := (((x10 - x7.1) + a2), M35)) (fun z => Em ad cI cZ z.2) (Option.some.inj h)) dX5_rate_205
                      · replace h := (if_pos c39).symm.trans h
                        refine lv_iconst (v := (2 : Int32)) hx hb dX5_rate_173 (by decide) ?_
                        refine lv_iload hx hb dX5_rate_174 (lv_at hl 1 rfl) ?_
                        refine lv_imul hx hb dX5_rate_176 ?_
                        refine lv_goto (tgt := 205) hx hb dX5_rate_177 (by decide) ?_
                        exact m_iret hx hb hr hlocks hM (congrArg (a₁ := (((2 : Int32) * (x8 + x9)), M35)) Prod.fst (Option.some.inj h)) (congrArg (a₁ := (((2 : Int32) * (x8 + x9)), M35)) (fun z => Em ad cI cZ z.2) (Option.some.inj h)) dX5_rate_205
                    · replace h := (if_pos c38).symm.trans h
                      refine lv_iload hx hb dX5_rate_163 (lv_at hl 0 rfl) ?_
                      refine lv_goto (tgt := 205) hx hb dX5_rate_165 (by decide) ?_
                      exact m_iret hx hb hr hlocks hM (congrArg (a₁ := ((x10 - x7.1), M35)) Prod.fst (Option.some.inj h)) (congrArg (a₁ := ((x10 - x7.1), M35)) (fun z => Em ad cI cZ z.2) (Option.some.inj h)) dX5_rate_205
                  · replace h := (if_pos c37).symm.trans h
                    refine lv_iload hx hb dX5_rate_153 (lv_at hl 1 rfl) ?_
                    refine lv_goto (tgt := 205) hx hb dX5_rate_155 (by decide) ?_
                    exact m_iret hx hb hr hlocks hM (congrArg (a₁ := ((x8 + x9), M35)) Prod.fst (Option.some.inj h)) (congrArg (a₁ := ((x8 + x9), M35)) (fun z => Em ad cI cZ z.2) (Option.some.inj h)) dX5_rate_205
                · replace h := (if_pos c36).symm.trans h
                  refine lv_aload_n hx hb dX5_rate_139 rfl (lv_at hl 3 rfl) ?_
                  refine m_get hx hb hts hown hKv hM (fun _ h => List.mem_cons_of_mem _ (List.mem_append_right _ (h))) (by decide) at_X5 rfl 9 (by decide) k3 (v := .ref (ad 2)) rfl dX5_rate_140 ?_
                  refine lv_iload_n hx hb dX5_rate_143 rfl (lv_at hl 5 rfl) ?_
                  obtain ⟨x43, hx43, h⟩ := Option.bind_eq_some_iff.mp h
                  refine m_iald hx hb hKv hM (by decide) at_X5_2 0 rfl hx43 dX5_rate_144 ?_
                  refine lv_goto (tgt := 205) hx hb dX5_rate_145 (by decide) ?_
                  exact m_iret hx hb hr hlocks hM (congrArg (a₁ := (x43, M35)) Prod.fst (Option.some.inj h)) (congrArg (a₁ := (x43, M35)) (fun z => Em ad cI cZ z.2) (Option.some.inj h)) dX5_rate_205
            · replace h := (if_pos c14).symm.trans h
              refine lv_ldc2 (v := (101 : Int64)) hx hb hown k8 dX5_rate_100 ?_
              refine lv_goto (tgt := 131) hx hb dX5_rate_103 (by decide) ?_
              refine lv_ladd hx hb dX5_rate_131 ?_
              obtain ⟨M44, hM44, h⟩ := Option.bind_eq_some_iff.mp h
              refine m_put hx hb hts hown hKv hM (fun _ h => List.mem_cons_of_mem _ (List.mem_append_right _ (h))) tyX5 tyX5_ok nmX5 (by decide) at_X5 rfl 1 (by decide) k4 rfl rfl rfl (Nat.le_of_ble_eq_true rfl) (pt_X5_1 (Option.some.inj hM44)) dX5_rate_132 (fun H locs hM => ?_)
              refine lv_iload_n hx hb dX5_rate_135 rfl (lv_at hl 4 rfl) ?_
              refine lv_if_ne (tgt := 148) hx hb dX5_rate_136 (by decide) (fun c45 => ?_) (fun c45 => ?_)
              · replace h := (if_neg c45).symm.trans h
                refine lv_iload_n hx hb dX5_rate_148 rfl (lv_at hl 4 rfl) ?_
                refine lv_iconst (v := (1 : Int32)) hx hb dX5_rate_149 (by decide) ?_
                refine lv_icmp_ne (tgt := 158) hx hb dX5_rate_150 (by decide) (fun c46 => ?_) (fun c46 => ?_)
                · replace h := (if_neg c46).symm.trans h
                  refine lv_iload_n hx hb dX5_rate_158 rfl (lv_at hl 4 rfl) ?_
                  refine lv_iconst (v := (2 : Int32)) hx hb dX5_rate_159 (by decide) ?_
                  refine lv_icmp_ne (tgt := 168) hx hb dX5_rate_160 (by decide) (fun c47 => ?_) (fun c47 => ?_)
                  · replace h := (if_neg c47).symm.trans h
                    refine lv_iload_n hx hb dX5_rate_168 rfl (lv_at hl 4 rfl) ?_
                    refine lv_iconst (v := (3 : Int32)) hx hb dX5_rate_169 (by decide) ?_
                    refine lv_icmp_ne (tgt := 180) hx hb dX5_rate_170 (by decide) (fun c48 => ?_) (fun c48 => ?_)
                    · replace h := (if_neg c48).symm.trans h
                      refine lv_iload_n hx hb dX5_rate_180 rfl (lv_at hl 4 rfl) ?_
                      refine lv_iconst (v := (4 : Int32)) hx hb dX5_rate_181 (by decide) ?_
                      refine lv_icmp_ne (tgt := 192) hx hb dX5_rate_182 (by decide) (fun c49 => ?_) (fun c49 => ?_)
                      · replace h := (if_neg c49).symm.trans h
                        refine lv_aload_n hx hb dX5_rate_192 rfl (lv_at hl 3 rfl) ?_
                        refine m_get hx hb hts hown hKv hM (fun _ h => List.mem_cons_of_mem _ (List.mem_append_right _ (h))) (by decide) at_X5 rfl 9 (by decide) k3 (v := .ref (ad 2)) rfl dX5_rate_193 ?_
                        refine lv_iload_n hx hb dX5_rate_196 rfl (lv_at hl 5 rfl) ?_
                        obtain ⟨x50, hx50, h⟩ := Option.bind_eq_some_iff.mp h
                        refine m_iald hx hb hKv hM (by decide) at_X5_2 0 rfl hx50 dX5_rate_197 ?_
                        refine lv_aload_n hx hb dX5_rate_198 rfl (lv_at hl 3 rfl) ?_
                        refine m_get hx hb hts hown hKv hM (fun _ h => List.mem_cons_of_mem _ (List.mem_append_right _ (h))) (by decide) at_X5 rfl 22 (by decide) k2 (v := .ref (ad 9)) rfl dX5_rate_199 ?_
                        refine lv_iconst (v := (0 : Int32)) hx hb dX5_rate_202 (by decide) ?_
                        obtain ⟨x51, hx51, h⟩ := Option.bind_eq_some_iff.mp h
                        refine m_iald hx hb hKv hM (by decide) at_X5_9 0 rfl hx51 dX5_rate_203 ?_
                        refine lv_iadd hx hb dX5_rate_204 ?_
                        exact m_iret hx hb hr hlocks hM (congrArg (a₁ := ((x50 + x51), M44)) Prod.fst (Option.some.inj h)) (congrArg (a₁ := ((x50 + x51), M44)) (fun z => Em ad cI cZ z.2) (Option.some.inj h)) dX5_rate_205
                      · replace h := (if_pos c49).symm.trans h
                        refine lv_iload hx hb dX5_rate_185 (lv_at hl 0 rfl) ?_
                        refine lv_iload_n hx hb dX5_rate_187 rfl (lv_at hl 5 rfl) ?_
                        refine lv_iadd hx hb dX5_rate_188 ?_
                        refine lv_goto (tgt := 205) hx hb dX5_rate_189 (by decide) ?_
                        exact m_iret hx hb hr hlocks hM (congrArg (a₁ := (((x10 - x7.1) + a2), M44)) Prod.fst (Option.some.inj h)) (congrArg (a₁ := (((x10 - x7.1) + a2), M44)) (fun z => Em ad cI cZ z.2) (Option.some.inj h)) dX5_rate_205
                    · replace h := (if_pos c48).symm.trans h
                      refine lv_iconst (v := (2 : Int32)) hx hb dX5_rate_173 (by decide) ?_
                      refine lv_iload hx hb dX5_rate_174 (lv_at hl 1 rfl) ?_
                      refine lv_imul hx hb dX5_rate_176 ?_
                      refine lv_goto (tgt := 205) hx hb dX5_rate_177 (by decide) ?_
                      exact m_iret hx hb hr hlocks hM (congrArg (a₁ := (((2 : Int32) * (x8 + x9)), M44)) Prod.fst (Option.some.inj h)) (congrArg (a₁ := (((2 : Int32) * (x8 + x9)), M44)) (fun z => Em ad cI cZ z.2) (Option.some.inj h)) dX5_rate_205
                  · replace h := (if_pos c47).symm.trans h
                    refine lv_iload hx hb dX5_rate_163 (lv_at hl 0 rfl) ?_
                    refine lv_goto (tgt := 205) hx hb dX5_rate_165 (by decide) ?_
                    exact m_iret hx hb hr hlocks hM (congrArg (a₁ := ((x10 - x7.1), M44)) Prod.fst (Option.some.inj h)) (congrArg (a₁ := ((x10 - x7.1), M44)) (fun z => Em ad cI cZ z.2) (Option.some.inj h)) dX5_rate_205
                · replace h := (if_pos c46).symm.trans h
                  refine lv_iload hx hb dX5_rate_153 (lv_at hl 1 rfl) ?_
                  refine lv_goto (tgt := 205) hx hb dX5_rate_155 (by decide) ?_
                  exact m_iret hx hb hr hlocks hM (congrArg (a₁ := ((x8 + x9), M44)) Prod.fst (Option.some.inj h)) (congrArg (a₁ := ((x8 + x9), M44)) (fun z => Em ad cI cZ z.2) (Option.some.inj h)) dX5_rate_205
              · replace h := (if_pos c45).symm.trans h
                refine lv_aload_n hx hb dX5_rate_139 rfl (lv_at hl 3 rfl) ?_
                refine m_get hx hb hts hown hKv hM (fun _ h => List.mem_cons_of_mem _ (List.mem_append_right _ (h))) (by decide) at_X5 rfl 9 (by decide) k3 (v := .ref (ad 2)) rfl dX5_rate_140 ?_
                refine lv_iload_n hx hb dX5_rate_143 rfl (lv_at hl 5 rfl) ?_
                obtain ⟨x52, hx52, h⟩ := Option.bind_eq_some_iff.mp h
                refine m_iald hx hb hKv hM (by decide) at_X5_2 0 rfl hx52 dX5_rate_144 ?_
                refine lv_goto (tgt := 205) hx hb dX5_rate_145 (by decide) ?_
                exact m_iret hx hb hr hlocks hM (congrArg (a₁ := (x52, M44)) Prod.fst (Option.some.inj h)) (congrArg (a₁ := (x52, M44)) (fun z => Em ad cI cZ z.2) (Option.some.inj h)) dX5_rate_205
          · replace h := (if_pos c13).symm.trans h
            refine lv_ldc2 (v := (11 : Int64)) hx hb hown k9 dX5_rate_89 ?_
            refine lv_goto (tgt := 131) hx hb dX5_rate_92 (by decide) ?_
            refine lv_ladd hx hb dX5_rate_131 ?_
            obtain ⟨M53, hM53, h⟩ := Option.bind_eq_some_iff.mp h
            refine m_put hx hb hts hown hKv hM (fun _ h => List.mem_cons_of_mem _ (List.mem_append_right _ (h))) tyX5 tyX5_ok nmX5 (by decide) at_X5 rfl 1 (by decide) k4 rfl rfl rfl (Nat.le_of_ble_eq_true rfl) (pt_X5_1 (Option.some.inj hM53)) dX5_rate_132 (fun H locs hM => ?_)
            refine lv_iload_n hx hb dX5_rate_135 rfl (lv_at hl 4 rfl) ?_
            refine lv_if_ne (tgt := 148) hx hb dX5_rate_136 (by decide) (fun c54 => ?_) (fun c54 => ?_)
            · replace h := (if_neg c54).symm.trans h
              refine lv_iload_n hx hb dX5_rate_148 rfl (lv_at hl 4 rfl) ?_
              refine lv_iconst (v := (1 : Int32)) hx hb dX5_rate_149 (by decide) ?_
              refine lv_icmp_ne (tgt := 158) hx hb dX5_rate_150 (by decide) (fun c55 => ?_) (fun c55 => ?_)
              · replace h := (if_neg c55).symm.trans h
                refine lv_iload_n hx hb dX5_rate_158 rfl (lv_at hl 4 rfl) ?_
                refine lv_iconst (v := (2 : Int32)) hx hb dX5_rate_159 (by decide) ?_
                refine lv_icmp_ne (tgt := 168) hx hb dX5_rate_160 (by decide) (fun c56 => ?_) (fun c56 => ?_)
                · replace h := (if_neg c56).symm.trans h
                  refine lv_iload_n hx hb dX5_rate_168 rfl (lv_at hl 4 rfl) ?_
                  refine lv_iconst (v := (3 : Int32)) hx hb dX5_rate_169 (by decide) ?_
                  refine lv_icmp_ne (tgt := 180) hx hb dX5_rate_170 (by decide) (fun c57 => ?_) (fun c57 => ?_)
                  · replace h := (if_neg c57).symm.trans h
                    refine lv_iload_n hx hb dX5_rate_180 rfl (lv_at hl 4 rfl) ?_
                    refine lv_iconst (v := (4 : Int32)) hx hb dX5_rate_181 (by decide) ?_
                    refine lv_icmp_ne (tgt := 192) hx hb dX5_rate_182 (by decide) (fun c58 => ?_) (fun c58 => ?_)
                    · replace h := (if_neg c58).symm.trans h
                      refine lv_aload_n hx hb dX5_rate_192 rfl (lv_at hl 3 rfl) ?_
                      refine m_get hx hb hts hown hKv hM (fun _ h => List.mem_cons_of_mem _ (List.mem_append_right _ (h))) (by decide) at_X5 rfl 9 (by decide) k3 (v := .ref (ad 2)) rfl dX5_rate_193 ?_
                      refine lv_iload_n hx hb dX5_rate_196 rfl (lv_at hl 5 rfl) ?_
                      obtain ⟨x59, hx59, h⟩ := Option.bind_eq_some_iff.mp h
                      refine m_iald hx hb hKv hM (by decide) at_X5_2 0 rfl hx59 dX5_rate_197 ?_
                      refine lv_aload_n hx hb dX5_rate_198 rfl (lv_at hl 3 rfl) ?_
                      refine m_get hx hb hts hown hKv hM (fun _ h => List.mem_cons_of_mem _ (List.mem_append_right _ (h))) (by decide) at_X5 rfl 22 (by decide) k2 (v := .ref (ad 9)) rfl dX5_rate_199 ?_
                      refine lv_iconst (v := (0 : Int32)) hx hb dX5_rate_202 (by decide) ?_
                      obtain ⟨x60, hx60, h⟩ := Option.bind_eq_some_iff.mp h
                      refine m_iald hx hb hKv hM (by decide) at_X5_9 0 rfl hx60 dX5_rate_203 ?_
                      refine lv_iadd hx hb dX5_rate_204 ?_
                      exact m_iret hx hb hr hlocks hM (congrArg (a₁ := ((x59 + x60), M53)) Prod.fst (Option.some.inj h)) (congrArg (a₁ := ((x59 + x60), M53)) (fun z => Em ad cI cZ z.2) (Option.some.inj h)) dX5_rate_205
                    · replace h := (if_pos c58).symm.trans h
                      refine lv_iload hx hb dX5_rate_185 (lv_at hl 0 rfl) ?_
                      refine lv_iload_n hx hb dX5_rate_187 rfl (lv_at hl 5 rfl) ?_
                      refine lv_iadd hx hb dX5_rate_188 ?_
                      refine lv_goto (tgt := 205) hx hb dX5_rate_189 (by decide) ?_
                      exact m_iret hx hb hr hlocks hM (congrArg (a₁ := (((x10 - x7.1) + a2), M53)) Prod.fst (Option.some.inj h)) (congrArg (a₁ := (((x10 - x7.1) + a2), M53)) (fun z => Em ad cI cZ z.2) (Option.some.inj h)) dX5_rate_205
                  · replace h := (if_pos c57).symm.trans h
                    refine lv_iconst (v := (2 : Int32)) hx hb dX5_rate_173 (by decide) ?_
                    refine lv_iload hx hb dX5_rate_174 (lv_at hl 1 rfl) ?_
                    refine lv_imul hx hb dX5_rate_176 ?_
                    refine lv_goto (tgt := 205) hx hb dX5_rate_177 (by decide) ?_
                    exact m_iret hx hb hr hlocks hM (congrArg (a₁ := (((2 : Int32) * (x8 + x9)), M53)) Prod.fst (Option.some.inj h)) (congrArg (a₁ := (((2 : Int32) * (x8 + x9)), M53)) (fun z => Em ad cI cZ z.2) (Option.some.inj h)) dX5_rate_205
                · replace h := (if_pos c56).symm.trans h
                  refine lv_iload hx hb dX5_rate_163 (lv_at hl 0 rfl) ?_
                  refine lv_goto (tgt := 205) hx hb dX5_rate_165 (by decide) ?_
                  exact m_iret hx hb hr hlocks hM (congrArg (a₁ := ((x10 - x7.1), M53)) Prod.fst (Option.some.inj h)) (congrArg (a₁ := ((x10 - x7.1), M53)) (fun z => Em ad cI cZ z.2) (Option.some.inj h)) dX5_rate_205
              · replace h := (if_pos c55).symm.trans h
                refine lv_iload hx hb dX5_rate_153 (lv_at hl 1 rfl) ?_
                refine lv_goto (tgt := 205) hx hb dX5_rate_155 (by decide) ?_
                exact m_iret hx hb hr hlocks hM (congrArg (a₁ := ((x8 + x9), M53)) Prod.fst (Option.some.inj h)) (congrArg (a₁ := ((x8 + x9), M53)) (fun z => Em ad cI cZ z.2) (Option.some.inj h)) dX5_rate_205
            · replace h := (if_pos c54).symm.trans h
              refine lv_aload_n hx hb dX5_rate_139 rfl (lv_at hl 3 rfl) ?_
              refine m_get hx hb hts hown hKv hM (fun _ h => List.mem_cons_of_mem _ (List.mem_append_right _ (h))) (by decide) at_X5 rfl 9 (by decide) k3 (v := .ref (ad 2)) rfl dX5_rate_140 ?_
              refine lv_iload_n hx hb dX5_rate_143 rfl (lv_at hl 5 rfl) ?_
              obtain ⟨x61, hx61, h⟩ := Option.bind_eq_some_iff.mp h
              refine m_iald hx hb hKv hM (by decide) at_X5_2 0 rfl hx61 dX5_rate_144 ?_
              refine lv_goto (tgt := 205) hx hb dX5_rate_145 (by decide) ?_
              exact m_iret hx hb hr hlocks hM (congrArg (a₁ := (x61, M53)) Prod.fst (Option.some.inj h)) (congrArg (a₁ := (x61, M53)) (fun z => Em ad cI cZ z.2) (Option.some.inj h)) dX5_rate_205
        · replace h := (if_pos c12).symm.trans h
          refine lv_lconst (v := (1 : Int64)) hx hb dX5_rate_80 rfl ?_
          refine lv_goto (tgt := 131) hx hb dX5_rate_81 (by decide) ?_
          refine lv_ladd hx hb dX5_rate_131 ?_
          obtain ⟨M62, hM62, h⟩ := Option.bind_eq_some_iff.mp h
          refine m_put hx hb hts hown hKv hM (fun _ h => List.mem_cons_of_mem _ (List.mem_append_right _ (h))) tyX5 tyX5_ok nmX5 (by decide) at_X5 rfl 1 (by decide) k4 rfl rfl rfl (Nat.le_of_ble_eq_true rfl) (pt_X5_1 (Option.some.inj hM62)) dX5_rate_132 (fun H locs hM => ?_)
          refine lv_iload_n hx hb dX5_rate_135 rfl (lv_at hl 4 rfl) ?_
          refine lv_if_ne (tgt := 148) hx hb dX5_rate_136 (by decide) (fun c63 => ?_) (fun c63 => ?_)
          · replace h := (if_neg c63).symm.trans h
            refine lv_iload_n hx hb dX5_rate_148 rfl (lv_at hl 4 rfl) ?_
            refine lv_iconst (v := (1 : Int32)) hx hb dX5_rate_149 (by decide) ?_
            refine lv_icmp_ne (tgt := 158) hx hb dX5_rate_150 (by decide) (fun c64 => ?_) (fun c64 => ?_)
            · replace h := (if_neg c64).symm.trans h
              refine lv_iload_n hx hb dX5_rate_158 rfl (lv_at hl 4 rfl) ?_
              refine lv_iconst (v := (2 : Int32)) hx hb dX5_rate_159 (by decide) ?_
              refine lv_icmp_ne (tgt := 168) hx hb dX5_rate_160 (by decide) (fun c65 => ?_) (fun c65 => ?_)
              · replace h := (if_neg c65).symm.trans h
                refine lv_iload_n hx hb dX5_rate_168 rfl (lv_at hl 4 rfl) ?_
                refine lv_iconst (v := (3 : Int32)) hx hb dX5_rate_169 (by decide) ?_
                refine lv_icmp_ne (tgt := 180) hx hb dX5_rate_170 (by decide) (fun c66 => ?_) (fun c66 => ?_)
                · replace h := (if_neg c66).symm.trans h
                  refine lv_iload_n hx hb dX5_rate_180 rfl (lv_at hl 4 rfl) ?_
                  refine lv_iconst (v := (4 : Int32)) hx hb dX5_rate_181 (by decide) ?_
                  refine lv_icmp_ne (tgt := 192) hx hb dX5_rate_182 (by decide) (fun c67 => ?_) (fun c67 => ?_)
                  · replace h := (if_neg c67).symm.trans h
                    refine lv_aload_n hx hb dX5_rate_192 rfl (lv_at hl 3 rfl) ?_
                    refine m_get hx hb hts hown hKv hM (fun _ h => List.mem_cons_of_mem _ (List.mem_append_right _ (h))) (by decide) at_X5 rfl 9 (by decide) k3 (v := .ref (ad 2)) rfl dX5_rate_193 ?_
                    refine lv_iload_n hx hb dX5_rate_196 rfl (lv_at hl 5 rfl) ?_
                    obtain ⟨x68, hx68, h⟩ := Option.bind_eq_some_iff.mp h
                    refine m_iald hx hb hKv hM (by decide) at_X5_2 0 rfl hx68 dX5_rate_197 ?_
                    refine lv_aload_n hx hb dX5_rate_198 rfl (lv_at hl 3 rfl) ?_
                    refine m_get hx hb hts hown hKv hM (fun _ h => List.mem_cons_of_mem _ (List.mem_append_right _ (h))) (by decide) at_X5 rfl 22 (by decide) k2 (v := .ref (ad 9)) rfl dX5_rate_199 ?_
                    refine lv_iconst (v := (0 : Int32)) hx hb dX5_rate_202 (by decide) ?_
                    obtain ⟨x69, hx69, h⟩ := Option.bind_eq_some_iff.mp h
                    refine m_iald hx hb hKv hM (by decide) at_X5_9 0 rfl hx69 dX5_rate_203 ?_
                    refine lv_iadd hx hb dX5_rate_204 ?_
                    exact m_iret hx hb hr hlocks hM (congrArg (a₁ := ((x68 + x69), M62)) Prod.fst (Option.some.inj h)) (congrArg (a₁ := ((x68 + x69), M62)) (fun z => Em ad cI cZ z.2) (Option.some.inj h)) dX5_rate_205
                  · replace h := (if_pos c67).symm.trans h
                    refine lv_iload hx hb dX5_rate_185 (lv_at hl 0 rfl) ?_
                    refine lv_iload_n hx hb dX5_rate_187 rfl (lv_at hl 5 rfl) ?_
                    refine lv_iadd hx hb dX5_rate_188 ?_
                    refine lv_goto (tgt := 205) hx hb dX5_rate_189 (by decide) ?_
                    exact m_iret hx hb hr hlocks hM (congrArg (a₁ := (((x10 - x7.1) + a2), M62)) Prod.fst (Option.some.inj h)) (congrArg (a₁ := (((x10 - x7.1) + a2), M62)) (fun z => Em ad cI cZ z.2) (Option.some.inj h)) dX5_rate_205
                · replace h := (if_pos c66).symm.trans h
                  refine lv_iconst (v := (2 : Int32)) hx hb dX5_rate_173 (by decide) ?_
                  refine lv_iload hx hb dX5_rate_174 (lv_at hl 1 rfl) ?_
                  refine lv_imul hx hb dX5_rate_176 ?_
                  refine lv_goto (tgt := 205) hx hb dX5_rate_177 (by decide) ?_
                  exact m_iret hx hb hr hlocks hM (congrArg (a₁ := (((2 : Int32) * (x8 + x9)), M62)) Prod.fst (Option.some.inj h)) (congrArg (a₁ := (((2 : Int32) * (x8 + x9)), M62)) (fun z => Em ad cI cZ z.2) (Option.some.inj h)) dX5_rate_205
              · replace h := (if_pos c65).symm.trans h
                refine lv_iload hx hb dX5_rate_163 (lv_at hl 0 rfl) ?_
                refine lv_goto (tgt := 205) hx hb dX5_rate_165 (by decide) ?_
                exact m_iret hx hb hr hlocks hM (congrArg (a₁ := ((x10 - x7.1), M62)) Prod.fst (Option.some.inj h)) (congrArg (a₁ := ((x10 - x7.1), M62)) (fun z => Em ad cI cZ z.2) (Option.some.inj h)) dX5_rate_205
            · replace h := (if_pos c64).symm.trans h
              refine lv_iload hx hb dX5_rate_153 (lv_at hl 1 rfl) ?_
              refine lv_goto (tgt := 205) hx hb dX5_rate_155 (by decide) ?_
              exact m_iret hx hb hr hlocks hM (congrArg (a₁ := ((x8 + x9), M62)) Prod.fst (Option.some.inj h)) (congrArg (a₁ := ((x8 + x9), M62)) (fun z => Em ad cI cZ z.2) (Option.some.inj h)) dX5_rate_205
          · replace h := (if_pos c63).symm.trans h
            refine lv_aload_n hx hb dX5_rate_139 rfl (lv_at hl 3 rfl) ?_
            refine m_get hx hb hts hown hKv hM (fun _ h => List.mem_cons_of_mem _ (List.mem_append_right _ (h))) (by decide) at_X5 rfl 9 (by decide) k3 (v := .ref (ad 2)) rfl dX5_rate_140 ?_
            refine lv_iload_n hx hb dX5_rate_143 rfl (lv_at hl 5 rfl) ?_
            obtain ⟨x70, hx70, h⟩ := Option.bind_eq_some_iff.mp h
            refine m_iald hx hb hKv hM (by decide) at_X5_2 0 rfl hx70 dX5_rate_144 ?_
            refine lv_goto (tgt := 205) hx hb dX5_rate_145 (by decide) ?_
            exact m_iret hx hb hr hlocks hM (congrArg (a₁ := (x70, M62)) Prod.fst (Option.some.inj h)) (congrArg (a₁ := (x70, M62)) (fun z => Em ad cI cZ z.2) (Option.some.inj h)) dX5_rate_205
      · replace h := (if_pos c11).symm.trans h
        refine lv_iconst (v := (0 : Int32)) hx hb dX5_rate_63 (by decide) ?_
        refine lv_goto (tgt := 68) hx hb dX5_rate_64 (by decide) ?_
        refine lv_isub hx hb dX5_rate_68 ?_
        refine lv_istore (lv' := [(5, .int (x10 - (0 : Int32))), (4, .int (x8 + x9)), (3, .int x7.1), (0, .ref (ad 0)), (1, .int a1), (2, .int a2)]) hx hb dX5_rate_69 hl (by decide) rfl (fun ls hl => ?_)
        refine lv_aload_n hx hb dX5_rate_71 rfl (lv_at hl 3 rfl) ?_
        refine lv_dup hx hb dX5_rate_72 rfl ?_
        refine m_get hx hb hts hown hKv hM (fun _ h => List.mem_cons_of_mem _ (List.mem_append_right _ (h))) (by decide) at_X5 rfl 1 (by decide) k4 (v := .long x7.2.2) rfl dX5_rate_73 ?_
        refine lv_iload_n hx hb dX5_rate_76 rfl (lv_at hl 4 rfl) ?_
        refine lv_if_ne (tgt := 84) hx hb dX5_rate_77 (by decide) (fun c71 => ?_) (fun c71 => ?_)
        · replace h := (if_neg c71).symm.trans h
          refine lv_iload_n hx hb dX5_rate_84 rfl (lv_at hl 4 rfl) ?_
          refine lv_iconst (v := (1 : Int32)) hx hb dX5_rate_85 (by decide) ?_
          refine lv_icmp_ne (tgt := 95) hx hb dX5_rate_86 (by decide) (fun c72 => ?_) (fun c72 => ?_)
          · replace h := (if_neg c72).symm.trans h
            refine lv_iload_n hx hb dX5_rate_95 rfl (lv_at hl 4 rfl) ?_
            refine lv_iconst (v := (2 : Int32)) hx hb dX5_rate_96 (by decide) ?_
            refine lv_icmp_ne (tgt := 106) hx hb dX5_rate_97 (by decide) (fun c73 => ?_) (fun c73 => ?_)
            · replace h := (if_neg c73).symm.trans h
              refine lv_iload_n hx hb dX5_rate_106 rfl (lv_at hl 4 rfl) ?_
              refine lv_iconst (v := (3 : Int32)) hx hb dX5_rate_107 (by decide) ?_
              refine lv_icmp_ne (tgt := 117) hx hb dX5_rate_108 (by decide) (fun c74 => ?_) (fun c74 => ?_)
              · replace h := (if_neg c74).symm.trans h
                refine lv_iload_n hx hb dX5_rate_117 rfl (lv_at hl 4 rfl) ?_
                refine lv_iconst (v := (4 : Int32)) hx hb dX5_rate_118 (by decide) ?_
                refine lv_icmp_ne (tgt := 128) hx hb dX5_rate_119 (by decide) (fun c75 => ?_) (fun c75 => ?_)
                · replace h := (if_neg c75).symm.trans h
                  refine lv_ldc2 (v := (100001 : Int64)) hx hb hown k5 dX5_rate_128 ?_
                  refine lv_ladd hx hb dX5_rate_131 ?_
                  obtain ⟨M76, hM76, h⟩ := Option.bind_eq_some_iff.mp h
                  refine m_put hx hb hts hown hKv hM (fun _ h => List.mem_cons_of_mem _ (List.mem_append_right _ (h))) tyX5 tyX5_ok nmX5 (by decide) at_X5 rfl 1 (by decide) k4 rfl rfl rfl (Nat.le_of_ble_eq_true rfl) (pt_X5_1 (Option.some.inj hM76)) dX5_rate_132 (fun H locs hM => ?_)
                  refine lv_iload_n hx hb dX5_rate_135 rfl (lv_at hl 4 rfl) ?_
                  refine lv_if_ne (tgt := 148) hx hb dX5_rate_136 (by decide) (fun c77 => ?_) (fun c77 => ?_)
                  · replace h := (if_neg c77).symm.trans h
                    refine lv_iload_n hx hb dX5_rate_148 rfl (lv_at hl 4 rfl) ?_
                    refine lv_iconst (v := (1 : Int32)) hx hb dX5_rate_149 (by decide) ?_
                    refine lv_icmp_ne (tgt := 158) hx hb dX5_rate_150 (by decide) (fun c78 => ?_) (fun c78 => ?_)
                    · replace h := (if_neg c78).symm.trans h
                      refine lv_iload_n hx hb dX5_rate_158 rfl (lv_at hl 4 rfl) ?_
                      refine lv_iconst (v := (2 : Int32)) hx hb dX5_rate_159 (by decide) ?_
                      refine lv_icmp_ne (tgt := 168) hx hb dX5_rate_160 (by decide) (fun c79 => ?_) (fun c79 => ?_)
                      · replace h := (if_neg c79).symm.trans h
                        refine lv_iload_n hx hb dX5_rate_168 rfl (lv_at hl 4 rfl) ?_
                        refine lv_iconst (v := (3 : Int32)) hx hb dX5_rate_169 (by decide) ?_
                        refine lv_icmp_ne (tgt := 180) hx hb dX5_rate_170 (by decide) (fun c80 => ?_) (fun c80 => ?_)
                        · replace h := (if_neg c80).symm.trans h
                          refine lv_iload_n hx hb dX5_rate_180 rfl (lv_at hl 4 rfl) ?_
                          refine lv_iconst (v := (4 : Int32)) hx hb dX5_rate_181 (by decide) ?_
                          refine lv_icmp_ne (tgt := 192) hx hb dX5_rate_182 (by decide) (fun c81 => ?_) (fun c81 => ?_)
                          · replace h := (if_neg c81).symm.trans h
                            refine lv_aload_n hx hb dX5_rate_192 rfl (lv_at hl 3 rfl) ?_
                            refine m_get hx hb hts hown hKv hM (fun _ h => List.mem_cons_of_mem _ (List.mem_append_right _ (h))) (by decide) at_X5 rfl 9 (by decide) k3 (v := .ref (ad 2)) rfl dX5_rate_193 ?_
                            refine lv_iload_n hx hb dX5_rate_196 rfl (lv_at hl 5 rfl) ?_
                            obtain ⟨x82, hx82, h⟩ := Option.bind_eq_some_iff.mp h
                            refine m_iald hx hb hKv hM (by decide) at_X5_2 0 rfl hx82 dX5_rate_197 ?_
                            refine lv_aload_n hx hb dX5_rate_198 rfl (lv_at hl 3 rfl) ?_
                            refine m_get hx hb hts hown hKv hM (fun _ h => List.mem_cons_of_mem _ (List.mem_append_right _ (h))) (by decide) at_X5 rfl 22 (by decide) k2 (v := .ref (ad 9)) rfl dX5_rate_199 ?_
                            refine lv_iconst (v := (0 : Int32)) hx hb dX5_rate_202 (by decide) ?_
                            obtain ⟨x83, hx83, h⟩ := Option.bind_eq_some_iff.mp h
                            refine m_iald hx hb hKv hM (by decide) at_X5_9 0 rfl hx83 dX5_rate_203 ?_
                            refine lv_iadd hx hb dX5_rate_204 ?_
                            exact m_iret hx hb hr hlocks hM (congrArg (a₁ := ((x82 + x83), M76)) Prod.fst (Option.some.inj h)) (congrArg (a₁ := ((x82 + x83), M76)) (fun z => Em ad cI cZ z.2) (Option.some.inj h)) dX5_rate_205
                          · replace h := (if_pos c81).symm.trans h
                            refine lv_iload hx hb dX5_rate_185 (lv_at hl 0 rfl) ?_
                            refine lv_iload_n hx hb dX5_rate_187 rfl (lv_at hl 5 rfl) ?_
                            refine lv_iadd hx hb dX5_rate_188 ?_
                            refine lv_goto (tgt := 205) hx hb dX5_rate_189 (by decide) ?_
                            exact m_iret hx hb hr hlocks hM (congrArg (a₁ := (((x10 - (0 : Int32)) + a2), M76)) Prod.fst (Option.some.inj h)) (congrArg (a₁ := (((x10 - (0 : Int32)) + a2), M76)) (fun z => Em ad cI cZ z.2) (Option.some.inj h)) dX5_rate_205
                        · replace h := (if_pos c80).symm.trans h
                          refine lv_iconst (v := (2 : Int32)) hx hb dX5_rate_173 (by decide) ?_
                          refine lv_iload hx hb dX5_rate_174 (lv_at hl 1 rfl) ?_
                          refine lv_imul hx hb dX5_rate_176 ?_
                          refine lv_goto (tgt := 205) hx hb dX5_rate_177 (by decide) ?_
                          exact m_iret hx hb hr hlocks hM (congrArg (a₁ := (((2 : Int32) * (x8 + x9)), M76)) Prod.fst (Option.some.inj h)) (congrArg (a₁ := (((2 : Int32) * (x8 + x9)), M76)) (fun z => Em ad cI cZ z.2) (Option.some.inj h)) dX5_rate_205
                      · replace h := (if_pos c79).symm.trans h
                        refine lv_iload hx hb dX5_rate_163 (lv_at hl 0 rfl) ?_
                        refine lv_goto (tgt := 205) hx hb dX5_rate_165 (by decide) ?_
                        exact m_iret hx hb hr hlocks hM (congrArg (a₁ := ((x10 - (0 : Int32)), M76)) Prod.fst (Option.some.inj h)) (congrArg (a₁ := ((x10 - (0 : Int32)), M76)) (fun z => Em ad cI cZ z.2) (Option.some.inj h)) dX5_rate_205
                    · replace h := (if_pos c78).symm.trans h
                      refine lv_iload hx hb dX5_rate_153 (lv_at hl 1 rfl) ?_
                      refine lv_goto (tgt := 205) hx hb dX5_rate_155 (by decide) ?_
                      exact m_iret hx hb hr hlocks hM (congrArg (a₁ := ((x8 + x9), M76)) Prod.fst (Option.some.inj h)) (congrArg (a₁ := ((x8 + x9), M76)) (fun z => Em ad cI cZ z.2) (Option.some.inj h)) dX5_rate_205
                  · replace h := (if_pos c77).symm.trans h
                    refine lv_aload_n hx hb dX5_rate_139 rfl (lv_at hl 3 rfl) ?_
                    refine m_get hx hb hts hown hKv hM (fun _ h => List.mem_cons_of_mem _ (List.mem_append_right _ (h))) (by decide) at_X5 rfl 9 (by decide) k3 (v := .ref (ad 2)) rfl dX5_rate_140 ?_
                    refine lv_iload_n hx hb dX5_rate_143 rfl (lv_at hl 5 rfl) ?_
                    obtain ⟨x84, hx84, h⟩ := Option.bind_eq_some_iff.mp h
                    refine m_iald hx hb hKv hM (by decide) at_X5_2 0 rfl hx84 dX5_rate_144 ?_
                    refine lv_goto (tgt := 205) hx hb dX5_rate_145 (by decide) ?_
                    exact m_iret hx hb hr hlocks hM (congrArg (a₁ := (x84, M76)) Prod.fst (Option.some.inj h)) (congrArg (a₁ := (x84, M76)) (fun z => Em ad cI cZ z.2) (Option.some.inj h)) dX5_rate_205
                · replace h := (if_pos c75).symm.trans h
                  refine lv_ldc2 (v := (10101 : Int64)) hx hb hown k6 dX5_rate_122 ?_
                  refine lv_goto (tgt := 131) hx hb dX5_rate_125 (by decide) ?_
                  refine lv_ladd hx hb dX5_rate_131 ?_
                  obtain ⟨M85, hM85, h⟩ := Option.bind_eq_some_iff.mp h
                  refine m_put hx hb hts hown hKv hM (fun _ h => List.mem_cons_of_mem _ (List.mem_append_right _ (h))) tyX5 tyX5_ok nmX5 (by decide) at_X5 rfl 1 (by decide) k4 rfl rfl rfl (Nat.le_of_ble_eq_true rfl) (pt_X5_1 (Option.some.inj hM85)) dX5_rate_132 (fun H locs hM => ?_)
                  refine lv_iload_n hx hb dX5_rate_135 rfl (lv_at hl 4 rfl) ?_
                  refine lv_if_ne (tgt := 148) hx hb dX5_rate_136 (by decide) (fun c86 => ?_) (fun c86 => ?_)
                  · replace h := (if_neg c86).symm.trans h
                    refine lv_iload_n hx hb dX5_rate_148 rfl (lv_at hl 4 rfl) ?_
                    refine lv_iconst (v := (1 : Int32)) hx hb dX5_rate_149 (by decide) ?_
                    refine lv_icmp_ne (tgt := 158) hx hb dX5_rate_150 (by decide) (fun c87 => ?_) (fun c87 => ?_)
                    · replace h := (if_neg c87).symm.trans h
                      refine lv_iload_n hx hb dX5_rate_158 rfl (lv_at hl 4 rfl) ?_
                      refine lv_iconst (v := (2 : Int32)) hx hb dX5_rate_159 (by decide) ?_
                      refine lv_icmp_ne (tgt := 168) hx hb dX5_rate_160 (by decide) (fun c88 => ?_) (fun c88 => ?_)
                      · replace h := (if_neg c88).symm.trans h
                        refine lv_iload_n hx hb dX5_rate_168 rfl (lv_at hl 4 rfl) ?_
                        refine lv_iconst (v := (3 : Int32)) hx hb dX5_rate_169 (by decide) ?_
                        refine lv_icmp_ne (tgt := 180) hx hb dX5_rate_170 (by decide) (fun c89 => ?_) (fun c89 => ?_)
                        · replace h := (if_neg c89).symm.trans h
                          refine lv_iload_n hx hb dX5_rate_180 rfl (lv_at hl 4 rfl) ?_
                          refine lv_iconst (v := (4 : Int32)) hx hb dX5_rate_181 (by decide) ?_
                          refine lv_icmp_ne (tgt := 192) hx hb dX5_rate_182 (by decide) (fun c90 => ?_) (fun c90 => ?_)
                          · replace h := (if_neg c90).symm.trans h
                            refine lv_aload_n hx hb dX5_rate_192 rfl (lv_at hl 3 rfl) ?_
                            refine m_get hx hb hts hown hKv hM (fun _ h => List.mem_cons_of_mem _ (List.mem_append_right _ (h))) (by decide) at_X5 rfl 9 (by decide) k3 (v := .ref (ad 2)) rfl dX5_rate_193 ?_
                            refine lv_iload_n hx hb dX5_rate_196 rfl (lv_at hl 5 rfl) ?_
                            obtain ⟨x91, hx91, h⟩ := Option.bind_eq_some_iff.mp h
                            refine m_iald hx hb hKv hM (by decide) at_X5_2 0 rfl hx91 dX5_rate_197 ?_
                            refine lv_aload_n hx hb dX5_rate_198 rfl (lv_at hl 3 rfl) ?_
                            refine m_get hx hb hts hown hKv hM (fun _ h => List.mem_cons_of_mem _ (List.mem_append_right _ (h))) (by decide) at_X5 rfl 22 (by decide) k2 (v := .ref (ad 9)) rfl dX5_rate_199 ?_
                            refine lv_iconst (v := (0 : Int32)) hx hb dX5_rate_202 (by decide) ?_
                            obtain ⟨x92, hx92, h⟩ := Option.bind_eq_some_iff.mp h
                            refine m_iald hx hb hKv hM (by decide) at_X5_9 0 rfl hx92 dX5_rate_203 ?_
                            refine lv_iadd hx hb dX5_rate_204 ?_
                            exact m_iret hx hb hr hlocks hM (congrArg (a₁ := ((x91 + x92), M85)) Prod.fst (Option.some.inj h)) (congrArg (a₁ := ((x91 + x92), M85)) (fun z => Em ad cI cZ z.2) (Option.some.inj h)) dX5_rate_205
                          · replace h := (if_pos c90).symm.trans h
                            refine lv_iload hx hb dX5_rate_185 (lv_at hl 0 rfl) ?_
                            refine lv_iload_n hx hb dX5_rate_187 rfl (lv_at hl 5 rfl) ?_
                            refine lv_iadd hx hb dX5_rate_188 ?_
                            refine lv_goto (tgt := 205) hx hb dX5_rate_189 (by decide) ?_
                            exact m_iret hx hb hr hlocks hM (congrArg (a₁ := (((x10 - (0 : Int32)) + a2), M85)) Prod.fst (Option.some.inj h)) (congrArg (a₁ := (((x10 - (0 : Int32)) + a2), M85)) (fun z => Em ad cI cZ z.2) (Option.some.inj h)) dX5_rate_205
                        · replace h := (if_pos c89).symm.trans h
                          refine lv_iconst (v := (2 : Int32)) hx hb dX5_rate_173 (by decide) ?_
                          refine lv_iload hx hb dX5_rate_174 (lv_at hl 1 rfl) ?_
                          refine lv_imul hx hb dX5_rate_176 ?_
                          refine lv_goto (tgt := 205) hx hb dX5_rate_177 (by decide) ?_
                          exact m_iret hx hb hr hlocks hM (congrArg (a₁ := (((2 : Int32) * (x8 + x9)), M85)) Prod.fst (Option.some.inj h)) (congrArg (a₁ := (((2 : Int32) * (x8 + x9)), M85)) (fun z => Em ad cI cZ z.2) (Option.some.inj h)) dX5_rate_205
                      · replace h := (if_pos c88).symm.trans h
                        refine lv_iload hx hb dX5_rate_163 (lv_at hl 0 rfl) ?_
                        refine lv_goto (tgt := 205) hx hb dX5_rate_165 (by decide) ?_
                        exact m_iret hx hb hr hlocks hM (congrArg (a₁ := ((x10 - (0 : Int32)), M85)) Prod.fst (Option.some.inj h)) (congrArg (a₁ := ((x10 - (0 : Int32)), M85)) (fun z => Em ad cI cZ z.2) (Option.some.inj h)) dX5_rate_205
                    · replace h := (if_pos c87).symm.trans h
                      refine lv_iload hx hb dX5_rate_153 (lv_at hl 1 rfl) ?_
                      refine lv_goto (tgt := 205) hx hb dX5_rate_155 (by decide) ?_
                      exact m_iret hx hb hr hlocks hM (congrArg (a₁ := ((x8 + x9), M85)) Prod.fst (Option.some.inj h)) (congrArg (a₁ := ((x8 + x9), M85)) (fun z => Em ad cI cZ z.2) (Option.some.inj h)) dX5_rate_205
                  · replace h := (if_pos c86).symm.trans h
                    refine lv_aload_n hx hb dX5_rate_139 rfl (lv_at hl 3 rfl) ?_
                    refine m_get hx hb hts hown hKv hM (fun _ h => List.mem_cons_of_mem _ (List.mem_append_right _ (h))) (by decide) at_X5 rfl 9 (by decide) k3 (v := .ref (ad 2)) rfl dX5_rate_140 ?_
                    refine lv_iload_n hx hb dX5_rate_143 rfl (lv_at hl 5 rfl) ?_
                    obtain ⟨x93, hx93, h⟩ := Option.bind_eq_some_iff.mp h
                    refine m_iald hx hb hKv hM (by decide) at_X5_2 0 rfl hx93 dX5_rate_144 ?_
                    refine lv_goto (tgt := 205) hx hb dX5_rate_145 (by decide) ?_
                    exact m_iret hx hb hr hlocks hM (congrArg (a₁ := (x93, M85)) Prod.fst (Option.some.inj h)) (congrArg (a₁ := (x93, M85)) (fun z => Em ad cI cZ z.2) (Option.some.inj h)) dX5_rate_205
              · replace h := (if_pos c74).symm.trans h
                refine lv_ldc2 (v := (1011 : Int64)) hx hb hown k7 dX5_rate_111 ?_
                refine lv_goto (tgt := 131) hx hb dX5_rate_114 (by decide) ?_
                refine lv_ladd hx hb dX5_rate_131 ?_
                obtain ⟨M94, hM94, h⟩ := Option.bind_eq_some_iff.mp h
                refine m_put hx hb hts hown hKv hM (fun _ h => List.mem_cons_of_mem _ (List.mem_append_right _ (h))) tyX5 tyX5_ok nmX5 (by decide) at_X5 rfl 1 (by decide) k4 rfl rfl rfl (Nat.le_of_ble_eq_true rfl) (pt_X5_1 (Option.some.inj hM94)) dX5_rate_132 (fun H locs hM => ?_)
                refine lv_iload_n hx hb dX5_rate_135 rfl (lv_at hl 4 rfl) ?_
                refine lv_if_ne (tgt := 148) hx hb dX5_rate_136 (by decide) (fun c95 => ?_) (fun c95 => ?_)
                · replace h := (if_neg c95).symm.trans h
                  refine lv_iload_n hx hb dX5_rate_148 rfl (lv_at hl 4 rfl) ?_
                  refine lv_iconst (v := (1 : Int32)) hx hb dX5_rate_149 (by decide) ?_
                  refine lv_icmp_ne (tgt := 158) hx hb dX5_rate_150 (by decide) (fun c96 => ?_) (fun c96 => ?_)
                  · replace h := (if_neg c96).symm.trans h
                    refine lv_iload_n hx hb dX5_rate_158 rfl (lv_at hl 4 rfl) ?_
                    refine lv_iconst (v := (2 : Int32)) hx hb dX5_rate_159 (by decide) ?_
                    refine lv_icmp_ne (tgt := 168) hx hb dX5_rate_160 (by decide) (fun c97 => ?_) (fun c97 => ?_)
                    · replace h := (if_neg c97).symm.trans h
                      refine lv_iload_n hx hb dX5_rate_168 rfl (lv_at hl 4 rfl) ?_
                      refine lv_iconst (v := (3 : Int32)) hx hb dX5_rate_169 (by decide) ?_
                      refine lv_icmp_ne (tgt := 180) hx hb dX5_rate_170 (by decide) (fun c98 => ?_) (fun c98 => ?_)
                      · replace h := (if_neg c98).symm.trans h
                        refine lv_iload_n hx hb dX5_rate_180 rfl (lv_at hl 4 rfl) ?_
                        refine lv_iconst (v := (4 : Int32)) hx hb dX5_rate_181 (by decide) ?_
                        refine lv_icmp_ne (tgt := 192) hx hb dX5_rate_182 (by decide) (fun c99 => ?_) (fun c99 => ?_)
                        · replace h := (if_neg c99).symm.trans h
                          refine lv_aload_n hx hb dX5_rate_192 rfl (lv_at hl 3 rfl) ?_
                          refine m_get hx hb hts hown hKv hM (fun _ h => List.mem_cons_of_mem _ (List.mem_append_right _ (h))) (by decide) at_X5 rfl 9 (by decide) k3 (v := .ref (ad 2)) rfl dX5_rate_193 ?_
                          refine lv_iload_n hx hb dX5_rate_196 rfl (lv_at hl 5 rfl) ?_
                          obtain ⟨x100, hx100, h⟩ := Option.bind_eq_some_iff.mp h
                          refine m_iald hx hb hKv hM (by decide) at_X5_2 0 rfl hx100 dX5_rate_197 ?_
                          refine lv_aload_n hx hb dX5_rate_198 rfl (lv_at hl 3 rfl) ?_
                          refine m_get hx hb hts hown hKv hM (fun _ h => List.mem_cons_of_mem _ (List.mem_append_right _ (h))) (by decide) at_X5 rfl 22 (by decide) k2 (v := .ref (ad 9)) rfl dX5_rate_199 ?_
                          refine lv_iconst (v := (0 : Int32)) hx hb dX5_rate_202 (by decide) ?_
                          obtain ⟨x101, hx101, h⟩ := Option.bind_eq_some_iff.mp h
                          refine m_iald hx hb hKv hM (by decide) at_X5_9 0 rfl hx101 dX5_rate_203 ?_
                          refine lv_iadd hx hb dX5_rate_204 ?_
                          exact m_iret hx hb hr hlocks hM (congrArg (a₁ := ((x100 + x101), M94)) Prod.fst (Option.some.inj h)) (congrArg (a₁ := ((x100 + x101), M94)) (fun z => Em ad cI cZ z.2) (Option.some.inj h)) dX5_rate_205
                        · replace h := (if_pos c99).symm.trans h
                          refine lv_iload hx hb dX5_rate_185 (lv_at hl 0 rfl) ?_
                          refine lv_iload_n hx hb dX5_rate_187 rfl (lv_at hl 5 rfl) ?_
                          refine lv_iadd hx hb dX5_rate_188 ?_
                          refine lv_goto (tgt := 205) hx hb dX5_rate_189 (by decide) ?_
                          exact m_iret hx hb hr hlocks hM (congrArg (a₁ := (((x10 - (0 : Int32)) + a2), M94)) Prod.fst (Option.some.inj h)) (congrArg (a₁ := (((x10 - (0 : Int32)) + a2), M94)) (fun z => Em ad cI cZ z.2) (Option.some.inj h)) dX5_rate_205
                      · replace h := (if_pos c98).symm.trans h
                        refine lv_iconst (v := (2 : Int32)) hx hb dX5_rate_173 (by decide) ?_
                        refine lv_iload hx hb dX5_rate_174 (lv_at hl 1 rfl) ?_
                        refine lv_imul hx hb dX5_rate_176 ?_
                        refine lv_goto (tgt := 205) hx hb dX5_rate_177 (by decide) ?_
                        exact m_iret hx hb hr hlocks hM (congrArg (a₁ := (((2 : Int32) * (x8 + x9)), M94)) Prod.fst (Option.some.inj h)) (congrArg (a₁ := (((2 : Int32) * (x8 + x9)), M94)) (fun z => Em ad cI cZ z.2) (Option.some.inj h)) dX5_rate_205
                    · replace h := (if_pos c97).symm.trans h
                      refine lv_iload hx hb dX5_rate_163 (lv_at hl 0 rfl) ?_
                      refine lv_goto (tgt := 205) hx hb dX5_rate_165 (by decide) ?_
                      exact m_iret hx hb hr hlocks hM (congrArg (a₁ := ((x10 - (0 : Int32)), M94)) Prod.fst (Option.some.inj h)) (congrArg (a₁ := ((x10 - (0 : Int32)), M94)) (fun z => Em ad cI cZ z.2) (Option.some.inj h)) dX5_rate_205
                  · replace h := (if_pos c96).symm.trans h
                    refine lv_iload hx hb dX5_rate_153 (lv_at hl 1 rfl) ?_
                    refine lv_goto (tgt := 205) hx hb dX5_rate_155 (by decide) ?_
                    exact m_iret hx hb hr hlocks hM (congrArg (a₁ := ((x8 + x9), M94)) Prod.fst (Option.some.inj h)) (congrArg (a₁ := ((x8 + x9), M94)) (fun z => Em ad cI cZ z.2) (Option.some.inj h)) dX5_rate_205
                · replace h := (if_pos c95).symm.trans h
                  refine lv_aload_n hx hb dX5_rate_139 rfl (lv_at hl 3 rfl) ?_
                  refine m_get hx hb hts hown hKv hM (fun _ h => List.mem_cons_of_mem _ (List.mem_append_right _ (h))) (by decide) at_X5 rfl 9 (by decide) k3 (v := .ref (ad 2)) rfl dX5_rate_140 ?_
                  refine lv_iload_n hx hb dX5_rate_143 rfl (lv_at hl 5 rfl) ?_
                  obtain ⟨x102, hx102, h⟩ := Option.bind_eq_some_iff.mp h
                  refine m_iald hx hb hKv hM (by decide) at_X5_2 0 rfl hx102 dX5_rate_144 ?_
                  refine lv_goto (tgt := 205) hx hb dX5_rate_145 (by decide) ?_
                  exact m_iret hx hb hr hlocks hM (congrArg (a₁ := (x102, M94)) Prod.fst (Option.some.inj h)) (congrArg (a₁ := (x102, M94)) (fun z => Em ad cI cZ z.2) (Option.some.inj h)) dX5_rate_205
            · replace h := (if_pos c73).symm.trans h
              refine lv_ldc2 (v := (101 : Int64)) hx hb hown k8 dX5_rate_100 ?_
              refine lv_goto (tgt := 131) hx hb dX5_rate_103 (by decide) ?_
              refine lv_ladd hx hb dX5_rate_131 ?_
              obtain ⟨M103, hM103, h⟩ := Option.bind_eq_some_iff.mp h
              refine m_put hx hb hts hown hKv hM (fun _ h => List.mem_cons_of_mem _ (List.mem_append_right _ (h))) tyX5 tyX5_ok nmX5 (by decide) at_X5 rfl 1 (by decide) k4 rfl rfl rfl (Nat.le_of_ble_eq_true rfl) (pt_X5_1 (Option.some.inj hM103)) dX5_rate_132 (fun H locs hM => ?_)
              refine lv_iload_n hx hb dX5_rate_135 rfl (lv_at hl 4 rfl) ?_
              refine lv_if_ne (tgt := 148) hx hb dX5_rate_136 (by decide) (fun c104 => ?_) (fun c104 => ?_)
              · replace h := (if_neg c104).symm.trans h
                refine lv_iload_n hx hb dX5_rate_148 rfl (lv_at hl 4 rfl) ?_
                refine lv_iconst (v := (1 : Int32)) hx hb dX5_rate_149 (by decide) ?_
                refine lv_icmp_ne (tgt := 158) hx hb dX5_rate_150 (by decide) (fun c105 => ?_) (fun c105 => ?_)
                · replace h := (if_neg c105).symm.trans h
                  refine lv_iload_n hx hb dX5_rate_158 rfl (lv_at hl 4 rfl) ?_
                  refine lv_iconst (v := (2 : Int32)) hx hb dX5_rate_159 (by decide) ?_
                  refine lv_icmp_ne (tgt := 168) hx hb dX5_rate_160 (by decide) (fun c106 => ?_) (fun c106 => ?_)
                  · replace h := (if_neg c106).symm.trans h
                    refine lv_iload_n hx hb dX5_rate_168 rfl (lv_at hl 4 rfl) ?_
                    refine lv_iconst (v := (3 : Int32)) hx hb dX5_rate_169 (by decide) ?_
                    refine lv_icmp_ne (tgt := 180) hx hb dX5_rate_170 (by decide) (fun c107 => ?_) (fun c107 => ?_)
                    · replace h := (if_neg c107).symm.trans h
                      refine lv_iload_n hx hb dX5_rate_180 rfl (lv_at hl 4 rfl) ?_
                      refine lv_iconst (v := (4 : Int32)) hx hb dX5_rate_181 (by decide) ?_
                      refine lv_icmp_ne (tgt := 192) hx hb dX5_rate_182 (by decide) (fun c108 => ?_) (fun c108 => ?_)
                      · replace h := (if_neg c108).symm.trans h
                        refine lv_aload_n hx hb dX5_rate_192 rfl (lv_at hl 3 rfl) ?_
                        refine m_get hx hb hts hown hKv hM (fun _ h => List.mem_cons_of_mem _ (List.mem_append_right _ (h))) (by decide) at_X5 rfl 9 (by decide) k3 (v := .ref (ad 2)) rfl dX5_rate_193 ?_
                        refine lv_iload_n hx hb dX5_rate_196 rfl (lv_at hl 5 rfl) ?_
                        obtain ⟨x109, hx109, h⟩ := Option.bind_eq_some_iff.mp h
                        refine m_iald hx hb hKv hM (by decide) at_X5_2 0 rfl hx109 dX5_rate_197 ?_
                        refine lv_aload_n hx hb dX5_rate_198 rfl (lv_at hl 3 rfl) ?_
                        refine m_get hx hb hts hown hKv hM (fun _ h => List.mem_cons_of_mem _ (List.mem_append_right _ (h))) (by decide) at_X5 rfl 22 (by decide) k2 (v := .ref (ad 9)) rfl dX5_rate_199 ?_
                        refine lv_iconst (v := (0 : Int32)) hx hb dX5_rate_202 (by decide) ?_
                        obtain ⟨x110, hx110, h⟩ := Option.bind_eq_some_iff.mp h
                        refine m_iald hx hb hKv hM (by decide) at_X5_9 0 rfl hx110 dX5_rate_203 ?_
                        refine lv_iadd hx hb dX5_rate_204 ?_
                        exact m_iret hx hb hr hlocks hM (congrArg (a₁ := ((x109 + x110), M103)) Prod.fst (Option.some.inj h)) (congrArg (a₁ := ((x109 + x110), M103)) (fun z => Em ad cI cZ z.2) (Option.some.inj h)) dX5_rate_205
                      · replace h := (if_pos c108).symm.trans h
                        refine lv_iload hx hb dX5_rate_185 (lv_at hl 0 rfl) ?_
                        refine lv_iload_n hx hb dX5_rate_187 rfl (lv_at hl 5 rfl) ?_
                        refine lv_iadd hx hb dX5_rate_188 ?_
                        refine lv_goto (tgt := 205) hx hb dX5_rate_189 (by decide) ?_
                        exact m_iret hx hb hr hlocks hM (congrArg (a₁ := (((x10 - (0 : Int32)) + a2), M103)) Prod.fst (Option.some.inj h)) (congrArg (a₁ := (((x10 - (0 : Int32)) + a2), M103)) (fun z => Em ad cI cZ z.2) (Option.some.inj h)) dX5_rate_205
                    · replace h := (if_pos c107).symm.trans h
                      refine lv_iconst (v := (2 : Int32)) hx hb dX5_rate_173 (by decide) ?_
                      refine lv_iload hx hb dX5_rate_174 (lv_at hl 1 rfl) ?_
                      refine lv_imul hx hb dX5_rate_176 ?_
                      refine lv_goto (tgt := 205) hx hb dX5_rate_177 (by decide) ?_
                      exact m_iret hx hb hr hlocks hM (congrArg (a₁ := (((2 : Int32) * (x8 + x9)), M103)) Prod.fst (Option.some.inj h)) (congrArg (a₁ := (((2 : Int32) * (x8 + x9)), M103)) (fun z => Em ad cI cZ z.2) (Option.some.inj h)) dX5_rate_205
                  · replace h := (if_pos c106).symm.trans h
                    refine lv_iload hx hb dX5_rate_163 (lv_at hl 0 rfl) ?_
                    refine lv_goto (tgt := 205) hx hb dX5_rate_165 (by decide) ?_
                    exact m_iret hx hb hr hlocks hM (congrArg (a₁ := ((x10 - (0 : Int32)), M103)) Prod.fst (Option.some.inj h)) (congrArg (a₁ := ((x10 - (0 : Int32)), M103)) (fun z => Em ad cI cZ z.2) (Option.some.inj h)) dX5_rate_205
                · replace h := (if_pos c105).symm.trans h
                  refine lv_iload hx hb dX5_rate_153 (lv_at hl 1 rfl) ?_
                  refine lv_goto (tgt := 205) hx hb dX5_rate_155 (by decide) ?_
                  exact m_iret hx hb hr hlocks hM (congrArg (a₁ := ((x8 + x9), M103)) Prod.fst (Option.some.inj h)) (congrArg (a₁ := ((x8 + x9), M103)) (fun z => Em ad cI cZ z.2) (Option.some.inj h)) dX5_rate_205
              · replace h := (if_pos c104).symm.trans h
                refine lv_aload_n hx hb dX5_rate_139 rfl (lv_at hl 3 rfl) ?_
                refine m_get hx hb hts hown hKv hM (fun _ h => List.mem_cons_of_mem _ (List.mem_append_right _ (h))) (by decide) at_X5 rfl 9 (by decide) k3 (v := .ref (ad 2)) rfl dX5_rate_140 ?_
                refine lv_iload_n hx hb dX5_rate_143 rfl (lv_at hl 5 rfl) ?_
                obtain ⟨x111, hx111, h⟩ := Option.bind_eq_some_iff.mp h
                refine m_iald hx hb hKv hM (by decide) at_X5_2 0 rfl hx111 dX5_rate_144 ?_
                refine lv_goto (tgt := 205) hx hb dX5_rate_145 (by decide) ?_
                exact m_iret hx hb hr hlocks hM (congrArg (a₁ := (x111, M103)) Prod.fst (Option.some.inj h)) (congrArg (a₁ := (x111, M103)) (fun z => Em ad cI cZ z.2) (Option.some.inj h)) dX5_rate_205
          · replace h := (if_pos c72).symm.trans h
            refine lv_ldc2 (v := (11 : Int64)) hx hb hown k9 dX5_rate_89 ?_
            refine lv_goto (tgt := 131) hx hb dX5_rate_92 (by decide) ?_
            refine lv_ladd hx hb dX5_rate_131 ?_
            obtain ⟨M112, hM112, h⟩ := Option.bind_eq_some_iff.mp h
            refine m_put hx hb hts hown hKv hM (fun _ h => List.mem_cons_of_mem _ (List.mem_append_right _ (h))) tyX5 tyX5_ok nmX5 (by decide) at_X5 rfl 1 (by decide) k4 rfl rfl rfl (Nat.le_of_ble_eq_true rfl) (pt_X5_1 (Option.some.inj hM112)) dX5_rate_132 (fun H locs hM => ?_)
            refine lv_iload_n hx hb dX5_rate_135 rfl (lv_at hl 4 rfl) ?_
            refine lv_if_ne (tgt := 148) hx hb dX5_rate_136 (by decide) (fun c113 => ?_) (fun c113 => ?_)
            · replace h := (if_neg c113).symm.trans h
              refine lv_iload_n hx hb dX5_rate_148 rfl (lv_at hl 4 rfl) ?_
              refine lv_iconst (v := (1 : Int32)) hx hb dX5_rate_149 (by decide) ?_
              refine lv_icmp_ne (tgt := 158) hx hb dX5_rate_150 (by decide) (fun c114 => ?_) (fun c114 => ?_)
              · replace h := (if_neg c114).symm.trans h
                refine lv_iload_n hx hb dX5_rate_158 rfl (lv_at hl 4 rfl) ?_
                refine lv_iconst (v := (2 : Int32)) hx hb dX5_rate_159 (by decide) ?_
                refine lv_icmp_ne (tgt := 168) hx hb dX5_rate_160 (by decide) (fun c115 => ?_) (fun c115 => ?_)
                · replace h := (if_neg c115).symm.trans h
                  refine lv_iload_n hx hb dX5_rate_168 rfl (lv_at hl 4 rfl) ?_
                  refine lv_iconst (v := (3 : Int32)) hx hb dX5_rate_169 (by decide) ?_
                  refine lv_icmp_ne (tgt := 180) hx hb dX5_rate_170 (by decide) (fun c116 => ?_) (fun c116 => ?_)
                  · replace h := (if_neg c116).symm.trans h
                    refine lv_iload_n hx hb dX5_rate_180 rfl (lv_at hl 4 rfl) ?_
                    refine lv_iconst (v := (4 : Int32)) hx hb dX5_rate_181 (by decide) ?_
                    refine lv_icmp_ne (tgt := 192) hx hb dX5_rate_182 (by decide) (fun c117 => ?_) (fun c117 => ?_)
                    · replace h := (if_neg c117).symm.trans h
                      refine lv_aload_n hx hb dX5_rate_192 rfl (lv_at hl 3 rfl) ?_
                      refine m_get hx hb hts hown hKv hM (fun _ h => List.mem_cons_of_mem _ (List.mem_append_right _ (h))) (by decide) at_X5 rfl 9 (by decide) k3 (v := .ref (ad 2)) rfl dX5_rate_193 ?_
                      refine lv_iload_n hx hb dX5_rate_196 rfl (lv_at hl 5 rfl) ?_
                      obtain ⟨x118, hx118, h⟩ := Option.bind_eq_some_iff.mp h
                      refine m_iald hx hb hKv hM (by decide) at_X5_2 0 rfl hx118 dX5_rate_197 ?_
                      refine lv_aload_n hx hb dX5_rate_198 rfl (lv_at hl 3 rfl) ?_
                      refine m_get hx hb hts hown hKv hM (fun _ h => List.mem_cons_of_mem _ (List.mem_append_right _ (h))) (by decide) at_X5 rfl 22 (by decide) k2 (v := .ref (ad 9)) rfl dX5_rate_199 ?_
                      refine lv_iconst (v := (0 : Int32)) hx hb dX5_rate_202 (by decide) ?_
                      obtain ⟨x119, hx119, h⟩ := Option.bind_eq_some_iff.mp h
                      refine m_iald hx hb hKv hM (by decide) at_X5_9 0 rfl hx119 dX5_rate_203 ?_
                      refine lv_iadd hx hb dX5_rate_204 ?_
                      exact m_iret hx hb hr hlocks hM (congrArg (a₁ := ((x118 + x119), M112)) Prod.fst (Option.some.inj h)) (congrArg (a₁ := ((x118 + x119), M112)) (fun z => Em ad cI cZ z.2) (Option.some.inj h)) dX5_rate_205
                    · replace h := (if_pos c117).symm.trans h
                      refine lv_iload hx hb dX5_rate_185 (lv_at hl 0 rfl) ?_
                      refine lv_iload_n hx hb dX5_rate_187 rfl (lv_at hl 5 rfl) ?_
                      refine lv_iadd hx hb dX5_rate_188 ?_
                      refine lv_goto (tgt := 205) hx hb dX5_rate_189 (by decide) ?_
                      exact m_iret hx hb hr hlocks hM (congrArg (a₁ := (((x10 - (0 : Int32)) + a2), M112)) Prod.fst (Option.some.inj h)) (congrArg (a₁ := (((x10 - (0 : Int32)) + a2), M112)) (fun z => Em ad cI cZ z.2) (Option.some.inj h)) dX5_rate_205
                  · replace h := (if_pos c116).symm.trans h
                    refine lv_iconst (v := (2 : Int32)) hx hb dX5_rate_173 (by decide) ?_
                    refine lv_iload hx hb dX5_rate_174 (lv_at hl 1 rfl) ?_
                    refine lv_imul hx hb dX5_rate_176 ?_
                    refine lv_goto (tgt := 205) hx hb dX5_rate_177 (by decide) ?_
                    exact m_iret hx hb hr hlocks hM (congrArg (a₁ := (((2 : Int32) * (x8 + x9)), M112)) Prod.fst (Option.some.inj h)) (congrArg (a₁ := (((2 : Int32) * (x8 + x9)), M112)) (fun z => Em ad cI cZ z.2) (Option.some.inj h)) dX5_rate_205
                · replace h := (if_pos c115).symm.trans h
                  refine lv_iload hx hb dX5_rate_163 (lv_at hl 0 rfl) ?_
                  refine lv_goto (tgt := 205) hx hb dX5_rate_165 (by decide) ?_
                  exact m_iret hx hb hr hlocks hM (congrArg (a₁ := ((x10 - (0 : Int32)), M112)) Prod.fst (Option.some.inj h)) (congrArg (a₁ := ((x10 - (0 : Int32)), M112)) (fun z => Em ad cI cZ z.2) (Option.some.inj h)) dX5_rate_205
              · replace h := (if_pos c114).symm.trans h
                refine lv_iload hx hb dX5_rate_153 (lv_at hl 1 rfl) ?_
                refine lv_goto (tgt := 205) hx hb dX5_rate_155 (by decide) ?_
                exact m_iret hx hb hr hlocks hM (congrArg (a₁ := ((x8 + x9), M112)) Prod.fst (Option.some.inj h)) (congrArg (a₁ := ((x8 + x9), M112)) (fun z => Em ad cI cZ z.2) (Option.some.inj h)) dX5_rate_205
            · replace h := (if_pos c113).symm.trans h
              refine lv_aload_n hx hb dX5_rate_139 rfl (lv_at hl 3 rfl) ?_
              refine m_get hx hb hts hown hKv hM (fun _ h => List.mem_cons_of_mem _ (List.mem_append_right _ (h))) (by decide) at_X5 rfl 9 (by decide) k3 (v := .ref (ad 2)) rfl dX5_rate_140 ?_
              refine lv_iload_n hx hb dX5_rate_143 rfl (lv_at hl 5 rfl) ?_
              obtain ⟨x120, hx120, h⟩ := Option.bind_eq_some_iff.mp h
              refine m_iald hx hb hKv hM (by decide) at_X5_2 0 rfl hx120 dX5_rate_144 ?_
              refine lv_goto (tgt := 205) hx hb dX5_rate_145 (by decide) ?_
              exact m_iret hx hb hr hlocks hM (congrArg (a₁ := (x120, M112)) Prod.fst (Option.some.inj h)) (congrArg (a₁ := (x120, M112)) (fun z => Em ad cI cZ z.2) (Option.some.inj h)) dX5_rate_205
        · replace h := (if_pos c71).symm.trans h
          refine lv_lconst (v := (1 : Int64)) hx hb dX5_rate_80 rfl ?_
          refine lv_goto (tgt := 131) hx hb dX5_rate_81 (by decide) ?_
          refine lv_ladd hx hb dX5_rate_131 ?_
          obtain ⟨M121, hM121, h⟩ := Option.bind_eq_some_iff.mp h
          refine m_put hx hb hts hown hKv hM (fun _ h => List.mem_cons_of_mem _ (List.mem_append_right _ (h))) tyX5 tyX5_ok nmX5 (by decide) at_X5 rfl 1 (by decide) k4 rfl rfl rfl (Nat.le_of_ble_eq_true rfl) (pt_X5_1 (Option.some.inj hM121)) dX5_rate_132 (fun H locs hM => ?_)
          refine lv_iload_n hx hb dX5_rate_135 rfl (lv_at hl 4 rfl) ?_
          refine lv_if_ne (tgt := 148) hx hb dX5_rate_136 (by decide) (fun c122 => ?_) (fun c122 => ?_)
          · replace h := (if_neg c122).symm.trans h
            refine lv_iload_n hx hb dX5_rate_148 rfl (lv_at hl 4 rfl) ?_
            refine lv_iconst (v := (1 : Int32)) hx hb dX5_rate_149 (by decide) ?_
            refine lv_icmp_ne (tgt := 158) hx hb dX5_rate_150 (by decide) (fun c123 => ?_) (fun c123 => ?_)
            · replace h := (if_neg c123).symm.trans h
              refine lv_iload_n hx hb dX5_rate_158 rfl (lv_at hl 4 rfl) ?_
              refine lv_iconst (v := (2 : Int32)) hx hb dX5_rate_159 (by decide) ?_
              refine lv_icmp_ne (tgt := 168) hx hb dX5_rate_160 (by decide) (fun c124 => ?_) (fun c124 => ?_)
              · replace h := (if_neg c124).symm.trans h
                refine lv_iload_n hx hb dX5_rate_168 rfl (lv_at hl 4 rfl) ?_
                refine lv_iconst (v := (3 : Int32)) hx hb dX5_rate_169 (by decide) ?_
                refine lv_icmp_ne (tgt := 180) hx hb dX5_rate_170 (by decide) (fun c125 => ?_) (fun c125 => ?_)
                · replace h := (if_neg c125).symm.trans h
                  refine lv_iload_n hx hb dX5_rate_180 rfl (lv_at hl 4 rfl) ?_
                  refine lv_iconst (v := (4 : Int32)) hx hb dX5_rate_181 (by decide) ?_
                  refine lv_icmp_ne (tgt := 192) hx hb dX5_rate_182 (by decide) (fun c126 => ?_) (fun c126 => ?_)
                  · replace h := (if_neg c126).symm.trans h
                    refine lv_aload_n hx hb dX5_rate_192 rfl (lv_at hl 3 rfl) ?_
                    refine m_get hx hb hts hown hKv hM (fun _ h => List.mem_cons_of_mem _ (List.mem_append_right _ (h))) (by decide) at_X5 rfl 9 (by decide) k3 (v := .ref (ad 2)) rfl dX5_rate_193 ?_
                    refine lv_iload_n hx hb dX5_rate_196 rfl (lv_at hl 5 rfl) ?_
                    obtain ⟨x127, hx127, h⟩ := Option.bind_eq_some_iff.mp h
                    refine m_iald hx hb hKv hM (by decide) at_X5_2 0 rfl hx127 dX5_rate_197 ?_
                    refine lv_aload_n hx hb dX5_rate_198 rfl (lv_at hl 3 rfl) ?_
                    refine m_get hx hb hts hown hKv hM (fun _ h => List.mem_cons_of_mem _ (List.mem_append_right _ (h))) (by decide) at_X5 rfl 22 (by decide) k2 (v := .ref (ad 9)) rfl dX5_rate_199 ?_
                    refine lv_iconst (v := (0 : Int32)) hx hb dX5_rate_202 (by decide) ?_
                    obtain ⟨x128, hx128, h⟩ := Option.bind_eq_some_iff.mp h
                    refine m_iald hx hb hKv hM (by decide) at_X5_9 0 rfl hx128 dX5_rate_203 ?_
                    refine lv_iadd hx hb dX5_rate_204 ?_
                    exact m_iret hx hb hr hlocks hM (congrArg (a₁ := ((x127 + x128), M121)) Prod.fst (Option.some.inj h)) (congrArg (a₁ := ((x127 + x128), M121)) (fun z => Em ad cI cZ z.2) (Option.some.inj h)) dX5_rate_205
                  · replace h := (if_pos c126).symm.trans h
                    refine lv_iload hx hb dX5_rate_185 (lv_at hl 0 rfl) ?_
                    refine lv_iload_n hx hb dX5_rate_187 rfl (lv_at hl 5 rfl) ?_
                    refine lv_iadd hx hb dX5_rate_188 ?_
                    refine lv_goto (tgt := 205) hx hb dX5_rate_189 (by decide) ?_
                    exact m_iret hx hb hr hlocks hM (congrArg (a₁ := (((x10 - (0 : Int32)) + a2), M121)) Prod.fst (Option.some.inj h)) (congrArg (a₁ := (((x10 - (0 : Int32)) + a2), M121)) (fun z => Em ad cI cZ z.2) (Option.some.inj h)) dX5_rate_205
                · replace h := (if_pos c125).symm.trans h
                  refine lv_iconst (v := (2 : Int32)) hx hb dX5_rate_173 (by decide) ?_
                  refine lv_iload hx hb dX5_rate_174 (lv_at hl 1 rfl) ?_
                  refine lv_imul hx hb dX5_rate_176 ?_
                  refine lv_goto (tgt := 205) hx hb dX5_rate_177 (by decide) ?_
                  exact m_iret hx hb hr hlocks hM (congrArg (a₁ := (((2 : Int32) * (x8 + x9)), M121)) Prod.fst (Option.some.inj h)) (congrArg (a₁ := (((2 : Int32) * (x8 + x9)), M121)) (fun z => Em ad cI cZ z.2) (Option.some.inj h)) dX5_rate_205
              · replace h := (if_pos c124).symm.trans h
                refine lv_iload hx hb dX5_rate_163 (lv_at hl 0 rfl) ?_
                refine lv_goto (tgt := 205) hx hb dX5_rate_165 (by decide) ?_
                exact m_iret hx hb hr hlocks hM (congrArg (a₁ := ((x10 - (0 : Int32)), M121)) Prod.fst (Option.some.inj h)) (congrArg (a₁ := ((x10 - (0 : Int32)), M121)) (fun z => Em ad cI cZ z.2) (Option.some.inj h)) dX5_rate_205
            · replace h := (if_pos c123).symm.trans h
              refine lv_iload hx hb dX5_rate_153 (lv_at hl 1 rfl) ?_
              refine lv_goto (tgt := 205) hx hb dX5_rate_155 (by decide) ?_
              exact m_iret hx hb hr hlocks hM (congrArg (a₁ := ((x8 + x9), M121)) Prod.fst (Option.some.inj h)) (congrArg (a₁ := ((x8 + x9), M121)) (fun z => Em ad cI cZ z.2) (Option.some.inj h)) dX5_rate_205
          · replace h := (if_pos c122).symm.trans h
            refine lv_aload_n hx hb dX5_rate_139 rfl (lv_at hl 3 rfl) ?_
            refine m_get hx hb hts hown hKv hM (fun _ h => List.mem_cons_of_mem _ (List.mem_append_right _ (h))) (by decide) at_X5 rfl 9 (by decide) k3 (v := .ref (ad 2)) rfl dX5_rate_140 ?_
            refine lv_iload_n hx hb dX5_rate_143 rfl (lv_at hl 5 rfl) ?_
            obtain ⟨x129, hx129, h⟩ := Option.bind_eq_some_iff.mp h
            refine m_iald hx hb hKv hM (by decide) at_X5_2 0 rfl hx129 dX5_rate_144 ?_
            refine lv_goto (tgt := 205) hx hb dX5_rate_145 (by decide) ?_
            exact m_iret hx hb hr hlocks hM (congrArg (a₁ := (x129, M121)) Prod.fst (Option.some.inj h)) (congrArg (a₁ := (x129, M121)) (fun z => Em ad cI cZ z.2) (Option.some.inj h)) dX5_rate_205
    · replace h := (if_pos c5).symm.trans h
      refine lv_ldc (v := (-1000000 : Int32)) hx hb hown k1 dX5_rate_22 ?_
      exact m_iret hx hb hr hlocks hM (congrArg (a₁ := ((-1000000 : Int32), M1)) Prod.fst (Option.some.inj h)) (congrArg (a₁ := ((-1000000 : Int32), M1)) (fun z => Em ad cI cZ z.2) (Option.some.inj h)) dX5_rate_24
set_option maxHeartbeats 4000000 in
set_option maxRecDepth 100000 in
theorem wX5_keep_18 {p : Program} {l : Launch} {e : Env} {s : State} {m : MethodId} {args : Array Value} {below : List Frame} {meth : Method} {c : Code} {D : va_G} {cI cZ : ClassId} {ad : Nat → Nat} {X : State → Prop} (Z : mZ p s m args meth c cX5_keep 3 (some .int) wsX5_keep RX5 D [(cI, .int), (cZ, .boolean)] X) (hX0 : mX ad 14 X)   (u1 : Int32)  {K : Mem → Option (Int32 × Mem)} (res : (Int32 × Mem)) (hKc : ∀  (M1 : Mem), K  M1 = some res → ∀ (H : Heap) (locs : List Loc) (ls : Array Slot), lv_has ls 3 [(0, .ref (ad 0)), (1, .int u1)] → mH D ad 14 (Em ad cI cZ M1) s.heap H locs → W p l e { frames := 1, cells := 0, slots := 0, locals := 22 } s m args below meth c H locs 0 0 (MQ below (mQ D ad 14 (some (.int res.1)) (Em ad cI cZ res.2)) args s 0 0 (mA ad 14)) (F0 m 47 ls [])) :
    ∀ (n : Nat) (v2 : Int32) (M : Mem), fX5_keep_18 u1 K n v2 M = some res → ∀ (H : Heap) (locs : List Loc) (ls : Array Slot), lv_has ls 3 [(0, .ref (ad 0)), (1, .int u1), (2, .int v2)] → mH D ad 14 (Em ad cI cZ M) s.heap H locs → W p l e { frames := 1, cells := 0, slots := 0, locals := 22 } s m args below meth c H locs 0 0 (MQ below (mQ D ad 14 (some (.int res.1)) (Em ad cI cZ res.2)) args s 0 0 (mA ad 14)) (F0 m 18 ls []) := by
  obtain ⟨hx, hb, hml, hr, hlocks, hts, hown, hKv, hXs⟩ := id Z
  have hXk := hX0
  have k0 := hts (Cond.fieldLink RX5 37 "NoonWalkerModel" "kept" "[I") (List.mem_of_getElem? (i := 2) rfl)
  have k1 := hts (Cond.fieldLink RX5 34 "NoonWalkerModel" "s" "[I") (List.mem_of_getElem? (i := 3) rfl)
  intro n
  induction n with
  | zero => intro _ _ h; exact absurd h (by unfold fX5_keep_18; exact fun h => by cases h)
  | succ n ih =>
    intro v2 M h H locs ls hl hM
    rw [fX5_keep_18] at h
    refine lv_iload_n hx hb dX5_keep_18 rfl (lv_at hl 2 rfl) ?_
    refine lv_bipush (v := (26 : Int32)) hx hb dX5_keep_19 (by decide) ?_
    refine lv_icmp_ge (tgt := 47) hx hb dX5_keep_21 (by decide) (fun c1 => ?_) (fun c1 => ?_)
    · replace h := (if_pos c1).symm.trans h
      exact hKc _ h _ _ _ (lv_sub hl [0, 1] rfl) hM
    · replace h := (if_neg c1).symm.trans h
      refine lv_aload_n hx hb dX5_keep_24 rfl (lv_at hl 0 rfl) ?_
      refine m_get hx hb hts hown hKv hM (fun _ h => List.mem_cons_of_mem _ (List.mem_append_right _ (h))) (by decide) at_X5 rfl 23 (by decide) k0 (v := .ref (ad 10)) rfl dX5_keep_25 ?_
      refine lv_bipush (v := (26 : Int32)) hx hb dX5_keep_28 (by decide) ?_
      refine lv_iload_n hx hb dX5_keep_30 rfl (lv_at hl 1 rfl) ?_
      refine lv_imul hx hb dX5_keep_31 ?_
      refine lv_iload_n hx hb dX5_keep_32 rfl (lv_at hl 2 rfl) ?_
      refine lv_iadd hx hb dX5_keep_33 ?_
      refine lv_aload_n hx hb dX5_keep_34 rfl (lv_at hl 0 rfl) ?_
      refine m_get hx hb hts hown hKv hM (fun _ h => List.mem_cons_of_mem _ (List.mem_append_right _ (h))) (by decide) at_X5 rfl 22 (by decide) k1 (v := .ref (ad 9)) rfl dX5_keep_35 ?_
      refine lv_iload_n hx hb dX5_keep_38 rfl (lv_at hl 2 rfl) ?_
      obtain ⟨x2, hx2, h⟩ := Option.bind_eq_some_iff.mp h
      refine m_iald hx hb hKv hM (by decide) at_X5_9 0 rfl hx2 dX5_keep_39 ?_
      obtain ⟨M3, hM3, h⟩ := Option.bind_eq_some_iff.mp h
      refine m_iast hx hb hKv hM (by decide) at_X5_10 0 rfl (sta_some hM3).1 (pa_X5_10 (sta_some hM3).2) dX5_keep_40 (fun H locs hM => ?_)
      refine lv_iinc (v := (v2 + 1)) (lv' := [(2, .int (v2 + 1)), (0, .ref (ad 0)), (1, .int u1)]) hx hb dX5_keep_41 hl (k := 2) rfl rfl (by decide) rfl (fun ls hl => ?_)
      refine lv_goto (tgt := 18) hx hb dX5_keep_44 (by decide) ?_
      exact ih _ _ h _ _ _ (lv_sub hl [1, 2, 0] rfl) hM
set_option maxHeartbeats 4000000 in
set_option maxRecDepth 100000 in
theorem kX5_keep (l : Launch) (D : va_G) (cI cZ : ClassId) (ad : Nat → Nat) {X : State → Prop} (hX0 : mX ad 14 X) (a1 : Int32) (M : Mem) (res : (Int32 × Mem)) (h : fX5_keep a1 M = some res) : mC l yX5_keep wsX5_keep { frames := 1, cells := 0, slots := 0, locals := 22 } D [(cI, .int), (cZ, .boolean)] ad 14 X [.ref (ad 0), .int a1] (Em ad cI cZ M) (some (.int res.1)) (Em ad cI cZ res.2) := by
  refine m_ofW (cc := cX5_keep) (maxL := 3) (ret := (some .int)) (by decide) rfl (Nat.le_of_ble_eq_true rfl) ?_
  intro p e s m args below meth c hx hb hml hr hlocks hts hown hKv hXs ls hl hM
  have hXk := hX0
  have Z : mZ p s m args meth c cX5_keep 3 (some .int) wsX5_keep RX5 D [(cI, .int), (cZ, .boolean)] X := ⟨hx, hb, hml, hr, hlocks, hts, hown, hKv, hXs⟩
  replace hown : s.vm.findClass RX5 = some m.cls := hown
  have hl : lv_has ls 3 [(0, .ref (ad 0)), (1, .int a1)] := hl
  have k0 := hts (Cond.fieldLink RX5 53 "NoonWalkerModel" "thrown" "I") (List.mem_of_getElem? (i := 1) rfl)
  have k1 := hts (Cond.fieldLink RX5 40 "NoonWalkerModel" "isKept" "[Z") (List.mem_of_getElem? (i := 4) rfl)
  have k2 := hts (Cond.fieldLink RX5 34 "NoonWalkerModel" "s" "[I") (List.mem_of_getElem? (i := 3) rfl)
  unfold fX5_keep at h
  refine lv_aload_n hx hb dX5_keep_0 rfl (lv_at hl 0 rfl) ?_
  refine lv_iconst (v := (0 : Int32)) hx hb dX5_keep_1 (by decide) ?_
  obtain ⟨M1, hM1, h⟩ := Option.bind_eq_some_iff.mp h
  refine m_put hx hb hts hown hKv hM (fun _ h => List.mem_cons_of_mem _ (List.mem_append_right _ (h))) tyX5 tyX5_ok nmX5 (by decide) at_X5 rfl 0 (by decide) k0 rfl rfl rfl (Nat.le_of_ble_eq_true rfl) (pt_X5_0 (Option.some.inj hM1)) dX5_keep_2 (fun H locs hM => ?_)
  refine lv_iload_n hx hb dX5_keep_5 rfl (lv_at hl 1 rfl) ?_
  refine lv_iconst (v := (0 : Int32)) hx hb dX5_keep_6 (by decide) ?_
  refine lv_iconst (v := (1 : Int32)) hx hb dX5_keep_7 (by decide) ?_
  obtain ⟨x2, hx2, h⟩ := Option.bind_eq_some_iff.mp h
  refine m_callS (As := [.int a1, .int (0 : Int32), .int (1 : Int32)]) (st1 := [.int x2]) hx hb (hml.trans hl.1.symm) hown hts hKv hXs hXk hM (kX5_in l D cI cZ ad hX0 a1 (0 : Int32) (1 : Int32) M1 _ hx2) (va_cwS 3 hts gX5_keep_X5_in rfl rfl rfl (by decide +kernel) ⟨Nat.le_of_ble_eq_true rfl, Nat.le_of_ble_eq_true rfl⟩) rfl rfl rfl (Nat.le_of_ble_eq_true rfl) dX5_keep_8 ⟨Nat.zero_le _, Nat.zero_le _⟩ (fun H locs hM => ?_)
  refine lv_if_ne (tgt := 16) hx hb dX5_keep_11 (by decide) (fun c3 => ?_) (fun c3 => ?_)
  · replace h := (if_neg c3).symm.trans h
    refine lv_iconst (v := (0 : Int32)) hx hb dX5_keep_16 (by decide) ?_
    refine lv_istore_n (lv' := [(2, .int (0 : Int32)), (0, .ref (ad 0)), (1, .int a1)]) hx hb dX5_keep_17 rfl hl (by decide) rfl (fun ls hl => ?_)
    refine wX5_keep_18 Z hX0 a1 _ (fun M4 h H locs ls hl hM => ?_) _ _ _ h _ _ _ (lv_sub hl [1, 2, 0] rfl) hM
    refine lv_aload_n hx hb dX5_keep_47 rfl (lv_at hl 0 rfl) ?_
    refine m_get hx hb hts hown hKv hM (fun _ h => List.mem_cons_of_mem _ (List.mem_append_right _ (h))) (by decide) at_X5 rfl 24 (by decide) k1 (v := .ref (ad 11)) rfl dX5_keep_48 ?_
    refine lv_iload_n hx hb dX5_keep_51 rfl (lv_at hl 1 rfl) ?_
    refine lv_iconst (v := (1 : Int32)) hx hb dX5_keep_52 (by decide) ?_
    obtain ⟨M5, hM5, h⟩ := Option.bind_eq_some_iff.mp h
    refine m_zast hx hb hKv hM (by decide) at_X5_11 1 rfl rfl (sta_some hM5).1 (pa_X5_11 (sta_some hM5).2) dX5_keep_53 (fun H locs hM => ?_)
    refine lv_aload_n hx hb dX5_keep_54 rfl (lv_at hl 0 rfl) ?_
    refine m_get hx hb hts hown hKv hM (fun _ h => List.mem_cons_of_mem _ (List.mem_append_right _ (h))) (by decide) at_X5 rfl 22 (by decide) k2 (v := .ref (ad 9)) rfl dX5_keep_55 ?_
    refine lv_iconst (v := (0 : Int32)) hx hb dX5_keep_58 (by decide) ?_
    obtain ⟨x6, hx6, h⟩ := Option.bind_eq_some_iff.mp h
    refine m_iald hx hb hKv hM (by decide) at_X5_9 0 rfl hx6 dX5_keep_59 ?_
    exact m_iret hx hb hr hlocks hM (congrArg (a₁ := (x6, M5)) Prod.fst (Option.some.inj h)) (congrArg (a₁ := (x6, M5)) (fun z => Em ad cI cZ z.2) (Option.some.inj h)) dX5_keep_60
  · replace h := (if_pos c3).symm.trans h
    refine lv_iconst (v := (-1 : Int32)) hx hb dX5_keep_14 (by decide) ?_
    exact m_iret hx hb hr hlocks hM (congrArg (a₁ := ((-1 : Int32), M1)) Prod.fst (Option.some.inj h)) (congrArg (a₁ := ((-1 : Int32), M1)) (fun z => Em ad cI cZ z.2) (Option.some.inj h)) dX5_keep_15
set_option maxHeartbeats 4000000 in
set_option maxRecDepth 100000 in
theorem wX5_back_30 {p : Program} {l : Launch} {e : Env} {s : State} {m : MethodId} {args : Array Value} {below : List Frame} {meth : Method} {c : Code} {D : va_G} {cI cZ : ClassId} {ad : Nat → Nat} {X : State → Prop} (Z : mZ p s m args meth c cX5_back 3 (some .int) wsX5_back RX5 D [(cI, .int), (cZ, .boolean)] X) (hX0 : mX ad 14 X)   (u1 : Int32)  {K : Mem → Option (Int32 × Mem)} (res : (Int32 × Mem)) (hKc : ∀  (M1 : Mem), K  M1 = some res → ∀ (H : Heap) (locs : List Loc) (ls : Array Slot), lv_has ls 3 [(0, .ref (ad 0))] → mH D ad 14 (Em ad cI cZ M1) s.heap H locs → W p l e { frames := 1, cells := 0, slots := 0, locals := 22 } s m args below meth c H locs 0 0 (MQ below (mQ D ad 14 (some (.int res.1)) (Em ad cI cZ res.2)) args s 0 0 (mA ad 14)) (F0 m 59 ls [])) :
    ∀ (n : Nat) (v2 : Int32) (M : Mem), fX5_back_30 u1 K n v2 M = some res → ∀ (H : Heap) (locs : List Loc) (ls : Array Slot), lv_has ls 3 [(0, .ref (ad 0)), (1, .int u1), (2, .int v2)] → mH D ad 14 (Em ad cI cZ M) s.heap H locs → W p l e { frames := 1, cells := 0, slots := 0, locals := 22 } s m args below meth c H locs 0 0 (MQ below (mQ D ad 14 (some (.int res.1)) (Em ad cI cZ res.2)) args s 0 0 (mA ad 14)) (F0 m 30 ls []) := by
  obtain ⟨hx, hb, hml, hr, hlocks, hts, hown, hKv, hXs⟩ := id Z
  have hXk := hX0
  have k0 := hts (Cond.fieldLink RX5 34 "NoonWalkerModel" "s" "[I") (List.mem_of_getElem? (i := 3) rfl)
  have k1 := hts (Cond.fieldLink RX5 37 "NoonWalkerModel" "kept" "[I") (List.mem_of_getElem? (i := 4) rfl)
  intro n
  induction n with
  | zero => intro _ _ h; exact absurd h (by unfold fX5_back_30; exact fun h => by cases h)
  | succ n ih =>
    intro v2 M h H locs ls hl hM
    rw [fX5_back_30] at h
    refine lv_iload_n hx hb dX5_back_30 rfl (lv_at hl 2 rfl) ?_
    refine lv_bipush (v := (26 : Int32)) hx hb dX5_back_31 (by decide) ?_
    refine lv_icmp_ge (tgt := 59) hx hb dX5_back_33 (by decide) (fun c1 => ?_) (fun c1 => ?_)
    · replace h := (if_pos c1).symm.trans h
      exact hKc _ h _ _ _ (lv_sub hl [0] rfl) hM
    · replace h := (if_neg c1).symm.trans h
      refine lv_aload_n hx hb dX5_back_36 rfl (lv_at hl 0 rfl) ?_
      refine m_get hx hb hts hown hKv hM (fun _ h => List.mem_cons_of_mem _ (List.mem_append_right _ (h))) (by decide) at_X5 rfl 22 (by decide) k0 (v := .ref (ad 9)) rfl dX5_back_37 ?_
      refine lv_iload_n hx hb dX5_back_40 rfl (lv_at hl 2 rfl) ?_
      refine lv_aload_n hx hb dX5_back_41 rfl (lv_at hl 0 rfl) ?_
      refine m_get hx hb hts hown hKv hM (fun _ h => List.mem_cons_of_mem _ (List.mem_append_right _ (h))) (by decide) at_X5 rfl 23 (by decide) k1 (v := .ref (ad 10)) rfl dX5_back_42 ?_
      refine lv_bipush (v := (26 : Int32)) hx hb dX5_back_45 (by decide) ?_
      refine lv_iload_n hx hb dX5_back_47 rfl (lv_at hl 1 rfl) ?_
      refine lv_imul hx hb dX5_back_48 ?_
      refine lv_iload_n hx hb dX5_back_49 rfl (lv_at hl 2 rfl) ?_
      refine lv_iadd hx hb dX5_back_50 ?_
      obtain ⟨x2, hx2, h⟩ := Option.bind_eq_some_iff.mp h
      refine m_iald hx hb hKv hM (by decide) at_X5_10 0 rfl hx2 dX5_back_51 ?_
      obtain ⟨M3, hM3, h⟩ := Option.bind_eq_some_iff.mp h
      refine m_iast hx hb hKv hM (by decide) at_X5_9 0 rfl (sta_some hM3).1 (pa_X5_9 (sta_some hM3).2) dX5_back_52 (fun H locs hM => ?_)
      refine lv_iinc (v := (v2 + 1)) (lv' := [(2, .int (v2 + 1)), (0, .ref (ad 0)), (1, .int u1)]) hx hb dX5_back_53 hl (k := 2) rfl rfl (by decide) rfl (fun ls hl => ?_)
      refine lv_goto (tgt := 30) hx hb dX5_back_56 (by decide) ?_
      exact ih _ _ h _ _ _ (lv_sub hl [1, 2, 0] rfl) hM
set_option maxHeartbeats 4000000 in
set_option maxRecDepth 100000 in
theorem kX5_back (l : Launch) (D : va_G) (cI cZ : ClassId) (ad : Nat → Nat) {X : State → Prop} (hX0 : mX ad 14 X) (a1 : Int32) (M : Mem) (res : (Int32 × Mem)) (h : fX5_back a1 M = some res) : mC l yX5_back wsX5_back { frames := 1, cells := 0, slots := 0, locals := 22 } D [(cI, .int), (cZ, .boolean)] ad 14 X [.ref (ad 0), .int a1] (Em ad cI cZ M) (some (.int res.1)) (Em ad cI cZ res.2) := by
  refine m_ofW (cc := cX5_back) (maxL := 3) (ret := (some .int)) (by decide) rfl (Nat.le_of_ble_eq_true rfl) ?_
  intro p e s m args below meth c hx hb hml hr hlocks hts hown hKv hXs ls hl hM
  have hXk := hX0
  have Z : mZ p s m args meth c cX5_back 3 (some .int) wsX5_back RX5 D [(cI, .int), (cZ, .boolean)] X := ⟨hx, hb, hml, hr, hlocks, hts, hown, hKv, hXs⟩
  replace hown : s.vm.findClass RX5 = some m.cls := hown
  have hl : lv_has ls 3 [(0, .ref (ad 0)), (1, .int a1)] := hl
  have k0 := hts (Cond.fieldLink RX5 53 "NoonWalkerModel" "thrown" "I") (List.mem_of_getElem? (i := 1) rfl)
  have k1 := hts (Cond.fieldLink RX5 40 "NoonWalkerModel" "isKept" "[Z") (List.mem_of_getElem? (i := 2) rfl)
  have k2 := hts (Cond.fieldLink RX5 34 "NoonWalkerModel" "s" "[I") (List.mem_of_getElem? (i := 3) rfl)
  unfold fX5_back at h
  refine lv_aload_n hx hb dX5_back_0 rfl (lv_at hl 0 rfl) ?_
  refine lv_iconst (v := (0 : Int32)) hx hb dX5_back_1 (by decide) ?_
  obtain ⟨M1, hM1, h⟩ := Option.bind_eq_some_iff.mp h
  refine m_put hx hb hts hown hKv hM (fun _ h => List.mem_cons_of_mem _ (List.mem_append_right _ (h))) tyX5 tyX5_ok nmX5 (by decide) at_X5 rfl 0 (by decide) k0 rfl rfl rfl (Nat.le_of_ble_eq_true rfl) (pt_X5_0 (Option.some.inj hM1)) dX5_back_2 (fun H locs hM => ?_)
  refine lv_iload_n hx hb dX5_back_5 rfl (lv_at hl 1 rfl) ?_
  refine lv_iconst (v := (0 : Int32)) hx hb dX5_back_6 (by decide) ?_
  refine lv_iconst (v := (1 : Int32)) hx hb dX5_back_7 (by decide) ?_
  obtain ⟨x2, hx2, h⟩ := Option.bind_eq_some_iff.mp h
  refine m_callS (As := [.int a1, .int (0 : Int32), .int (1 : Int32)]) (st1 := [.int x2]) hx hb (hml.trans hl.1.symm) hown hts hKv hXs hXk hM (kX5_in l D cI cZ ad hX0 a1 (0 : Int32) (1 : Int32) M1 _ hx2) (va_cwS 3 hts gX5_back_X5_in rfl rfl rfl (by decide +kernel) ⟨Nat.le_of_ble_eq_true rfl, Nat.le_of_ble_eq_true rfl⟩) rfl rfl rfl (Nat.le_of_ble_eq_true rfl) dX5_back_8 ⟨Nat.zero_le _, Nat.zero_le _⟩ (fun H locs hM => ?_)
  refine lv_if_ne (tgt := 16) hx hb dX5_back_11 (by decide) (fun c3 => ?_) (fun c3 => ?_)
  · replace h := (if_neg c3).symm.trans h
    refine lv_aload_n hx hb dX5_back_16 rfl (lv_at hl 0 rfl) ?_
    refine m_get hx hb hts hown hKv hM (fun _ h => List.mem_cons_of_mem _ (List.mem_append_right _ (h))) (by decide) at_X5 rfl 24 (by decide) k1 (v := .ref (ad 11)) rfl dX5_back_17 ?_
    refine lv_iload_n hx hb dX5_back_20 rfl (lv_at hl 1 rfl) ?_
    obtain ⟨x4, hx4, h⟩ := Option.bind_eq_some_iff.mp h
    refine m_zald hx hb hKv hM (by decide) at_X5_11 1 rfl hx4 dX5_back_21 ?_
    refine lv_if_ne (tgt := 28) hx hb dX5_back_22 (by decide) (fun c5 => ?_) (fun c5 => ?_)
    · replace h := (if_neg c5).symm.trans h
      refine lv_iconst (v := (0 : Int32)) hx hb dX5_back_28 (by decide) ?_
      refine lv_istore_n (lv' := [(2, .int (0 : Int32)), (0, .ref (ad 0)), (1, .int a1)]) hx hb dX5_back_29 rfl hl (by decide) rfl (fun ls hl => ?_)
      refine wX5_back_30 Z hX0 a1 _ (fun M6 h H locs ls hl hM => ?_) _ _ _ h _ _ _ (lv_sub hl [1, 2, 0] rfl) hM
      refine lv_aload_n hx hb dX5_back_59 rfl (lv_at hl 0 rfl) ?_
      refine m_get hx hb hts hown hKv hM (fun _ h => List.mem_cons_of_mem _ (List.mem_append_right _ (h))) (by decide) at_X5 rfl 22 (by decide) k2 (v := .ref (ad 9)) rfl dX5_back_60 ?_
      refine lv_iconst (v := (0 : Int32)) hx hb dX5_back_63 (by decide) ?_
      obtain ⟨x7, hx7, h⟩ := Option.bind_eq_some_iff.mp h
      refine m_iald hx hb hKv hM (by decide) at_X5_9 0 rfl hx7 dX5_back_64 ?_
      exact m_iret hx hb hr hlocks hM (congrArg (a₁ := (x7, M6)) Prod.fst (Option.some.inj h)) (congrArg (a₁ := (x7, M6)) (fun z => Em ad cI cZ z.2) (Option.some.inj h)) dX5_back_65
    · replace h := (if_pos c5).symm.trans h
      refine lv_bipush (v := (-2 : Int32)) hx hb dX5_back_25 (by decide) ?_
      exact m_iret hx hb hr hlocks hM (congrArg (a₁ := ((-2 : Int32), M1)) Prod.fst (Option.some.inj h)) (congrArg (a₁ := ((-2 : Int32), M1)) (fun z => Em ad cI cZ z.2) (Option.some.inj h)) dX5_back_27
  · replace h := (if_pos c3).symm.trans h
    refine lv_iconst (v := (-1 : Int32)) hx hb dX5_back_14 (by decide) ?_
    exact m_iret hx hb hr hlocks hM (congrArg (a₁ := ((-1 : Int32), M1)) Prod.fst (Option.some.inj h)) (congrArg (a₁ := ((-1 : Int32), M1)) (fun z => Em ad cI cZ z.2) (Option.some.inj h)) dX5_back_15
set_option maxHeartbeats 4000000 in
set_option maxRecDepth 100000 in
theorem kX5_count (l : Launch) (D : va_G) (cI cZ : ClassId) (ad : Nat → Nat) {X : State → Prop} (hX0 : mX ad 14 X) (a1 : Int32) (M : Mem) (res : (Int32 × Mem)) (h : fX5_count a1 M = some res) : mC l yX5_count wsX5_count { frames := 0, cells := 0, slots := 0, locals := 0 } D [(cI, .int), (cZ, .boolean)] ad 14 X [.ref (ad 0), .int a1] (Em ad cI cZ M) (some (.int res.1)) (Em ad cI cZ res.2) := by
  refine m_ofW (cc := cX5_count) (maxL := 2) (ret := (some .int)) (by decide) rfl (Nat.le_of_ble_eq_true rfl) ?_
  intro p e s m args below meth c hx hb hml hr hlocks hts hown hKv hXs ls hl hM
  have hXk := hX0
  have Z : mZ p s m args meth c cX5_count 2 (some .int) wsX5_count RX5 D [(cI, .int), (cZ, .boolean)] X := ⟨hx, hb, hml, hr, hlocks, hts, hown, hKv, hXs⟩
  replace hown : s.vm.findClass RX5 = some m.cls := hown
  have hl : lv_has ls 2 [(0, .ref (ad 0)), (1, .int a1)] := hl
  have k0 := hts (Cond.fieldLink RX5 53 "NoonWalkerModel" "thrown" "I") (List.mem_of_getElem? (i := 1) rfl)
  have k1 := hts (Cond.fieldLink RX5 61 "NoonWalkerModel" "typed" "I") (List.mem_of_getElem? (i := 6) rfl)
  have k2 := hts (Cond.fieldLink RX5 34 "NoonWalkerModel" "s" "[I") (List.mem_of_getElem? (i := 5) rfl)
  have k3 := hts (Cond.fieldLink RX5 137 "NoonWalkerModel" "halts" "I") (List.mem_of_getElem? (i := 4) rfl)
  have k4 := hts (Cond.fieldLink RX5 134 "NoonWalkerModel" "roads" "I") (List.mem_of_getElem? (i := 3) rfl)
  have k5 := hts (Cond.fieldLink RX5 131 "NoonWalkerModel" "towns" "I") (List.mem_of_getElem? (i := 2) rfl)
  unfold fX5_count at h
  refine lv_aload_n hx hb dX5_count_0 rfl (lv_at hl 0 rfl) ?_
  refine lv_iconst (v := (0 : Int32)) hx hb dX5_count_1 (by decide) ?_
  obtain ⟨M1, hM1, h⟩ := Option.bind_eq_some_iff.mp h
  refine m_put hx hb hts hown hKv hM (fun _ h => List.mem_cons_of_mem _ (List.mem_append_right _ (h))) tyX5 tyX5_ok nmX5 (by decide) at_X5 rfl 0 (by decide) k0 rfl rfl rfl (Nat.le_of_ble_eq_true rfl) (pt_X5_0 (Option.some.inj hM1)) dX5_count_2 (fun H locs hM => ?_)
  refine lv_iload_n hx hb dX5_count_5 rfl (lv_at hl 1 rfl) ?_
  refine lv_if_ne (tgt := 16) hx hb dX5_count_6 (by decide) (fun c2 => ?_) (fun c2 => ?_)
  · replace h := (if_neg c2).symm.trans h
    refine lv_iload_n hx hb dX5_count_16 rfl (lv_at hl 1 rfl) ?_
    refine lv_iconst (v := (1 : Int32)) hx hb dX5_count_17 (by decide) ?_
    refine lv_icmp_ne (tgt := 28) hx hb dX5_count_18 (by decide) (fun c3 => ?_) (fun c3 => ?_)
    · replace h := (if_neg c3).symm.trans h
      refine lv_iload_n hx hb dX5_count_28 rfl (lv_at hl 1 rfl) ?_
      refine lv_iconst (v := (2 : Int32)) hx hb dX5_count_29 (by decide) ?_
      refine lv_icmp_ne (tgt := 40) hx hb dX5_count_30 (by decide) (fun c4 => ?_) (fun c4 => ?_)
      · replace h := (if_neg c4).symm.trans h
        refine lv_iload_n hx hb dX5_count_40 rfl (lv_at hl 1 rfl) ?_
        refine lv_iconst (v := (3 : Int32)) hx hb dX5_count_41 (by decide) ?_
        refine lv_icmp_ne (tgt := 54) hx hb dX5_count_42 (by decide) (fun c5 => ?_) (fun c5 => ?_)
        · replace h := (if_neg c5).symm.trans h
          refine lv_iload_n hx hb dX5_count_54 rfl (lv_at hl 1 rfl) ?_
          refine lv_iconst (v := (4 : Int32)) hx hb dX5_count_55 (by decide) ?_
          refine lv_icmp_ne (tgt := 68) hx hb dX5_count_56 (by decide) (fun c6 => ?_) (fun c6 => ?_)
          · replace h := (if_neg c6).symm.trans h
            refine lv_iload_n hx hb dX5_count_68 rfl (lv_at hl 1 rfl) ?_
            refine lv_iconst (v := (5 : Int32)) hx hb dX5_count_69 (by decide) ?_
            refine lv_icmp_ne (tgt := 80) hx hb dX5_count_70 (by decide) (fun c7 => ?_) (fun c7 => ?_)
            · replace h := (if_neg c7).symm.trans h
              refine lv_iconst (v := (-1 : Int32)) hx hb dX5_count_80 (by decide) ?_
              exact m_iret hx hb hr hlocks hM (congrArg (a₁ := ((-1 : Int32), M1)) Prod.fst (Option.some.inj h)) (congrArg (a₁ := ((-1 : Int32), M1)) (fun z => Em ad cI cZ z.2) (Option.some.inj h)) dX5_count_81
            · replace h := (if_pos c7).symm.trans h
              refine lv_aload_n hx hb dX5_count_73 rfl (lv_at hl 0 rfl) ?_
              refine m_get hx hb hts hown hKv hM (fun _ h => List.mem_cons_of_mem _ (List.mem_append_right _ (h))) (by decide) at_X5 rfl 3 (by decide) k1 (v := .int (M1.1 0 3)) rfl dX5_count_74 ?_
              refine lv_goto (tgt := 81) hx hb dX5_count_77 (by decide) ?_
              exact m_iret hx hb hr hlocks hM (congrArg (a₁ := ((M1.1 0 3), M1)) Prod.fst (Option.some.inj h)) (congrArg (a₁ := ((M1.1 0 3), M1)) (fun z => Em ad cI cZ z.2) (Option.some.inj h)) dX5_count_81
          · replace h := (if_pos c6).symm.trans h
            refine lv_aload_n hx hb dX5_count_59 rfl (lv_at hl 0 rfl) ?_
            refine m_get hx hb hts hown hKv hM (fun _ h => List.mem_cons_of_mem _ (List.mem_append_right _ (h))) (by decide) at_X5 rfl 22 (by decide) k2 (v := .ref (ad 9)) rfl dX5_count_60 ?_
            refine lv_iconst (v := (0 : Int32)) hx hb dX5_count_63 (by decide) ?_
            obtain ⟨x8, hx8, h⟩ := Option.bind_eq_some_iff.mp h
            refine m_iald hx hb hKv hM (by decide) at_X5_9 0 rfl hx8 dX5_count_64 ?_
            refine lv_goto (tgt := 81) hx hb dX5_count_65 (by decide) ?_
            exact m_iret hx hb hr hlocks hM (congrArg (a₁ := (x8, M1)) Prod.fst (Option.some.inj h)) (congrArg (a₁ := (x8, M1)) (fun z => Em ad cI cZ z.2) (Option.some.inj h)) dX5_count_81
        · replace h := (if_pos c5).symm.trans h
          refine lv_aload_n hx hb dX5_count_45 rfl (lv_at hl 0 rfl) ?_
          refine m_get hx hb hts hown hKv hM (fun _ h => List.mem_cons_of_mem _ (List.mem_append_right _ (h))) (by decide) at_X5 rfl 22 (by decide) k2 (v := .ref (ad 9)) rfl dX5_count_46 ?_
          refine lv_iconst (v := (1 : Int32)) hx hb dX5_count_49 (by decide) ?_
          obtain ⟨x9, hx9, h⟩ := Option.bind_eq_some_iff.mp h
          refine m_iald hx hb hKv hM (by decide) at_X5_9 0 rfl hx9 dX5_count_50 ?_
          refine lv_goto (tgt := 81) hx hb dX5_count_51 (by decide) ?_
          exact m_iret hx hb hr hlocks hM (congrArg (a₁ := (x9, M1)) Prod.fst (Option.some.inj h)) (congrArg (a₁ := (x9, M1)) (fun z => Em ad cI cZ z.2) (Option.some.inj h)) dX5_count_81
      · replace h := (if_pos c4).symm.trans h
        refine lv_aload_n hx hb dX5_count_33 rfl (lv_at hl 0 rfl) ?_
        refine m_get hx hb hts hown hKv hM (fun _ h => List.mem_cons_of_mem _ (List.mem_append_right _ (h))) (by decide) at_X5 rfl 15 (by decide) k3 (v := .int (M1.1 0 15)) rfl dX5_count_34 ?_
        refine lv_goto (tgt := 81) hx hb dX5_count_37 (by decide) ?_
        exact m_iret hx hb hr hlocks hM (congrArg (a₁ := ((M1.1 0 15), M1)) Prod.fst (Option.some.inj h)) (congrArg (a₁ := ((M1.1 0 15), M1)) (fun z => Em ad cI cZ z.2) (Option.some.inj h)) dX5_count_81
    · replace h := (if_pos c3).symm.trans h
      refine lv_aload_n hx hb dX5_count_21 rfl (lv_at hl 0 rfl) ?_
      refine m_get hx hb hts hown hKv hM (fun _ h => List.mem_cons_of_mem _ (List.mem_append_right _ (h))) (by decide) at_X5 rfl 14 (by decide) k4 (v := .int (M1.1 0 14)) rfl dX5_count_22 ?_
      refine lv_goto (tgt := 81) hx hb dX5_count_25 (by decide) ?_
      exact m_iret hx hb hr hlocks hM (congrArg (a₁ := ((M1.1 0 14), M1)) Prod.fst (Option.some.inj h)) (congrArg (a₁ := ((M1.1 0 14), M1)) (fun z => Em ad cI cZ z.2) (Option.some.inj h)) dX5_count_81
  · replace h := (if_pos c2).symm.trans h
    refine lv_aload_n hx hb dX5_count_9 rfl (lv_at hl 0 rfl) ?_
    refine m_get hx hb hts hown hKv hM (fun _ h => List.mem_cons_of_mem _ (List.mem_append_right _ (h))) (by decide) at_X5 rfl 13 (by decide) k5 (v := .int (M1.1 0 13)) rfl dX5_count_10 ?_
    refine lv_goto (tgt := 81) hx hb dX5_count_13 (by decide) ?_
    exact m_iret hx hb hr hlocks hM (congrArg (a₁ := ((M1.1 0 13), M1)) Prod.fst (Option.some.inj h)) (congrArg (a₁ := ((M1.1 0 13), M1)) (fun z => Em ad cI cZ z.2) (Option.some.inj h)) dX5_count_81
set_option maxHeartbeats 4000000 in
set_option maxRecDepth 100000 in
theorem kX5_trace (l : Launch) (D : va_G) (cI cZ : ClassId) (ad : Nat → Nat) {X : State → Prop} (hX0 : mX ad 14 X)  (M : Mem) (res : (Int64 × Mem)) (h : fX5_trace M = some res) : mC l yX5_trace wsX5_trace { frames := 0, cells := 0, slots := 0, locals := 0 } D [(cI, .int), (cZ, .boolean)] ad 14 X [.ref (ad 0)] (Em ad cI cZ M) (some (.long res.1)) (Em ad cI cZ res.2) := by
  refine m_ofW (cc := cX5_trace) (maxL := 1) (ret := (some .long)) (by decide) rfl (Nat.le_of_ble_eq_true rfl) ?_
  intro p e s m args below meth c hx hb hml hr hlocks hts hown hKv hXs ls hl hM
  have hXk := hX0
  have Z : mZ p s m args meth c cX5_trace 1 (some .long) wsX5_trace RX5 D [(cI, .int), (cZ, .boolean)] X := ⟨hx, hb, hml, hr, hlocks, hts, hown, hKv, hXs⟩
  replace hown : s.vm.findClass RX5 = some m.cls := hown
  have hl : lv_has ls 1 [(0, .ref (ad 0))] := hl
  have k0 := hts (Cond.fieldLink RX5 53 "NoonWalkerModel" "thrown" "I") (List.mem_of_getElem? (i := 1) rfl)
  have k1 := hts (Cond.fieldLink RX5 203 "NoonWalkerModel" "trace" "J") (List.mem_of_getElem? (i := 2) rfl)
  unfold fX5_trace at h
  refine lv_aload_n hx hb dX5_trace_0 rfl (lv_at hl 0 rfl) ?_
  refine lv_iconst (v := (0 : Int32)) hx hb dX5_trace_1 (by decide) ?_
  obtain ⟨M1, hM1, h⟩ := Option.bind_eq_some_iff.mp h
  refine m_put hx hb hts hown hKv hM (fun _ h => List.mem_cons_of_mem _ (List.mem_append_right _ (h))) tyX5 tyX5_ok nmX5 (by decide) at_X5 rfl 0 (by decide) k0 rfl rfl rfl (Nat.le_of_ble_eq_true rfl) (pt_X5_0 (Option.some.inj hM1)) dX5_trace_2 (fun H locs hM => ?_)
  refine lv_aload_n hx hb dX5_trace_5 rfl (lv_at hl 0 rfl) ?_
  refine m_get hx hb hts hown hKv hM (fun _ h => List.mem_cons_of_mem _ (List.mem_append_right _ (h))) (by decide) at_X5 rfl 1 (by decide) k1 (v := .long M1.2) rfl dX5_trace_6 ?_
  exact m_lret hx hb hr hlocks hM (congrArg (a₁ := (M1.2, M1)) Prod.fst (Option.some.inj h)) (congrArg (a₁ := (M1.2, M1)) (fun z => Em ad cI cZ z.2) (Option.some.inj h)) dX5_trace_9
