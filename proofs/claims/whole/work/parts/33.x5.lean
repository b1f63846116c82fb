/-! contracts -/
set_option maxHeartbeats 4000000 in
set_option maxRecDepth 100000 in
theorem kX5_in (l : Launch) (D : va_G) (cI cZ : ClassId) (ad : Nat → Nat) {X : State → Prop} (hX0 : mX ad 14 X) (a0 : Int32) (a1 : Int32) (a2 : Int32) (M : Mem) (res : Int32) (h : fX5_in a0 a1 a2 = some res) : mC l yX5_in wsX5_in { frames := 0, cells := 0, slots := 0, locals := 0 } D [(cI, .int), (cZ, .boolean)] ad 14 X [.int a0, .int a1, .int a2] (Em ad cI cZ M) (some (.int res)) (Em ad cI cZ M) := by
  refine m_ofW (cc := cX5_in) (maxL := 3) (ret := (some .boolean)) (by decide) rfl (Nat.le_of_ble_eq_true rfl) ?_
  intro p e s m args below meth c hx hb hml hr hlocks hts hown hKv hXs ls hl hM
  have hXk := hX0
  have Z : mZ p s m args meth c cX5_in 3 (some .boolean) wsX5_in RX5 D [(cI, .int), (cZ, .boolean)] X := ⟨hx, hb, hml, hr, hlocks, hts, hown, hKv, hXs⟩
  replace hown : s.vm.findClass RX5 = some m.cls := hown
  have hl : lv_has ls 3 [(0, .int a0), (1, .int a1), (2, .int a2)] := hl
  unfold fX5_in at h
  refine lv_iload_n hx hb dX5_in_0 rfl (lv_at hl 0 rfl) ?_
  refine lv_iload_n hx hb dX5_in_1 rfl (lv_at hl 1 rfl) ?_
  refine lv_icmp_lt (tgt := 14) hx hb dX5_in_2 (by decide) (fun c1 => ?_) (fun c1 => ?_)
  · replace h := (if_pos c1).symm.trans h
    refine lv_iconst (v := (0 : Int32)) hx hb dX5_in_14 (by decide) ?_
    exact m_zret hx hb hr hlocks hM (Option.some.inj h) rfl rfl dX5_in_15
  · replace h := (if_neg c1).symm.trans h
    refine lv_iload_n hx hb dX5_in_5 rfl (lv_at hl 0 rfl) ?_
    refine lv_iload_n hx hb dX5_in_6 rfl (lv_at hl 2 rfl) ?_
    refine lv_icmp_gt (tgt := 14) hx hb dX5_in_7 (by decide) (fun c2 => ?_) (fun c2 => ?_)
    · replace h := (if_pos c2).symm.trans h
      refine lv_iconst (v := (0 : Int32)) hx hb dX5_in_14 (by decide) ?_
      exact m_zret hx hb hr hlocks hM (Option.some.inj h) rfl rfl dX5_in_15
    · replace h := (if_neg c2).symm.trans h
      refine lv_iconst (v := (1 : Int32)) hx hb dX5_in_10 (by decide) ?_
      refine lv_goto (tgt := 15) hx hb dX5_in_11 (by decide) ?_
      exact m_zret hx hb hr hlocks hM (Option.some.inj h) rfl rfl dX5_in_15
set_option maxHeartbeats 4000000 in
set_option maxRecDepth 100000 in
theorem kX5_lesser (l : Launch) (D : va_G) (cI cZ : ClassId) (ad : Nat → Nat) {X : State → Prop} (hX0 : mX ad 14 X) (a0 : Int32) (a1 : Int32) (M : Mem) (res : Int32) (h : fX5_lesser a0 a1 = some res) : mC l yX5_lesser wsX5_lesser { frames := 0, cells := 0, slots := 0, locals := 0 } D [(cI, .int), (cZ, .boolean)] ad 14 X [.int a0, .int a1] (Em ad cI cZ M) (some (.int res)) (Em ad cI cZ M) := by
  refine m_ofW (cc := cX5_lesser) (maxL := 2) (ret := (some .int)) (by decide) rfl (Nat.le_of_ble_eq_true rfl) ?_
  intro p e s m args below meth c hx hb hml hr hlocks hts hown hKv hXs ls hl hM
  have hXk := hX0
  have Z : mZ p s m args meth c cX5_lesser 2 (some .int) wsX5_lesser RX5 D [(cI, .int), (cZ, .boolean)] X := ⟨hx, hb, hml, hr, hlocks, hts, hown, hKv, hXs⟩
  replace hown : s.vm.findClass RX5 = some m.cls := hown
  have hl : lv_has ls 2 [(0, .int a0), (1, .int a1)] := hl
  unfold fX5_lesser at h
  refine lv_iload_n hx hb dX5_lesser_0 rfl (lv_at hl 0 rfl) ?_
  refine lv_iload_n hx hb dX5_lesser_1 rfl (lv_at hl 1 rfl) ?_
  refine lv_icmp_ge (tgt := 9) hx hb dX5_lesser_2 (by decide) (fun c1 => ?_) (fun c1 => ?_)
  · replace h := (if_pos c1).symm.trans h
    refine lv_iload_n hx hb dX5_lesser_9 rfl (lv_at hl 1 rfl) ?_
    exact m_iret hx hb hr hlocks hM (Option.some.inj h) rfl dX5_lesser_10
  · replace h := (if_neg c1).symm.trans h
    refine lv_iload_n hx hb dX5_lesser_5 rfl (lv_at hl 0 rfl) ?_
    refine lv_goto (tgt := 10) hx hb dX5_lesser_6 (by decide) ?_
    exact m_iret hx hb hr hlocks hM (Option.some.inj h) rfl dX5_lesser_10
set_option maxHeartbeats 4000000 in
set_option maxRecDepth 100000 in
theorem wX5_type_37 {p : Program} {l : Launch} {e : Env} {s : State} {m : MethodId} {args : Array Value} {below : List Frame} {meth : Method} {c : Code} {D : va_G} {cI cZ : ClassId} {ad : Nat → Nat} {X : State → Prop} (Z : mZ p s m args meth c cX5_type 5 (some .int) wsX5_type RX5 D [(cI, .int), (cZ, .boolean)] X) (hX0 : mX ad 14 X)   (u1 : Int64)  {K : Mem → Option (Int32 × Mem)} (res : (Int32 × Mem)) (hKc : ∀  (M1 : Mem), K  M1 = some res → ∀ (H : Heap) (locs : List Loc) (ls : Array Slot), lv_has ls 5 [(0, .ref (ad 0))] → mH D ad 14 (Em ad cI cZ M1) s.heap H locs → W p l e { frames := 1, cells := 0, slots := 0, locals := 22 } s m args below meth c H locs 0 0 (MQ below (mQ D ad 14 (some (.int res.1)) (Em ad cI cZ res.2)) args s 0 0 (mA ad 14)) (F0 m 79 ls [])) :
    ∀ (n : Nat) (v4 : Int32) (M : Mem), fX5_type_37 u1 K n v4 M = some res → ∀ (H : Heap) (locs : List Loc) (ls : Array Slot), lv_has ls 5 [(0, .ref (ad 0)), (1, .long u1), (4, .int v4)] → mH D ad 14 (Em ad cI cZ M) s.heap H locs → W p l e { frames := 1, cells := 0, slots := 0, locals := 22 } s m args below meth c H locs 0 0 (MQ below (mQ D ad 14 (some (.int res.1)) (Em ad cI cZ res.2)) args s 0 0 (mA ad 14)) (F0 m 37 ls []) := by
  obtain ⟨hx, hb, hml, hr, hlocks, hts, hown, hKv, hXs⟩ := id Z
  have hXk := hX0
  have k0 := hts (Cond.fieldLink RX5 7 "NoonWalkerModel" "text" "[I") (List.mem_of_getElem? (i := 3) rfl)
  have k1 := hts (Cond.fieldLink RX5 61 "NoonWalkerModel" "typed" "I") (List.mem_of_getElem? (i := 2) rfl)
  have k2 := hts (Cond.constantLong RX5 64 (255)) (List.mem_of_getElem? (i := 4) rfl)
  intro n
  induction n with
  | zero => intro _ _ h; exact absurd h (by unfold fX5_type_37; exact fun h => by cases h)
  | succ n ih =>
    intro v4 M h H locs ls hl hM
    rw [fX5_type_37] at h
    refine lv_iload hx hb dX5_type_37 (lv_at hl 2 rfl) ?_
    refine lv_if_lt (tgt := 79) hx hb dX5_type_39 (by decide) (fun c1 => ?_) (fun c1 => ?_)
    · replace h := (if_pos c1).symm.trans h
      exact hKc _ h _ _ _ (lv_sub hl [0] rfl) hM
    · replace h := (if_neg c1).symm.trans h
      refine lv_aload_n hx hb dX5_type_42 rfl (lv_at hl 0 rfl) ?_
      refine m_get hx hb hts hown hKv hM (fun _ h => List.mem_cons_of_mem _ (List.mem_append_right _ (h))) (by decide) at_X5 rfl 2 (by decide) k0 (v := .ref (ad 1)) rfl dX5_type_43 ?_
      refine lv_aload_n hx hb dX5_type_46 rfl (lv_at hl 0 rfl) ?_
      refine m_get hx hb hts hown hKv hM (fun _ h => List.mem_cons_of_mem _ (List.mem_append_right _ (h))) (by decide) at_X5 rfl 3 (by decide) k1 (v := .int (M.1 0 3)) rfl dX5_type_47 ?_
      refine lv_lload_n hx hb dX5_type_50 rfl (lv_at hl 1 rfl) ?_
      refine lv_bipush (v := (8 : Int32)) hx hb dX5_type_51 (by decide) ?_
      refine lv_iload hx hb dX5_type_53 (lv_at hl 2 rfl) ?_
      refine lv_imul hx hb dX5_type_55 ?_
      refine lv_lshr (v := (u1 >>> (Int32.toInt64 ((8 : Int32) * v4) &&& 63))) hx hb dX5_type_56 rfl ?_
      refine lv_ldc2 (v := (255 : Int64)) hx hb hown k2 dX5_type_57 ?_
      refine lv_land hx hb dX5_type_60 ?_
      refine lv_l2i (v := (Int64.toInt32 ((u1 >>> (Int32.toInt64 ((8 : Int32) * v4) &&& 63)) &&& (255 : Int64)))) hx hb dX5_type_61 rfl ?_
      obtain ⟨M2, hM2, h⟩ := Option.bind_eq_some_iff.mp h
      refine m_iast hx hb hKv hM (by decide) at_X5_1 0 rfl (sta_some hM2).1 (pa_X5_1 (sta_some hM2).2) dX5_type_62 (fun H locs hM => ?_)
      refine lv_aload_n hx hb dX5_type_63 rfl (lv_at hl 0 rfl) ?_
      refine lv_dup hx hb dX5_type_64 rfl ?_
      refine m_get hx hb hts hown hKv hM (fun _ h => List.mem_cons_of_mem _ (List.mem_append_right _ (h))) (by decide) at_X5 rfl 3 (by decide) k1 (v := .int (M2.1 0 3)) rfl dX5_type_65 ?_
      refine lv_iconst (v := (1 : Int32)) hx hb dX5_type_68 (by decide) ?_
      refine lv_iadd hx hb dX5_type_69 ?_
      obtain ⟨M3, hM3, h⟩ := Option.bind_eq_some_iff.mp h
      refine m_put hx hb hts hown hKv hM (fun _ h => List.mem_cons_of_mem _ (List.mem_append_right _ (h))) tyX5 tyX5_ok nmX5 (by decide) at_X5 rfl 3 (by decide) k1 rfl rfl rfl (Nat.le_of_ble_eq_true rfl) (pt_X5_3 (Option.some.inj hM3)) dX5_type_70 (fun H locs hM => ?_)
      refine lv_iinc (v := (v4 + (-1))) (lv' := [(4, .int (v4 + (-1))), (0, .ref (ad 0)), (1, .long u1)]) hx hb dX5_type_73 hl (k := 2) rfl rfl (by decide) rfl (fun ls hl => ?_)
      refine lv_goto (tgt := 37) hx hb dX5_type_76 (by decide) ?_
      exact ih _ _ h _ _ _ (lv_sub hl [1, 2, 0] rfl) hM
set_option maxHeartbeats 4000000 in
set_option maxRecDepth 100000 in
theorem kX5_type (l : Launch) (D : va_G) (cI cZ : ClassId) (ad : Nat → Nat) {X : State → Prop} (hX0 : mX ad 14 X) (a1 : Int64) (a3 : Int32) (M : Mem) (res : (Int32 × Mem)) (h : fX5_type a1 a3 M = some res) : mC l yX5_type wsX5_type { frames := 1, cells := 0, slots := 0, locals := 22 } D [(cI, .int), (cZ, .boolean)] ad 14 X [.ref (ad 0), .long a1, .int a3] (Em ad cI cZ M) (some (.int res.1)) (Em ad cI cZ res.2) := by
  refine m_ofW (cc := cX5_type) (maxL := 5) (ret := (some .int)) (by decide) rfl (Nat.le_of_ble_eq_true rfl) ?_
  intro p e s m args below meth c hx hb hml hr hlocks hts hown hKv hXs ls hl hM
  have hXk := hX0
  have Z : mZ p s m args meth c cX5_type 5 (some .int) wsX5_type RX5 D [(cI, .int), (cZ, .boolean)] X := ⟨hx, hb, hml, hr, hlocks, hts, hown, hKv, hXs⟩
  replace hown : s.vm.findClass RX5 = some m.cls := hown
  have hl : lv_has ls 5 [(0, .ref (ad 0)), (1, .long a1), (3, .int a3)] := hl
  have k0 := hts (Cond.fieldLink RX5 53 "NoonWalkerModel" "thrown" "I") (List.mem_of_getElem? (i := 1) rfl)
  have k1 := hts (Cond.fieldLink RX5 61 "NoonWalkerModel" "typed" "I") (List.mem_of_getElem? (i := 2) rfl)
  unfold fX5_type at h
  refine lv_aload_n hx hb dX5_type_0 rfl (lv_at hl 0 rfl) ?_
  refine lv_iconst (v := (0 : Int32)) hx hb dX5_type_1 (by decide) ?_
  obtain ⟨M1, hM1, h⟩ := Option.bind_eq_some_iff.mp h
  refine m_put hx hb hts hown hKv hM (fun _ h => List.mem_cons_of_mem _ (List.mem_append_right _ (h))) tyX5 tyX5_ok nmX5 (by decide) at_X5 rfl 0 (by decide) k0 rfl rfl rfl (Nat.le_of_ble_eq_true rfl) (pt_X5_0 (Option.some.inj hM1)) dX5_type_2 (fun H locs hM => ?_)
  refine lv_iload_n hx hb dX5_type_5 rfl (lv_at hl 2 rfl) ?_
  refine lv_iconst (v := (1 : Int32)) hx hb dX5_type_6 (by decide) ?_
  refine lv_bipush (v := (8 : Int32)) hx hb dX5_type_7 (by decide) ?_
  obtain ⟨x2, hx2, h⟩ := Option.bind_eq_some_iff.mp h
  refine m_callS (As := [.int a3, .int (1 : Int32), .int (8 : Int32)]) (st1 := [.int x2]) hx hb (hml.trans hl.1.symm) hown hts hKv hXs hXk hM (kX5_in l D cI cZ ad hX0 a3 (1 : Int32) (8 : Int32) M1 _ hx2) (va_cwS 3 hts gX5_type_X5_in rfl rfl rfl (by decide +kernel) ⟨Nat.le_of_ble_eq_true rfl, Nat.le_of_ble_eq_true rfl⟩) rfl rfl rfl (Nat.le_of_ble_eq_true rfl) dX5_type_9 ⟨Nat.zero_le _, Nat.zero_le _⟩ (fun H locs hM => ?_)
  refine lv_if_ne (tgt := 17) hx hb dX5_type_12 (by decide) (fun c3 => ?_) (fun c3 => ?_)
  · replace h := (if_neg c3).symm.trans h
    refine lv_aload_n hx hb dX5_type_17 rfl (lv_at hl 0 rfl) ?_
    refine m_get hx hb hts hown hKv hM (fun _ h => List.mem_cons_of_mem _ (List.mem_append_right _ (h))) (by decide) at_X5 rfl 3 (by decide) k1 (v := .int (M1.1 0 3)) rfl dX5_type_18 ?_
    refine lv_iload_n hx hb dX5_type_21 rfl (lv_at hl 2 rfl) ?_
    refine lv_iadd hx hb dX5_type_22 ?_
    refine lv_sipush (v := (300 : Int32)) hx hb dX5_type_23 (by decide) ?_
    refine lv_icmp_le (tgt := 32) hx hb dX5_type_26 (by decide) (fun c4 => ?_) (fun c4 => ?_)
    · replace h := (if_pos c4).symm.trans h
      refine lv_iload_n hx hb dX5_type_32 rfl (lv_at hl 2 rfl) ?_
      refine lv_iconst (v := (1 : Int32)) hx hb dX5_type_33 (by decide) ?_
      refine lv_isub hx hb dX5_type_34 ?_
      refine lv_istore (lv' := [(4, .int (a3 - (1 : Int32))), (0, .ref (ad 0)), (1, .long a1), (3, .int a3)]) hx hb dX5_type_35 hl (by decide) rfl (fun ls hl => ?_)
      refine wX5_type_37 Z hX0 a1 _ (fun M5 h H locs ls hl hM => ?_) _ _ _ h _ _ _ (lv_sub hl [1, 2, 0] rfl) hM
      refine lv_aload_n hx hb dX5_type_79 rfl (lv_at hl 0 rfl) ?_
      refine m_get hx hb hts hown hKv hM (fun _ h => List.mem_cons_of_mem _ (List.mem_append_right _ (h))) (by decide) at_X5 rfl 3 (by decide) k1 (v := .int (M5.1 0 3)) rfl dX5_type_80 ?_
      exact m_iret hx hb hr hlocks hM (congrArg (a₁ := ((M5.1 0 3), M5)) Prod.fst (Option.some.inj h)) (congrArg (a₁ := ((M5.1 0 3), M5)) (fun z => Em ad cI cZ z.2) (Option.some.inj h)) dX5_type_83
    · replace h := (if_neg c4).symm.trans h
      refine lv_bipush (v := (-3 : Int32)) hx hb dX5_type_29 (by decide) ?_
      exact m_iret hx hb hr hlocks hM (congrArg (a₁ := ((-3 : Int32), M1)) Prod.fst (Option.some.inj h)) (congrArg (a₁ := ((-3 : Int32), M1)) (fun z => Em ad cI cZ z.2) (Option.some.inj h)) dX5_type_31
  · replace h := (if_pos c3).symm.trans h
    refine lv_iconst (v := (-1 : Int32)) hx hb dX5_type_15 (by decide) ?_
    exact m_iret hx hb hr hlocks hM (congrArg (a₁ := ((-1 : Int32), M1)) Prod.fst (Option.some.inj h)) (congrArg (a₁ := ((-1 : Int32), M1)) (fun z => Em ad cI cZ z.2) (Option.some.inj h)) dX5_type_16
set_option maxHeartbeats 4000000 in
set_option maxRecDepth 100000 in
theorem kX5_clear (l : Launch) (D : va_G) (cI cZ : ClassId) (ad : Nat → Nat) {X : State → Prop} (hX0 : mX ad 14 X)  (M : Mem) (res : (Int32 × Mem)) (h : fX5_clear M = some res) : mC l yX5_clear wsX5_clear { frames := 0, cells := 0, slots := 0, locals := 0 } D [(cI, .int), (cZ, .boolean)] ad 14 X [.ref (ad 0)] (Em ad cI cZ M) (some (.int res.1)) (Em ad cI cZ res.2) := by
  refine m_ofW (cc := cX5_clear) (maxL := 2) (ret := (some .int)) (by decide) rfl (Nat.le_of_ble_eq_true rfl) ?_
  intro p e s m args below meth c hx hb hml hr hlocks hts hown hKv hXs ls hl hM
  have hXk := hX0
  have Z : mZ p s m args meth c cX5_clear 2 (some .int) wsX5_clear RX5 D [(cI, .int), (cZ, .boolean)] X := ⟨hx, hb, hml, hr, hlocks, hts, hown, hKv, hXs⟩
  replace hown : s.vm.findClass RX5 = some m.cls := hown
  have hl : lv_has ls 2 [(0, .ref (ad 0))] := hl
  have k0 := hts (Cond.fieldLink RX5 53 "NoonWalkerModel" "thrown" "I") (List.mem_of_getElem? (i := 1) rfl)
  have k1 := hts (Cond.fieldLink RX5 61 "NoonWalkerModel" "typed" "I") (List.mem_of_getElem? (i := 2) rfl)
  unfold fX5_clear at h
  refine lv_aload_n hx hb dX5_clear_0 rfl (lv_at hl 0 rfl) ?_
  refine lv_iconst (v := (0 : Int32)) hx hb dX5_clear_1 (by decide) ?_
  obtain ⟨M1, hM1, h⟩ := Option.bind_eq_some_iff.mp h
  refine m_put hx hb hts hown hKv hM (fun _ h => List.mem_cons_of_mem _ (List.mem_append_right _ (h))) tyX5 tyX5_ok nmX5 (by decide) at_X5 rfl 0 (by decide) k0 rfl rfl rfl (Nat.le_of_ble_eq_true rfl) (pt_X5_0 (Option.some.inj hM1)) dX5_clear_2 (fun H locs hM => ?_)
  refine lv_aload_n hx hb dX5_clear_5 rfl (lv_at hl 0 rfl) ?_
  refine m_get hx hb hts hown hKv hM (fun _ h => List.mem_cons_of_mem _ (List.mem_append_right _ (h))) (by decide) at_X5 rfl 3 (by decide) k1 (v := .int (M1.1 0 3)) rfl dX5_clear_6 ?_
  refine lv_istore_n (lv' := [(1, .int (M1.1 0 3)), (0, .ref (ad 0))]) hx hb dX5_clear_9 rfl hl (by decide) rfl (fun ls hl => ?_)
  refine lv_aload_n hx hb dX5_clear_10 rfl (lv_at hl 1 rfl) ?_
  refine lv_iconst (v := (0 : Int32)) hx hb dX5_clear_11 (by decide) ?_
  obtain ⟨M2, hM2, h⟩ := Option.bind_eq_some_iff.mp h
  refine m_put hx hb hts hown hKv hM (fun _ h => List.mem_cons_of_mem _ (List.mem_append_right _ (h))) tyX5 tyX5_ok nmX5 (by decide) at_X5 rfl 3 (by decide) k1 rfl rfl rfl (Nat.le_of_ble_eq_true rfl) (pt_X5_3 (Option.some.inj hM2)) dX5_clear_12 (fun H locs hM => ?_)
  refine lv_iload_n hx hb dX5_clear_15 rfl (lv_at hl 0 rfl) ?_
  exact m_iret hx hb hr hlocks hM (congrArg (a₁ := ((M1.1 0 3), M2)) Prod.fst (Option.some.inj h)) (congrArg (a₁ := ((M1.1 0 3), M2)) (fun z => Em ad cI cZ z.2) (Option.some.inj h)) dX5_clear_16
set_option maxHeartbeats 4000000 in
set_option maxRecDepth 100000 in
theorem kX5_byteAt (l : Launch) (D : va_G) (cI cZ : ClassId) (ad : Nat → Nat) {X : State → Prop} (hX0 : mX ad 14 X) (a1 : Int32) (M : Mem) (res : Int32) (h : fX5_byteAt a1 M = some res) : mC l yX5_byteAt wsX5_byteAt { frames := 0, cells := 0, slots := 0, locals := 0 } D [(cI, .int), (cZ, .boolean)] ad 14 X [.ref (ad 0), .int a1] (Em ad cI cZ M) (some (.int res)) (Em ad cI cZ M) := by
  refine m_ofW (cc := cX5_byteAt) (maxL := 2) (ret := (some .int)) (by decide) rfl (Nat.le_of_ble_eq_true rfl) ?_
  intro p e s m args below meth c hx hb hml hr hlocks hts hown hKv hXs ls hl hM
  have hXk := hX0
  have Z : mZ p s m args meth c cX5_byteAt 2 (some .int) wsX5_byteAt RX5 D [(cI, .int), (cZ, .boolean)] X := ⟨hx, hb, hml, hr, hlocks, hts, hown, hKv, hXs⟩
  replace hown : s.vm.findClass RX5 = some m.cls := hown
  have hl : lv_has ls 2 [(0, .ref (ad 0)), (1, .int a1)] := hl
  have k0 := hts (Cond.fieldLink RX5 61 "NoonWalkerModel" "typed" "I") (List.mem_of_getElem? (i := 1) rfl)
  have k1 := hts (Cond.fieldLink RX5 7 "NoonWalkerModel" "text" "[I") (List.mem_of_getElem? (i := 2) rfl)
  unfold fX5_byteAt at h
  refine lv_iload_n hx hb dX5_byteAt_0 rfl (lv_at hl 1 rfl) ?_
  refine lv_aload_n hx hb dX5_byteAt_1 rfl (lv_at hl 0 rfl) ?_
  refine m_get hx hb hts hown hKv hM (fun _ h => List.mem_cons_of_mem _ (List.mem_append_right _ (h))) (by decide) at_X5 rfl 3 (by decide) k0 (v := .int (M.1 0 3)) rfl dX5_byteAt_2 ?_
  refine lv_icmp_ge (tgt := 17) hx hb dX5_byteAt_5 (by decide) (fun c1 => ?_) (fun c1 => ?_)
  · replace h := (if_pos c1).symm.trans h
    refine lv_iconst (v := (-1 : Int32)) hx hb dX5_byteAt_17 (by decide) ?_
    exact m_iret hx hb hr hlocks hM (Option.some.inj h) rfl dX5_byteAt_18
  · replace h := (if_neg c1).symm.trans h
    refine lv_aload_n hx hb dX5_byteAt_8 rfl (lv_at hl 0 rfl) ?_
    refine m_get hx hb hts hown hKv hM (fun _ h => List.mem_cons_of_mem _ (List.mem_append_right _ (h))) (by decide) at_X5 rfl 2 (by decide) k1 (v := .ref (ad 1)) rfl dX5_byteAt_9 ?_
    refine lv_iload_n hx hb dX5_byteAt_12 rfl (lv_at hl 1 rfl) ?_
    obtain ⟨x2, hx2, h⟩ := Option.bind_eq_some_iff.mp h
    refine m_iald hx hb hKv hM (by decide) at_X5_1 0 rfl hx2 dX5_byteAt_13 ?_
    refine lv_goto (tgt := 18) hx hb dX5_byteAt_14 (by decide) ?_
    exact m_iret hx hb hr hlocks hM (Option.some.inj h) rfl dX5_byteAt_18
set_option maxHeartbeats 4000000 in
set_option maxRecDepth 100000 in
theorem kX5_named (l : Launch) (D : va_G) (cI cZ : ClassId) (ad : Nat → Nat) {X : State → Prop} (hX0 : mX ad 14 X) (a0 : Int32) (a1 : Int32) (a2 : Int32) (a3 : Int32) (M : Mem) (res : Int64) (h : fX5_named a0 a1 a2 a3 = some res) : mC l yX5_named wsX5_named { frames := 0, cells := 0, slots := 0, locals := 0 } D [(cI, .int), (cZ, .boolean)] ad 14 X [.int a0, .int a1, .int a2, .int a3] (Em ad cI cZ M) (some (.long res)) (Em ad cI cZ M) := by
  refine m_ofW (cc := cX5_named) (maxL := 4) (ret := (some .long)) (by decide) rfl (Nat.le_of_ble_eq_true rfl) ?_
  intro p e s m args below meth c hx hb hml hr hlocks hts hown hKv hXs ls hl hM
  have hXk := hX0
  have Z : mZ p s m args meth c cX5_named 4 (some .long) wsX5_named RX5 D [(cI, .int), (cZ, .boolean)] X := ⟨hx, hb, hml, hr, hlocks, hts, hown, hKv, hXs⟩
  replace hown : s.vm.findClass RX5 = some m.cls := hown
  have hl : lv_has ls 4 [(0, .int a0), (1, .int a1), (2, .int a2), (3, .int a3)] := hl
  have k0 := hts (Cond.constantLong RX5 66 (16777216)) (List.mem_of_getElem? (i := 1) rfl)
  have k1 := hts (Cond.constantLong RX5 68 (65536)) (List.mem_of_getElem? (i := 2) rfl)
  have k2 := hts (Cond.constantLong RX5 70 (256)) (List.mem_of_getElem? (i := 3) rfl)
  unfold fX5_named at h
  refine lv_ldc2 (v := (16777216 : Int64)) hx hb hown k0 dX5_named_0 ?_
  refine lv_iload_n hx hb dX5_named_3 rfl (lv_at hl 0 rfl) ?_
  refine lv_i2l (v := (Int32.toInt64 a0)) hx hb dX5_named_4 rfl ?_
  refine lv_lmul hx hb dX5_named_5 ?_
  refine lv_ldc2 (v := (65536 : Int64)) hx hb hown k1 dX5_named_6 ?_
  refine lv_iload_n hx hb dX5_named_9 rfl (lv_at hl 1 rfl) ?_
  refine lv_i2l (v := (Int32.toInt64 a1)) hx hb dX5_named_10 rfl ?_
  refine lv_lmul hx hb dX5_named_11 ?_
  refine lv_ladd hx hb dX5_named_12 ?_
  refine lv_ldc2 (v := (256 : Int64)) hx hb hown k2 dX5_named_13 ?_
  refine lv_iload_n hx hb dX5_named_16 rfl (lv_at hl 2 rfl) ?_
  refine lv_i2l (v := (Int32.toInt64 a2)) hx hb dX5_named_17 rfl ?_
  refine lv_lmul hx hb dX5_named_18 ?_
  refine lv_ladd hx hb dX5_named_19 ?_
  refine lv_iload_n hx hb dX5_named_20 rfl (lv_at hl 3 rfl) ?_
  refine lv_i2l (v := (Int32.toInt64 a3)) hx hb dX5_named_21 rfl ?_
  refine lv_ladd hx hb dX5_named_22 ?_
  exact m_lret hx hb hr hlocks hM (Option.some.inj h) rfl dX5_named_23
set_option maxHeartbeats 4000000 in
set_option maxRecDepth 100000 in
theorem kX5_wordOf (l : Launch) (D : va_G) (cI cZ : ClassId) (ad : Nat → Nat) {X : State → Prop} (hX0 : mX ad 14 X) (a0 : Int64) (M : Mem) (res : Int32) (h : fX5_wordOf a0 = some res) : mC l yX5_wordOf wsX5_wordOf { frames := 1, cells := 0, slots := 0, locals := 23 } D [(cI, .int), (cZ, .boolean)] ad 14 X [.long a0] (Em ad cI cZ M) (some (.int res)) (Em ad cI cZ M) := by
  refine m_ofW (cc := cX5_wordOf) (maxL := 2) (ret := (some .int)) (by decide) rfl (Nat.le_of_ble_eq_true rfl) ?_
  intro p e s m args below meth c hx hb hml hr hlocks hts hown hKv hXs ls hl hM
  have hXk := hX0
  have Z : mZ p s m args meth c cX5_wordOf 2 (some .int) wsX5_wordOf RX5 D [(cI, .int), (cZ, .boolean)] X := ⟨hx, hb, hml, hr, hlocks, hts, hown, hKv, hXs⟩
  replace hown : s.vm.findClass RX5 = some m.cls := hown
  have hl : lv_has ls 2 [(0, .long a0)] := hl
  unfold fX5_wordOf at h
  refine lv_lload_n hx hb dX5_wordOf_0 rfl (lv_at hl 0 rfl) ?_
  refine lv_bipush (v := (116 : Int32)) hx hb dX5_wordOf_1 (by decide) ?_
  refine lv_bipush (v := (111 : Int32)) hx hb dX5_wordOf_3 (by decide) ?_
  refine lv_bipush (v := (119 : Int32)) hx hb dX5_wordOf_5 (by decide) ?_
  refine lv_bipush (v := (110 : Int32)) hx hb dX5_wordOf_7 (by decide) ?_
  obtain ⟨x1, hx1, h⟩ := Option.bind_eq_some_iff.mp h
  refine m_callS (As := [.int (116 : Int32), .int (111 : Int32), .int (119 : Int32), .int (110 : Int32)]) (st1 := [.long x1, .long a0]) hx hb (hml.trans hl.1.symm) hown hts hKv hXs hXk hM (kX5_named l D cI cZ ad hX0 (116 : Int32) (111 : Int32) (119 : Int32) (110 : Int32) M _ hx1) (va_cwS 4 hts gX5_wordOf_X5_named rfl rfl rfl (by decide +kernel) ⟨Nat.le_of_ble_eq_true rfl, Nat.le_of_ble_eq_true rfl⟩) rfl rfl rfl (Nat.le_of_ble_eq_true rfl) dX5_wordOf_9 ⟨Nat.zero_le _, Nat.zero_le _⟩ (fun H locs hM => ?_)
  refine W.lcmp hx hb dX5_wordOf_12 ?_
  refine lv_if_ne (tgt := 20) hx hb dX5_wordOf_13 (by decide) (fun c2 => ?_) (fun c2 => ?_)
  · replace h := (if_neg c2).symm.trans h
    refine lv_lload_n hx hb dX5_wordOf_20 rfl (lv_at hl 0 rfl) ?_
    refine lv_bipush (v := (114 : Int32)) hx hb dX5_wordOf_21 (by decide) ?_
    refine lv_bipush (v := (111 : Int32)) hx hb dX5_wordOf_23 (by decide) ?_
    refine lv_bipush (v := (97 : Int32)) hx hb dX5_wordOf_25 (by decide) ?_
    refine lv_bipush (v := (100 : Int32)) hx hb dX5_wordOf_27 (by decide) ?_
    obtain ⟨x3, hx3, h⟩ := Option.bind_eq_some_iff.mp h
    refine m_callS (As := [.int (114 : Int32), .int (111 : Int32), .int (97 : Int32), .int (100 : Int32)]) (st1 := [.long x3, .long a0]) hx hb (hml.trans hl.1.symm) hown hts hKv hXs hXk hM (kX5_named l D cI cZ ad hX0 (114 : Int32) (111 : Int32) (97 : Int32) (100 : Int32) M _ hx3) (va_cwS 4 hts gX5_wordOf_X5_named rfl rfl rfl (by decide +kernel) ⟨Nat.le_of_ble_eq_true rfl, Nat.le_of_ble_eq_true rfl⟩) rfl rfl rfl (Nat.le_of_ble_eq_true rfl) dX5_wordOf_29 ⟨Nat.zero_le _, Nat.zero_le _⟩ (fun H locs hM => ?_)
    refine W.lcmp hx hb dX5_wordOf_32 ?_
    refine lv_if_ne (tgt := 40) hx hb dX5_wordOf_33 (by decide) (fun c4 => ?_) (fun c4 => ?_)
    · replace h := (if_neg c4).symm.trans h
      refine lv_lload_n hx hb dX5_wordOf_40 rfl (lv_at hl 0 rfl) ?_
      refine lv_bipush (v := (115 : Int32)) hx hb dX5_wordOf_41 (by decide) ?_
      refine lv_bipush (v := (116 : Int32)) hx hb dX5_wordOf_43 (by decide) ?_
      refine lv_bipush (v := (111 : Int32)) hx hb dX5_wordOf_45 (by decide) ?_
      refine lv_bipush (v := (112 : Int32)) hx hb dX5_wordOf_47 (by decide) ?_
      obtain ⟨x5, hx5, h⟩ := Option.bind_eq_some_iff.mp h
      refine m_callS (As := [.int (115 : Int32), .int (116 : Int32), .int (111 : Int32), .int (112 : Int32)]) (st1 := [.long x5, .long a0]) hx hb (hml.trans hl.1.symm) hown hts hKv hXs hXk hM (kX5_named l D cI cZ ad hX0 (115 : Int32) (116 : Int32) (111 : Int32) (112 : Int32) M _ hx5) (va_cwS 4 hts gX5_wordOf_X5_named rfl rfl rfl (by decide +kernel) ⟨Nat.le_of_ble_eq_true rfl, Nat.le_of_ble_eq_true rfl⟩) rfl rfl rfl (Nat.le_of_ble_eq_true rfl) dX5_wordOf_49 ⟨Nat.zero_le _, Nat.zero_le _⟩ (fun H locs hM => ?_)
      refine W.lcmp hx hb dX5_wordOf_52 ?_
      refine lv_if_ne (tgt := 60) hx hb dX5_wordOf_53 (by decide) (fun c6 => ?_) (fun c6 => ?_)
      · replace h := (if_neg c6).symm.trans h
        refine lv_bipush (v := (-9 : Int32)) hx hb dX5_wordOf_60 (by decide) ?_
        exact m_iret hx hb hr hlocks hM (Option.some.inj h) rfl dX5_wordOf_62
      · replace h := (if_pos c6).symm.trans h
        refine lv_iconst (v := (2 : Int32)) hx hb dX5_wordOf_56 (by decide) ?_
        refine lv_goto (tgt := 62) hx hb dX5_wordOf_57 (by decide) ?_
        exact m_iret hx hb hr hlocks hM (Option.some.inj h) rfl dX5_wordOf_62
    · replace h := (if_pos c4).symm.trans h
      refine lv_iconst (v := (1 : Int32)) hx hb dX5_wordOf_36 (by decide) ?_
      refine lv_goto (tgt := 62) hx hb dX5_wordOf_37 (by decide) ?_
      exact m_iret hx hb hr hlocks hM (Option.some.inj h) rfl dX5_wordOf_62
  · replace h := (if_pos c2).symm.trans h
    refine lv_iconst (v := (0 : Int32)) hx hb dX5_wordOf_16 (by decide) ?_
    refine lv_goto (tgt := 62) hx hb dX5_wordOf_17 (by decide) ?_
    exact m_iret hx hb hr hlocks hM (Option.some.inj h) rfl dX5_wordOf_62
set_option maxHeartbeats 4000000 in
set_option maxRecDepth 100000 in
theorem wX5_advances_0 {p : Program} {l : Launch} {e : Env} {s : State} {m : MethodId} {args : Array Value} {below : List Frame} {meth : Method} {c : Code} {D : va_G} {cI cZ : ClassId} {ad : Nat → Nat} {X : State → Prop} (Z : mZ p s m args meth c cX5_advances 4 none wsX5_advances RX5 D [(cI, .int), (cZ, .boolean)] X) (hX0 : mX ad 14 X)     {K : Mem → Option Mem} (res : Mem) (hKc : ∀  (M1 : Mem), K  M1 = some res → ∀ (H : Heap) (locs : List Loc) (ls : Array Slot), lv_has ls 4 [(0, .ref (ad 0))] → mH D ad 14 (Em ad cI cZ M1) s.heap H locs → W p l e { frames := 2, cells := 0, slots := 0, locals := 44 } s m args below meth c H locs 0 0 (MQ below (mQ D ad 14 none (Em ad cI cZ res)) args s 0 0 (mA ad 14)) (F0 m 26 ls [])) :
    ∀ (n : Nat) (M : Mem), fX5_advances_0 K n M = some res → ∀ (H : Heap) (locs : List Loc) (ls : Array Slot), lv_has ls 4 [(0, .ref (ad 0))] → mH D ad 14 (Em ad cI cZ M) s.heap H locs → W p l e { frames := 2, cells := 0, slots := 0, locals := 44 } s m args below meth c H locs 0 0 (MQ below (mQ D ad 14 none (Em ad cI cZ res)) args s 0 0 (mA ad 14)) (F0 m 0 ls []) := by
  obtain ⟨hx, hb, hml, hr, hlocks, hts, hown, hKv, hXs⟩ := id Z
  have hXk := hX0
  have k0 := hts (Cond.fieldLink RX5 76 "NoonWalkerModel" "next" "I") (List.mem_of_getElem? (i := 1) rfl)
  intro n
  induction n with
  | zero => intro _ h; exact absurd h (by unfold fX5_advances_0; exact fun h => by cases h)
  | succ n ih =>
    intro M h H locs ls hl hM
    rw [fX5_advances_0] at h
    refine lv_aload_n hx hb dX5_advances_0 rfl (lv_at hl 0 rfl) ?_
    refine lv_aload_n hx hb dX5_advances_1 rfl (lv_at hl 0 rfl) ?_
    refine m_get hx hb hts hown hKv hM (fun _ h => List.mem_cons_of_mem _ (List.mem_append_right _ (h))) (by decide) at_X5 rfl 4 (by decide) k0 (v := .int (M.1 0 4)) rfl dX5_advances_2 ?_
    obtain ⟨x1, hx1, h⟩ := Option.bind_eq_some_iff.mp h
    refine m_callV (As := [.int (M.1 0 4)]) (st1 := [.int x1]) hx hb (hml.trans hl.1.symm) hown hts hKv hXs hXk hM (kX5_byteAt l D cI cZ ad hX0 (M.1 0 4) M _ hx1) (cwV 1 hts gX5_advances_X5_byteAt rfl rfl rfl (by decide +kernel) ⟨Nat.le_of_ble_eq_true rfl, Nat.le_of_ble_eq_true rfl⟩) (by decide) at_X5 rfl rfl rfl rfl (Nat.le_of_ble_eq_true rfl) dX5_advances_5 ⟨Nat.zero_le _, Nat.zero_le _⟩ (fun H locs hM => ?_)
    refine lv_bipush (v := (32 : Int32)) hx hb dX5_advances_8 (by decide) ?_
    refine lv_icmp_ne (tgt := 26) hx hb dX5_advances_10 (by decide) (fun c2 => ?_) (fun c2 => ?_)
    · replace h := (if_neg c2).symm.trans h
      exact hKc _ h _ _ _ (lv_sub hl [0] rfl) hM
    · replace h := (if_pos c2).symm.trans h
      refine lv_aload_n hx hb dX5_advances_13 rfl (lv_at hl 0 rfl) ?_
      refine lv_dup hx hb dX5_advances_14 rfl ?_
      refine m_get hx hb hts hown hKv hM (fun _ h => List.mem_cons_of_mem _ (List.mem_append_right _ (h))) (by decide) at_X5 rfl 4 (by decide) k0 (v := .int (M.1 0 4)) rfl dX5_advances_15 ?_
      refine lv_iconst (v := (1 : Int32)) hx hb dX5_advances_18 (by decide) ?_
      refine lv_iadd hx hb dX5_advances_19 ?_
      obtain ⟨M3, hM3, h⟩ := Option.bind_eq_some_iff.mp h
      refine m_put hx hb hts hown hKv hM (fun _ h => List.mem_cons_of_mem _ (List.mem_append_right _ (h))) tyX5 tyX5_ok nmX5 (by decide) at_X5 rfl 4 (by decide) k0 rfl rfl rfl (Nat.le_of_ble_eq_true rfl) (pt_X5_4 (Option.some.inj hM3)) dX5_advances_20 (fun H locs hM => ?_)
      refine lv_goto (tgt := 0) hx hb dX5_advances_23 (by decide) ?_
      exact ih _ h _ _ _ (lv_sub hl [0] rfl) hM
set_option maxHeartbeats 4000000 in
set_option maxRecDepth 100000 in
theorem wX5_advances_177 {p : Program} {l : Launch} {e : Env} {s : State} {m : MethodId} {args : Array Value} {below : List Frame} {meth : Method} {c : Code} {D : va_G} {cI cZ : ClassId} {ad : Nat → Nat} {X : State → Prop} (Z : mZ p s m args meth c cX5_advances 4 none wsX5_advances RX5 D [(cI, .int), (cZ, .boolean)] X) (hX0 : mX ad 14 X)   (u1 : Int32)  {K : Mem → Option Mem} (res : Mem) (hKc : ∀  (M1 : Mem), K  M1 = some res → ∀ (H : Heap) (locs : List Loc) (ls : Array Slot), lv_has ls 4 [(0, .ref (ad 0)), (1, .int u1)] → mH D ad 14 (Em ad cI cZ M1) s.heap H locs → W p l e { frames := 2, cells := 0, slots := 0, locals := 44 } s m args below meth c H locs 0 0 (MQ below (mQ D ad 14 none (Em ad cI cZ res)) args s 0 0 (mA ad 14)) (F0 m 247 ls [])) :
    ∀ (n : Nat) (M : Mem), fX5_advances_177 u1 K n M = some res → ∀ (H : Heap) (locs : List Loc) (ls : Array Slot), lv_has ls 4 [(0, .ref (ad 0)), (1, .int u1)] → mH D ad 14 (Em ad cI cZ M) s.heap H locs → W p l e { frames := 2, cells := 0, slots := 0, locals := 44 } s m args below meth c H locs 0 0 (MQ below (mQ D ad 14 none (Em ad cI cZ res)) args s 0 0 (mA ad 14)) (F0 m 177 ls []) := by
  obtain ⟨hx, hb, hml, hr, hlocks, hts, hown, hKv, hXs⟩ := id Z
  have hXk := hX0
  have k0 := hts (Cond.fieldLink RX5 76 "NoonWalkerModel" "next" "I") (List.mem_of_getElem? (i := 1) rfl)
  have k1 := hts (Cond.fieldLink RX5 93 "NoonWalkerModel" "value" "I") (List.mem_of_getElem? (i := 5) rfl)
  intro n
  induction n with
  | zero => intro _ h; exact absurd h (by unfold fX5_advances_177; exact fun h => by cases h)
  | succ n ih =>
    intro M h H locs ls hl hM
    rw [fX5_advances_177] at h
    refine lv_aload_n hx hb dX5_advances_177 rfl (lv_at hl 0 rfl) ?_
    refine lv_aload_n hx hb dX5_advances_178 rfl (lv_at hl 0 rfl) ?_
    refine m_get hx hb hts hown hKv hM (fun _ h => List.mem_cons_of_mem _ (List.mem_append_right _ (h))) (by decide) at_X5 rfl 4 (by decide) k0 (v := .int (M.1 0 4)) rfl dX5_advances_179 ?_
    obtain ⟨x1, hx1, h⟩ := Option.bind_eq_some_iff.mp h
    refine m_callV (As := [.int (M.1 0 4)]) (st1 := [.int x1]) hx hb (hml.trans hl.1.symm) hown hts hKv hXs hXk hM (kX5_byteAt l D cI cZ ad hX0 (M.1 0 4) M _ hx1) (cwV 1 hts gX5_advances_X5_byteAt rfl rfl rfl (by decide +kernel) ⟨Nat.le_of_ble_eq_true rfl, Nat.le_of_ble_eq_true rfl⟩) (by decide) at_X5 rfl rfl rfl rfl (Nat.le_of_ble_eq_true rfl) dX5_advances_182 ⟨Nat.zero_le _, Nat.zero_le _⟩ (fun H locs hM => ?_)
    refine lv_bipush (v := (48 : Int32)) hx hb dX5_advances_185 (by decide) ?_
    refine lv_bipush (v := (57 : Int32)) hx hb dX5_advances_187 (by decide) ?_
    obtain ⟨x2, hx2, h⟩ := Option.bind_eq_some_iff.mp h
    refine m_callS (As := [.int x1, .int (48 : Int32), .int (57 : Int32)]) (st1 := [.int x2]) hx hb (hml.trans hl.1.symm) hown hts hKv hXs hXk hM (kX5_in l D cI cZ ad hX0 x1 (48 : Int32) (57 : Int32) M _ hx2) (va_cwS 3 hts gX5_advances_X5_in rfl rfl rfl (by decide +kernel) ⟨Nat.le_of_ble_eq_true rfl, Nat.le_of_ble_eq_true rfl⟩) rfl rfl rfl (Nat.le_of_ble_eq_true rfl) dX5_advances_189 ⟨Nat.zero_le _, Nat.zero_le _⟩ (fun H locs hM => ?_)
    refine lv_if_eq (tgt := 247) hx hb dX5_advances_192 (by decide) (fun c3 => ?_) (fun c3 => ?_)
    · replace h := (if_pos c3).symm.trans h
      exact hKc _ h _ _ _ (lv_sub hl [0, 1] rfl) hM
    · replace h := (if_neg c3).symm.trans h
      refine lv_aload_n hx hb dX5_advances_195 rfl (lv_at hl 0 rfl) ?_
      refine lv_aload_n hx hb dX5_advances_196 rfl (lv_at hl 0 rfl) ?_
      refine m_get hx hb hts hown hKv hM (fun _ h => List.mem_cons_of_mem _ (List.mem_append_right _ (h))) (by decide) at_X5 rfl 7 (by decide) k1 (v := .int (M.1 0 7)) rfl dX5_advances_197 ?_
      refine lv_bipush (v := (99 : Int32)) hx hb dX5_advances_200 (by decide) ?_
      refine lv_icmp_le (tgt := 212) hx hb dX5_advances_202 (by decide) (fun c4 => ?_) (fun c4 => ?_)
      · replace h := (if_pos c4).symm.trans h
        refine lv_bipush (v := (10 : Int32)) hx hb dX5_advances_212 (by decide) ?_
        refine lv_aload_n hx hb dX5_advances_214 rfl (lv_at hl 0 rfl) ?_
        refine m_get hx hb hts hown hKv hM (fun _ h => List.mem_cons_of_mem _ (List.mem_append_right _ (h))) (by decide) at_X5 rfl 7 (by decide) k1 (v := .int (M.1 0 7)) rfl dX5_advances_215 ?_
        refine lv_imul hx hb dX5_advances_218 ?_
        refine lv_aload_n hx hb dX5_advances_219 rfl (lv_at hl 0 rfl) ?_
        refine lv_aload_n hx hb dX5_advances_220 rfl (lv_at hl 0 rfl) ?_
        refine m_get hx hb hts hown hKv hM (fun _ h => List.mem_cons_of_mem _ (List.mem_append_right _ (h))) (by decide) at_X5 rfl 4 (by decide) k0 (v := .int (M.1 0 4)) rfl dX5_advances_221 ?_
        obtain ⟨x5, hx5, h⟩ := Option.bind_eq_some_iff.mp h
        refine m_callV (As := [.int (M.1 0 4)]) (st1 := [.int x5, .int ((10 : Int32) * (M.1 0 7)), .ref (ad 0)]) hx hb (hml.trans hl.1.symm) hown hts hKv hXs hXk hM (kX5_byteAt l D cI cZ ad hX0 (M.1 0 4) M _ hx5) (cwV 1 hts gX5_advances_X5_byteAt rfl rfl rfl (by decide +kernel) ⟨Nat.le_of_ble_eq_true rfl, Nat.le_of_ble_eq_true rfl⟩) (by decide) at_X5 rfl rfl rfl rfl (Nat.le_of_ble_eq_true rfl) dX5_advances_224 ⟨Nat.zero_le _, Nat.zero_le _⟩ (fun H locs hM => ?_)
        refine lv_iadd hx hb dX5_advances_227 ?_
        refine lv_bipush (v := (48 : Int32)) hx hb dX5_advances_228 (by decide) ?_
        refine lv_isub hx hb dX5_advances_230 ?_
        obtain ⟨M6, hM6, h⟩ := Option.bind_eq_some_iff.mp h
        refine m_put hx hb hts hown hKv hM (fun _ h => List.mem_cons_of_mem _ (List.mem_append_right _ (h))) tyX5 tyX5_ok nmX5 (by decide) at_X5 rfl 7 (by decide) k1 rfl rfl rfl (Nat.le_of_ble_eq_true rfl) (pt_X5_7 (Option.some.inj hM6)) dX5_advances_231 (fun H locs hM => ?_)
        refine lv_aload_n hx hb dX5_advances_234 rfl (lv_at hl 0 rfl) ?_
        refine lv_dup hx hb dX5_advances_235 rfl ?_
        refine m_get hx hb hts hown hKv hM (fun _ h => List.mem_cons_of_mem _ (List.mem_append_right _ (h))) (by decide) at_X5 rfl 4 (by decide) k0 (v := .int (M6.1 0 4)) rfl dX5_advances_236 ?_
        refine lv_iconst (v := (1 : Int32)) hx hb dX5_advances_239 (by decide) ?_
        refine lv_iadd hx hb dX5_advances_240 ?_
        obtain ⟨M7, hM7, h⟩ := Option.bind_eq_some_iff.mp h
        refine m_put hx hb hts hown hKv hM (fun _ h => List.mem_cons_of_mem _ (List.mem_append_right _ (h))) tyX5 tyX5_ok nmX5 (by decide) at_X5 rfl 4 (by decide) k0 rfl rfl rfl (Nat.le_of_ble_eq_true rfl) (pt_X5_4 (Option.some.inj hM7)) dX5_advances_241 (fun H locs hM => ?_)
        refine lv_goto (tgt := 177) hx hb dX5_advances_244 (by decide) ?_
        exact ih _ h _ _ _ (lv_sub hl [0, 1] rfl) hM
      · replace h := (if_neg c4).symm.trans h
        refine lv_aload_n hx hb dX5_advances_205 rfl (lv_at hl 0 rfl) ?_
        refine m_get hx hb hts hown hKv hM (fun _ h => List.mem_cons_of_mem _ (List.mem_append_right _ (h))) (by decide) at_X5 rfl 7 (by decide) k1 (v := .int (M.1 0 7)) rfl dX5_advances_206 ?_
        refine lv_goto (tgt := 231) hx hb dX5_advances_209 (by decide) ?_
        obtain ⟨M8, hM8, h⟩ := Option.bind_eq_some_iff.mp h
        refine m_put hx hb hts hown hKv hM (fun _ h => List.mem_cons_of_mem _ (List.mem_append_right _ (h))) tyX5 tyX5_ok nmX5 (by decide) at_X5 rfl 7 (by decide) k1 rfl rfl rfl (Nat.le_of_ble_eq_true rfl) (pt_X5_7 (Option.some.inj hM8)) dX5_advances_231 (fun H locs hM => ?_)
        refine lv_aload_n hx hb dX5_advances_234 rfl (lv_at hl 0 rfl) ?_
        refine lv_dup hx hb dX5_advances_235 rfl ?_
        refine m_get hx hb hts hown hKv hM (fun _ h => List.mem_cons_of_mem _ (List.mem_append_right _ (h))) (by decide) at_X5 rfl 4 (by decide) k0 (v := .int (M8.1 0 4)) rfl dX5_advances_236 ?_
        refine lv_iconst (v := (1 : Int32)) hx hb dX5_advances_239 (by decide) ?_
        refine lv_iadd hx hb dX5_advances_240 ?_
        obtain ⟨M9, hM9, h⟩ := Option.bind_eq_some_iff.mp h
        refine m_put hx hb hts hown hKv hM (fun _ h => List.mem_cons_of_mem _ (List.mem_append_right _ (h))) tyX5 tyX5_ok nmX5 (by decide) at_X5 rfl 4 (by decide) k0 rfl rfl rfl (Nat.le_of_ble_eq_true rfl) (pt_X5_4 (Option.some.inj hM9)) dX5_advances_241 (fun H locs hM => ?_)
        refine lv_goto (tgt := 177) hx hb dX5_advances_244 (by decide) ?_
        exact ih _ h _ _ _ (lv_sub hl [0, 1] rfl) hM
set_option maxHeartbeats 4000000 in
set_option maxRecDepth 100000 in
theorem wX5_advances_68 {p : Program} {l : Launch} {e : Env} {s : State} {m : MethodId} {args : Array Value} {below : List Frame} {meth : Method} {c : Code} {D : va_G} {cI cZ : ClassId} {ad : Nat → Nat} {X : State → Prop} (Z : mZ p s m args meth c cX5_advances 4 none wsX5_advances RX5 D [(cI, .int), (cZ, .boolean)] X) (hX0 : mX ad 14 X)     {K : Int64 → Mem → Option Mem} (res : Mem) (hKc : ∀ (y2 : Int64) (M1 : Mem), K y2 M1 = some res → ∀ (H : Heap) (locs : List Loc) (ls : Array Slot), lv_has ls 4 [(0, .ref (ad 0)), (2, .long y2)] → mH D ad 14 (Em ad cI cZ M1) s.heap H locs → W p l e { frames := 2, cells := 0, slots := 0, locals := 44 } s m args below meth c H locs 0 0 (MQ below (mQ D ad 14 none (Em ad cI cZ res)) args s 0 0 (mA ad 14)) (F0 m 132 ls [])) :
    ∀ (n : Nat) (v2 : Int64) (M : Mem), fX5_advances_68 K n v2 M = some res → ∀ (H : Heap) (locs : List Loc) (ls : Array Slot), lv_has ls 4 [(0, .ref (ad 0)), (2, .long v2)] → mH D ad 14 (Em ad cI cZ M) s.heap H locs → W p l e { frames := 2, cells := 0, slots := 0, locals := 44 } s m args below meth c H locs 0 0 (MQ below (mQ D ad 14 none (Em ad cI cZ res)) args s 0 0 (mA ad 14)) (F0 m 68 ls []) := by
  obtain ⟨hx, hb, hml, hr, hlocks, hts, hown, hKv, hXs⟩ := id Z
  have hXk := hX0
  have k0 := hts (Cond.fieldLink RX5 76 "NoonWalkerModel" "next" "I") (List.mem_of_getElem? (i := 1) rfl)
  have k1 := hts (Cond.fieldLink RX5 83 "NoonWalkerModel" "place" "I") (List.mem_of_getElem? (i := 2) rfl)
  have k2 := hts (Cond.constantLong RX5 70 (256)) (List.mem_of_getElem? (i := 4) rfl)
  intro n
  induction n with
  | zero => intro _ _ h; exact absurd h (by unfold fX5_advances_68; exact fun h => by cases h)
  | succ n ih =>
    intro v2 M h H locs ls hl hM
    rw [fX5_advances_68] at h
    refine lv_aload_n hx hb dX5_advances_68 rfl (lv_at hl 0 rfl) ?_
    refine lv_aload_n hx hb dX5_advances_69 rfl (lv_at hl 0 rfl) ?_
    refine m_get hx hb hts hown hKv hM (fun _ h => List.mem_cons_of_mem _ (List.mem_append_right _ (h))) (by decide) at_X5 rfl 4 (by decide) k0 (v := .int (M.1 0 4)) rfl dX5_advances_70 ?_
    obtain ⟨x1, hx1, h⟩ := Option.bind_eq_some_iff.mp h
    refine m_callV (As := [.int (M.1 0 4)]) (st1 := [.int x1]) hx hb (hml.trans hl.1.symm) hown hts hKv hXs hXk hM (kX5_byteAt l D cI cZ ad hX0 (M.1 0 4) M _ hx1) (cwV 1 hts gX5_advances_X5_byteAt rfl rfl rfl (by decide +kernel) ⟨Nat.le_of_ble_eq_true rfl, Nat.le_of_ble_eq_true rfl⟩) (by decide) at_X5 rfl rfl rfl rfl (Nat.le_of_ble_eq_true rfl) dX5_advances_73 ⟨Nat.zero_le _, Nat.zero_le _⟩ (fun H locs hM => ?_)
    refine lv_bipush (v := (97 : Int32)) hx hb dX5_advances_76 (by decide) ?_
    refine lv_bipush (v := (122 : Int32)) hx hb dX5_advances_78 (by decide) ?_
    obtain ⟨x2, hx2, h⟩ := Option.bind_eq_some_iff.mp h
    refine m_callS (As := [.int x1, .int (97 : Int32), .int (122 : Int32)]) (st1 := [.int x2]) hx hb (hml.trans hl.1.symm) hown hts hKv hXs hXk hM (kX5_in l D cI cZ ad hX0 x1 (97 : Int32) (122 : Int32) M _ hx2) (va_cwS 3 hts gX5_advances_X5_in rfl rfl rfl (by decide +kernel) ⟨Nat.le_of_ble_eq_true rfl, Nat.le_of_ble_eq_true rfl⟩) rfl rfl rfl (Nat.le_of_ble_eq_true rfl) dX5_advances_80 ⟨Nat.zero_le _, Nat.zero_le _⟩ (fun H locs hM => ?_)
    refine lv_if_eq (tgt := 132) hx hb dX5_advances_83 (by decide) (fun c3 => ?_) (fun c3 => ?_)
    · replace h := (if_pos c3).symm.trans h
      exact hKc _ _ h _ _ _ (lv_sub hl [0, 1] rfl) hM
    · replace h := (if_neg c3).symm.trans h
      refine lv_aload_n hx hb dX5_advances_86 rfl (lv_at hl 0 rfl) ?_
      refine m_get hx hb hts hown hKv hM (fun _ h => List.mem_cons_of_mem _ (List.mem_append_right _ (h))) (by decide) at_X5 rfl 4 (by decide) k0 (v := .int (M.1 0 4)) rfl dX5_advances_87 ?_
      refine lv_aload_n hx hb dX5_advances_90 rfl (lv_at hl 0 rfl) ?_
      refine m_get hx hb hts hown hKv hM (fun _ h => List.mem_cons_of_mem _ (List.mem_append_right _ (h))) (by decide) at_X5 rfl 6 (by decide) k1 (v := .int (M.1 0 6)) rfl dX5_advances_91 ?_
      refine lv_isub hx hb dX5_advances_94 ?_
      refine lv_iconst (v := (5 : Int32)) hx hb dX5_advances_95 (by decide) ?_
      refine lv_icmp_ge (tgt := 117) hx hb dX5_advances_96 (by decide) (fun c4 => ?_) (fun c4 => ?_)
      · replace h := (if_pos c4).symm.trans h
        refine lv_lload_n hx hb dX5_advances_117 rfl (lv_at hl 1 rfl) ?_
        refine lv_lstore_n (lv' := [(2, .long v2), (0, .ref (ad 0))]) hx hb dX5_advances_118 rfl hl (by decide) rfl (fun ls hl => ?_)
        refine lv_aload_n hx hb dX5_advances_119 rfl (lv_at hl 1 rfl) ?_
        refine lv_dup hx hb dX5_advances_120 rfl ?_
        refine m_get hx hb hts hown hKv hM (fun _ h => List.mem_cons_of_mem _ (List.mem_append_right _ (h))) (by decide) at_X5 rfl 4 (by decide) k0 (v := .int (M.1 0 4)) rfl dX5_advances_121 ?_
        refine lv_iconst (v := (1 : Int32)) hx hb dX5_advances_124 (by decide) ?_
        refine lv_iadd hx hb dX5_advances_125 ?_
        obtain ⟨M5, hM5, h⟩ := Option.bind_eq_some_iff.mp h
        refine m_put hx hb hts hown hKv hM (fun _ h => List.mem_cons_of_mem _ (List.mem_append_right _ (h))) tyX5 tyX5_ok nmX5 (by decide) at_X5 rfl 4 (by decide) k0 rfl rfl rfl (Nat.le_of_ble_eq_true rfl) (pt_X5_4 (Option.some.inj hM5)) dX5_advances_126 (fun H locs hM => ?_)
        refine lv_goto (tgt := 68) hx hb dX5_advances_129 (by decide) ?_
        exact ih _ _ h _ _ _ (lv_sub hl [1, 0] rfl) hM
      · replace h := (if_neg c4).symm.trans h
        refine lv_ldc2 (v := (256 : Int64)) hx hb hown k2 dX5_advances_99 ?_
        refine lv_lload_n hx hb dX5_advances_102 rfl (lv_at hl 1 rfl) ?_
        refine lv_lmul hx hb dX5_advances_103 ?_
        refine lv_aload_n hx hb dX5_advances_104 rfl (lv_at hl 0 rfl) ?_
        refine lv_aload_n hx hb dX5_advances_105 rfl (lv_at hl 0 rfl) ?_
        refine m_get hx hb hts hown hKv hM (fun _ h => List.mem_cons_of_mem _ (List.mem_append_right _ (h))) (by decide) at_X5 rfl 4 (by decide) k0 (v := .int (M.1 0 4)) rfl dX5_advances_106 ?_
        obtain ⟨x6, hx6, h⟩ := Option.bind_eq_some_iff.mp h
        refine m_callV (As := [.int (M.1 0 4)]) (st1 := [.int x6, .long ((256 : Int64) * v2)]) hx hb (hml.trans hl.1.symm) hown hts hKv hXs hXk hM (kX5_byteAt l D cI cZ ad hX0 (M.1 0 4) M _ hx6) (cwV 1 hts gX5_advances_X5_byteAt rfl rfl rfl (by decide +kernel) ⟨Nat.le_of_ble_eq_true rfl, Nat.le_of_ble_eq_true rfl⟩) (by decide) at_X5 rfl rfl rfl rfl (Nat.le_of_ble_eq_true rfl) dX5_advances_109 ⟨Nat.zero_le _, Nat.zero_le _⟩ (fun H locs hM => ?_)
        refine lv_i2l (v := (Int32.toInt64 x6)) hx hb dX5_advances_112 rfl ?_
        refine lv_ladd hx hb dX5_advances_113 ?_
        refine lv_goto (tgt := 118) hx hb dX5_advances_114 (by decide) ?_
        refine lv_lstore_n (lv' := [(2, .long (((256 : Int64) * v2) + (Int32.toInt64 x6))), (0, .ref (ad 0))]) hx hb dX5_advances_118 rfl hl (by decide) rfl (fun ls hl => ?_)
        refine lv_aload_n hx hb dX5_advances_119 rfl (lv_at hl 1 rfl) ?_
        refine lv_dup hx hb dX5_advances_120 rfl ?_
        refine m_get hx hb hts hown hKv hM (fun _ h => List.mem_cons_of_mem _ (List.mem_append_right _ (h))) (by decide) at_X5 rfl 4 (by decide) k0 (v := .int (M.1 0 4)) rfl dX5_advances_121 ?_
        refine lv_iconst (v := (1 : Int32)) hx hb dX5_advances_124 (by decide) ?_
        refine lv_iadd hx hb dX5_advances_125 ?_
        obtain ⟨M7, hM7, h⟩ := Option.bind_eq_some_iff.mp h
        refine m_put hx hb hts hown hKv hM (fun _ h => List.mem_cons_of_mem _ (List.mem_append_right _ (h))) tyX5 tyX5_ok nmX5 (by decide) at_X5 rfl 4 (by decide) k0 rfl rfl rfl (Nat.le_of_ble_eq_true rfl) (pt_X5_4 (Option.some.inj hM7)) dX5_advances_126 (fun H locs hM => ?_)
        refine lv_goto (tgt := 68) hx hb dX5_advances_129 (by decide) ?_
        exact ih _ _ h _ _ _ (lv_sub hl [1, 0] rfl) hM
set_option maxHeartbeats 4000000 in
set_option maxRecDepth 100000 in
theorem kX5_advances (l : Launch) (D : va_G) (cI cZ : ClassId) (ad : Nat → Nat) {X : State → Prop} (hX0 : mX ad 14 X)  (M : Mem) (res : Mem) (h : fX5_advances M = some res) : mC l yX5_advances wsX5_advances { frames := 2, cells := 0, slots := 0, locals := 44 } D [(cI, .int), (cZ, .boolean)] ad 14 X [.ref (ad 0)] (Em ad cI cZ M) none (Em ad cI cZ res) := by
  refine m_ofW (cc := cX5_advances) (maxL := 4) (ret := none) (by decide) rfl (Nat.le_of_ble_eq_true rfl) ?_
  intro p e s m args below meth c hx hb hml hr hlocks hts hown hKv hXs ls hl hM
  have hXk := hX0
  have Z : mZ p s m args meth c cX5_advances 4 none wsX5_advances RX5 D [(cI, .int), (cZ, .boolean)] X := ⟨hx, hb, hml, hr, hlocks, hts, hown, hKv, hXs⟩
  replace hown : s.vm.findClass RX5 = some m.cls := hown
  have hl : lv_has ls 4 [(0, .ref (ad 0))] := hl
  have k0 := hts (Cond.fieldLink RX5 76 "NoonWalkerModel" "next" "I") (List.mem_of_getElem? (i := 1) rfl)
  have k1 := hts (Cond.fieldLink RX5 83 "NoonWalkerModel" "place" "I") (List.mem_of_getElem? (i := 2) rfl)
  have k2 := hts (Cond.fieldLink RX5 86 "NoonWalkerModel" "token" "I") (List.mem_of_getElem? (i := 3) rfl)
  have k3 := hts (Cond.fieldLink RX5 93 "NoonWalkerModel" "value" "I") (List.mem_of_getElem? (i := 5) rfl)
  unfold fX5_advances at h
  refine wX5_advances_0 Z hX0 _ (fun M1 h H locs ls hl hM => ?_) _ _ h _ _ _ (lv_sub hl [0] rfl) hM
  refine lv_aload_n hx hb dX5_advances_26 rfl (lv_at hl 0 rfl) ?_
  refine lv_aload_n hx hb dX5_advances_27 rfl (lv_at hl 0 rfl) ?_
  refine m_get hx hb hts hown hKv hM (fun _ h => List.mem_cons_of_mem _ (List.mem_append_right _ (h))) (by decide) at_X5 rfl 4 (by decide) k0 (v := .int (M1.1 0 4)) rfl dX5_advances_28 ?_
  obtain ⟨M2, hM2, h⟩ := Option.bind_eq_some_iff.mp h
  refine m_put hx hb hts hown hKv hM (fun _ h => List.mem_cons_of_mem _ (List.mem_append_right _ (h))) tyX5 tyX5_ok nmX5 (by decide) at_X5 rfl 6 (by decide) k1 rfl rfl rfl (Nat.le_of_ble_eq_true rfl) (pt_X5_6 (Option.some.inj hM2)) dX5_advances_31 (fun H locs hM => ?_)
  refine lv_aload_n hx hb dX5_advances_34 rfl (lv_at hl 0 rfl) ?_
  refine lv_aload_n hx hb dX5_advances_35 rfl (lv_at hl 0 rfl) ?_
  refine m_get hx hb hts hown hKv hM (fun _ h => List.mem_cons_of_mem _ (List.mem_append_right _ (h))) (by decide) at_X5 rfl 4 (by decide) k0 (v := .int (M2.1 0 4)) rfl dX5_advances_36 ?_
  obtain ⟨x3, hx3, h⟩ := Option.bind_eq_some_iff.mp h
  refine m_callV (As := [.int (M2.1 0 4)]) (st1 := [.int x3]) hx hb (hml.trans hl.1.symm) hown hts hKv hXs hXk hM (kX5_byteAt l D cI cZ ad hX0 (M2.1 0 4) M2 _ hx3) (cwV 1 hts gX5_advances_X5_byteAt rfl rfl rfl (by decide +kernel) ⟨Nat.le_of_ble_eq_true rfl, Nat.le_of_ble_eq_true rfl⟩) (by decide) at_X5 rfl rfl rfl rfl (Nat.le_of_ble_eq_true rfl) dX5_advances_39 ⟨Nat.zero_le _, Nat.zero_le _⟩ (fun H locs hM => ?_)
  refine lv_istore_n (lv' := [(1, .int x3), (0, .ref (ad 0))]) hx hb dX5_advances_42 rfl hl (by decide) rfl (fun ls hl => ?_)
  refine lv_iload_n hx hb dX5_advances_43 rfl (lv_at hl 0 rfl) ?_
  refine lv_if_ge (tgt := 55) hx hb dX5_advances_44 (by decide) (fun c4 => ?_) (fun c4 => ?_)
  · replace h := (if_pos c4).symm.trans h
    refine lv_iload_n hx hb dX5_advances_55 rfl (lv_at hl 0 rfl) ?_
    refine lv_bipush (v := (97 : Int32)) hx hb dX5_advances_56 (by decide) ?_
    refine lv_bipush (v := (122 : Int32)) hx hb dX5_advances_58 (by decide) ?_
    obtain ⟨x5, hx5, h⟩ := Option.bind_eq_some_iff.mp h
    refine m_callS (As := [.int x3, .int (97 : Int32), .int (122 : Int32)]) (st1 := [.int x5]) hx hb (hml.trans hl.1.symm) hown hts hKv hXs hXk hM (kX5_in l D cI cZ ad hX0 x3 (97 : Int32) (122 : Int32) M2 _ hx5) (va_cwS 3 hts gX5_advances_X5_in rfl rfl rfl (by decide +kernel) ⟨Nat.le_of_ble_eq_true rfl, Nat.le_of_ble_eq_true rfl⟩) rfl rfl rfl (Nat.le_of_ble_eq_true rfl) dX5_advances_60 ⟨Nat.zero_le _, Nat.zero_le _⟩ (fun H locs hM => ?_)
    refine lv_if_eq (tgt := 161) hx hb dX5_advances_63 (by decide) (fun c6 => ?_) (fun c6 => ?_)
    · replace h := (if_pos c6).symm.trans h
      refine lv_iload_n hx hb dX5_advances_161 rfl (lv_at hl 0 rfl) ?_
      refine lv_bipush (v := (48 : Int32)) hx hb dX5_advances_162 (by decide) ?_
      refine lv_bipush (v := (57 : Int32)) hx hb dX5_advances_164 (by decide) ?_
      obtain ⟨x7, hx7, h⟩ := Option.bind_eq_some_iff.mp h
      refine m_callS (As := [.int x3, .int (48 : Int32), .int (57 : Int32)]) (st1 := [.int x7]) hx hb (hml.trans hl.1.symm) hown hts hKv hXs hXk hM (kX5_in l D cI cZ ad hX0 x3 (48 : Int32) (57 : Int32) M2 _ hx7) (va_cwS 3 hts gX5_advances_X5_in rfl rfl rfl (by decide +kernel) ⟨Nat.le_of_ble_eq_true rfl, Nat.le_of_ble_eq_true rfl⟩) rfl rfl rfl (Nat.le_of_ble_eq_true rfl) dX5_advances_166 ⟨Nat.zero_le _, Nat.zero_le _⟩ (fun H locs hM => ?_)
      refine lv_if_eq (tgt := 287) hx hb dX5_advances_169 (by decide) (fun c8 => ?_) (fun c8 => ?_)
      · replace h := (if_pos c8).symm.trans h
        refine lv_aload_n hx hb dX5_advances_287 rfl (lv_at hl 1 rfl) ?_
        refine lv_dup hx hb dX5_advances_288 rfl ?_
        refine m_get hx hb hts hown hKv hM (fun _ h => List.mem_cons_of_mem _ (List.mem_append_right _ (h))) (by decide) at_X5 rfl 4 (by decide) k0 (v := .int (M2.1 0 4)) rfl dX5_advances_289 ?_
        refine lv_iconst (v := (1 : Int32)) hx hb dX5_advances_292 (by decide) ?_
        refine lv_iadd hx hb dX5_advances_293 ?_
        obtain ⟨M9, hM9, h⟩ := Option.bind_eq_some_iff.mp h
        refine m_put hx hb hts hown hKv hM (fun _ h => List.mem_cons_of_mem _ (List.mem_append_right _ (h))) tyX5 tyX5_ok nmX5 (by decide) at_X5 rfl 4 (by decide) k0 rfl rfl rfl (Nat.le_of_ble_eq_true rfl) (pt_X5_4 (Option.some.inj hM9)) dX5_advances_294 (fun H locs hM => ?_)
        refine lv_aload_n hx hb dX5_advances_297 rfl (lv_at hl 1 rfl) ?_
        refine lv_iload_n hx hb dX5_advances_298 rfl (lv_at hl 0 rfl) ?_
        refine lv_bipush (v := (59 : Int32)) hx hb dX5_advances_299 (by decide) ?_
        refine lv_icmp_ne (tgt := 308) hx hb dX5_advances_301 (by decide) (fun c10 => ?_) (fun c10 => ?_)
        · replace h := (if_neg c10).symm.trans h
          refine lv_iconst (v := (4 : Int32)) hx hb dX5_advances_308 (by decide) ?_
          obtain ⟨M11, hM11, h⟩ := Option.bind_eq_some_iff.mp h
          refine m_put hx hb hts hown hKv hM (fun _ h => List.mem_cons_of_mem _ (List.mem_append_right _ (h))) tyX5 tyX5_ok nmX5 (by decide) at_X5 rfl 5 (by decide) k2 rfl rfl rfl (Nat.le_of_ble_eq_true rfl) (pt_X5_5 (Option.some.inj hM11)) dX5_advances_309 (fun H locs hM => ?_)
          exact m_vret hx hb hr hlocks hM (congrArg (a₁ := M11) (fun z => Em ad cI cZ z) (Option.some.inj h)) dX5_advances_312
        · replace h := (if_pos c10).symm.trans h
          refine lv_iconst (v := (3 : Int32)) hx hb dX5_advances_304 (by decide) ?_
          refine lv_goto (tgt := 309) hx hb dX5_advances_305 (by decide) ?_
          obtain ⟨M12, hM12, h⟩ := Option.bind_eq_some_iff.mp h
          refine m_put hx hb hts hown hKv hM (fun _ h => List.mem_cons_of_mem _ (List.mem_append_right _ (h))) tyX5 tyX5_ok nmX5 (by decide) at_X5 rfl 5 (by decide) k2 rfl rfl rfl (Nat.le_of_ble_eq_true rfl) (pt_X5_5 (Option.some.inj hM12)) dX5_advances_309 (fun H locs hM => ?_)
          exact m_vret hx hb hr hlocks hM (congrArg (a₁ := M12) (fun z => Em ad cI cZ z) (Option.some.inj h)) dX5_advances_312
      · replace h := (if_neg c8).symm.trans h
        refine lv_aload_n hx hb dX5_advances_172 rfl (lv_at hl 1 rfl) ?_
        refine lv_iconst (v := (0 : Int32)) hx hb dX5_advances_173 (by decide) ?_
        obtain ⟨M13, hM13, h⟩ := Option.bind_eq_some_iff.mp h
        refine m_put hx hb hts hown hKv hM (fun _ h => List.mem_cons_of_mem _ (List.mem_append_right _ (h))) tyX5 tyX5_ok nmX5 (by decide) at_X5 rfl 7 (by decide) k3 rfl rfl rfl (Nat.le_of_ble_eq_true rfl) (pt_X5_7 (Option.some.inj hM13)) dX5_advances_174 (fun H locs hM => ?_)
        refine wX5_advances_177 Z hX0 x3 _ (fun M14 h H locs ls hl hM => ?_) _ _ h _ _ _ (lv_sub hl [1, 0] rfl) hM
        refine lv_aload_n hx hb dX5_advances_247 rfl (lv_at hl 0 rfl) ?_
        refine lv_aload_n hx hb dX5_advances_248 rfl (lv_at hl 0 rfl) ?_
        refine m_get hx hb hts hown hKv hM (fun _ h => List.mem_cons_of_mem _ (List.mem_append_right _ (h))) (by decide) at_X5 rfl 7 (by decide) k3 (v := .int (M14.1 0 7)) rfl dX5_advances_249 ?_
        refine lv_bipush (v := (99 : Int32)) hx hb dX5_advances_252 (by decide) ?_
        refine lv_icmp_gt (tgt := 276) hx hb dX5_advances_254 (by decide) (fun c15 => ?_) (fun c15 => ?_)
        · replace h := (if_pos c15).symm.trans h
          refine lv_iconst (v := (4 : Int32)) hx hb dX5_advances_276 (by decide) ?_
          refine lv_goto (tgt := 281) hx hb dX5_advances_277 (by decide) ?_
          obtain ⟨M16, hM16, h⟩ := Option.bind_eq_some_iff.mp h
          refine m_put hx hb hts hown hKv hM (fun _ h => List.mem_cons_of_mem _ (List.mem_append_right _ (h))) tyX5 tyX5_ok nmX5 (by decide) at_X5 rfl 5 (by decide) k2 rfl rfl rfl (Nat.le_of_ble_eq_true rfl) (pt_X5_5 (Option.some.inj hM16)) dX5_advances_281 (fun H locs hM => ?_)
          refine lv_goto (tgt := 312) hx hb dX5_advances_284 (by decide) ?_
          exact m_vret hx hb hr hlocks hM (congrArg (a₁ := M16) (fun z => Em ad cI cZ z) (Option.some.inj h)) dX5_advances_312
        · replace h := (if_neg c15).symm.trans h
          refine lv_iload_n hx hb dX5_advances_257 rfl (lv_at hl 1 rfl) ?_
          refine lv_bipush (v := (48 : Int32)) hx hb dX5_advances_258 (by decide) ?_
          refine lv_icmp_ne (tgt := 280) hx hb dX5_advances_260 (by decide) (fun c17 => ?_) (fun c17 => ?_)
          · replace h := (if_neg c17).symm.trans h
            refine lv_iconst (v := (2 : Int32)) hx hb dX5_advances_280 (by decide) ?_
            obtain ⟨M18, hM18, h⟩ := Option.bind_eq_some_iff.mp h
            refine m_put hx hb hts hown hKv hM (fun _ h => List.mem_cons_of_mem _ (List.mem_append_right _ (h))) tyX5 tyX5_ok nmX5 (by decide) at_X5 rfl 5 (by decide) k2 rfl rfl rfl (Nat.le_of_ble_eq_true rfl) (pt_X5_5 (Option.some.inj hM18)) dX5_advances_281 (fun H locs hM => ?_)
            refine lv_goto (tgt := 312) hx hb dX5_advances_284 (by decide) ?_
            exact m_vret hx hb hr hlocks hM (congrArg (a₁ := M18) (fun z => Em ad cI cZ z) (Option.some.inj h)) dX5_advances_312
          · replace h := (if_pos c17).symm.trans h
            refine lv_aload_n hx hb dX5_advances_263 rfl (lv_at hl 0 rfl) ?_
            refine m_get hx hb hts hown hKv hM (fun _ h => List.mem_cons_of_mem _ (List.mem_append_right _ (h))) (by decide) at_X5 rfl 4 (by decide) k0 (v := .int (M14.1 0 4)) rfl dX5_advances_264 ?_
            refine lv_aload_n hx hb dX5_advances_267 rfl (lv_at hl 0 rfl) ?_
            refine m_get hx hb hts hown hKv hM (fun _ h => List.mem_cons_of_mem _ (List.mem_append_right _ (h))) (by decide) at_X5 rfl 6 (by decide) k1 (v := .int (M14.1 0 6)) rfl dX5_advances_268 ?_
            refine lv_isub hx hb dX5_advances_271 ?_
            refine lv_iconst (v := (1 : Int32)) hx hb dX5_advances_272 (by decide) ?_
            refine lv_icmp_le (tgt := 280) hx hb dX5_advances_273 (by decide) (fun c19 => ?_) (fun c19 => ?_)
            · replace h := (if_pos c19).symm.trans h
              refine lv_iconst (v := (2 : Int32)) hx hb dX5_advances_280 (by decide) ?_
              obtain ⟨M20, hM20, h⟩ := Option.bind_eq_some_iff.mp h
              refine m_put hx hb hts hown hKv hM (fun _ h => List.mem_cons_of_mem _ (List.mem_append_right _ (h))) tyX5 tyX5_ok nmX5 (by decide) at_X5 rfl 5 (by decide) k2 rfl rfl rfl (Nat.le_of_ble_eq_true rfl) (pt_X5_5 (Option.some.inj hM20)) dX5_advances_281 (fun H locs hM => ?_)
              refine lv_goto (tgt := 312) hx hb dX5_advances_284 (by decide) ?_
              exact m_vret hx hb hr hlocks hM (congrArg (a₁ := M20) (fun z => Em ad cI cZ z) (Option.some.inj h)) dX5_advances_312
            · replace h := (if_neg c19).symm.trans h
              refine lv_iconst (v := (4 : Int32)) hx hb dX5_advances_276 (by decide) ?_
              refine lv_goto (tgt := 281) hx hb dX5_advances_277 (by decide) ?_
              obtain ⟨M21, hM21, h⟩ := Option.bind_eq_some_iff.mp h
              refine m_put hx hb hts hown hKv hM (fun _ h => List.mem_cons_of_mem _ (List.mem_append_right _ (h))) tyX5 tyX5_ok nmX5 (by decide) at_X5 rfl 5 (by decide) k2 rfl rfl rfl (Nat.le_of_ble_eq_true rfl) (pt_X5_5 (Option.some.inj hM21)) dX5_advances_281 (fun H locs hM => ?_)
              refine lv_goto (tgt := 312) hx hb dX5_advances_284 (by decide) ?_
              exact m_vret hx hb hr hlocks hM (congrArg (a₁ := M21) (fun z => Em ad cI cZ z) (Option.some.inj h)) dX5_advances_312
    · replace h := (if_neg c6).symm.trans h
      refine lv_lconst (v := (0 : Int64)) hx hb dX5_advances_66 rfl ?_
      refine lv_lstore_n (lv' := [(2, .long (0 : Int64)), (1, .int x3), (0, .ref (ad 0))]) hx hb dX5_advances_67 rfl hl (by decide) rfl (fun ls hl => ?_)
      refine wX5_advances_68 Z hX0 _ (fun y22 M23 h H locs ls hl hM => ?_) _ _ _ h _ _ _ (lv_sub hl [2, 0] rfl) hM
      refine lv_aload_n hx hb dX5_advances_132 rfl (lv_at hl 0 rfl) ?_
      refine lv_lload_n hx hb dX5_advances_133 rfl (lv_at hl 1 rfl) ?_
      obtain ⟨x24, hx24, h⟩ := Option.bind_eq_some_iff.mp h
      refine m_callS (As := [.long y22]) (st1 := [.int x24, .ref (ad 0)]) hx hb (hml.trans hl.1.symm) hown hts hKv hXs hXk hM (kX5_wordOf l D cI cZ ad hX0 y22 M23 _ hx24) (va_cwS 1 hts gX5_advances_X5_wordOf rfl rfl rfl (by decide +kernel) ⟨Nat.le_of_ble_eq_true rfl, Nat.le_of_ble_eq_true rfl⟩) rfl rfl rfl (Nat.le_of_ble_eq_true rfl) dX5_advances_134 ⟨Nat.zero_le _, Nat.zero_le _⟩ (fun H locs hM => ?_)
      obtain ⟨M25, hM25, h⟩ := Option.bind_eq_some_iff.mp h
      refine m_put hx hb hts hown hKv hM (fun _ h => List.mem_cons_of_mem _ (List.mem_append_right _ (h))) tyX5 tyX5_ok nmX5 (by decide) at_X5 rfl 7 (by decide) k3 rfl rfl rfl (Nat.le_of_ble_eq_true rfl) (pt_X5_7 (Option.some.inj hM25)) dX5_advances_137 (fun H locs hM => ?_)
      refine lv_aload_n hx hb dX5_advances_140 rfl (lv_at hl 0 rfl) ?_
      refine lv_aload_n hx hb dX5_advances_141 rfl (lv_at hl 0 rfl) ?_
      refine m_get hx hb hts hown hKv hM (fun _ h => List.mem_cons_of_mem _ (List.mem_append_right _ (h))) (by decide) at_X5 rfl 7 (by decide) k3 (v := .int (M25.1 0 7)) rfl dX5_advances_142 ?_
      refine lv_bipush (v := (-9 : Int32)) hx hb dX5_advances_145 (by decide) ?_
      refine lv_icmp_ne (tgt := 154) hx hb dX5_advances_147 (by decide) (fun c26 => ?_) (fun c26 => ?_)
      · replace h := (if_neg c26).symm.trans h
        refine lv_iconst (v := (1 : Int32)) hx hb dX5_advances_154 (by decide) ?_
        obtain ⟨M27, hM27, h⟩ := Option.bind_eq_some_iff.mp h
        refine m_put hx hb hts hown hKv hM (fun _ h => List.mem_cons_of_mem _ (List.mem_append_right _ (h))) tyX5 tyX5_ok nmX5 (by decide) at_X5 rfl 5 (by decide) k2 rfl rfl rfl (Nat.le_of_ble_eq_true rfl) (pt_X5_5 (Option.some.inj hM27)) dX5_advances_155 (fun H locs hM => ?_)
        refine lv_goto (tgt := 312) hx hb dX5_advances_158 (by decide) ?_
        exact m_vret hx hb hr hlocks hM (congrArg (a₁ := M27) (fun z => Em ad cI cZ z) (Option.some.inj h)) dX5_advances_312
      · replace h := (if_pos c26).symm.trans h
        refine lv_iconst (v := (4 : Int32)) hx hb dX5_advances_150 (by decide) ?_
        refine lv_goto (tgt := 155) hx hb dX5_advances_151 (by decide) ?_
        obtain ⟨M28, hM28, h⟩ := Option.bind_eq_some_iff.mp h
        refine m_put hx hb hts hown hKv hM (fun _ h => List.mem_cons_of_mem _ (List.mem_append_right _ (h))) tyX5 tyX5_ok nmX5 (by decide) at_X5 rfl 5 (by decide) k2 rfl rfl rfl (Nat.le_of_ble_eq_true rfl) (pt_X5_5 (Option.some.inj hM28)) dX5_advances_155 (fun H locs hM => ?_)
        refine lv_goto (tgt := 312) hx hb dX5_advances_158 (by decide) ?_
        exact m_vret hx hb hr hlocks hM (congrArg (a₁ := M28) (fun z => Em ad cI cZ z) (Option.some.inj h)) dX5_advances_312
  · replace h := (if_neg c4).symm.trans h
    refine lv_aload_n hx hb dX5_advances_47 rfl (lv_at hl 1 rfl) ?_
    refine lv_iconst (v := (0 : Int32)) hx hb dX5_advances_48 (by decide) ?_
    obtain ⟨M29, hM29, h⟩ := Option.bind_eq_some_iff.mp h
    refine m_put hx hb hts hown hKv hM (fun _ h => List.mem_cons_of_mem _ (List.mem_append_right _ (h))) tyX5 tyX5_ok nmX5 (by decide) at_X5 rfl 5 (by decide) k2 rfl rfl rfl (Nat.le_of_ble_eq_true rfl) (pt_X5_5 (Option.some.inj hM29)) dX5_advances_49 (fun H locs hM => ?_)
    refine lv_goto (tgt := 312) hx hb dX5_advances_52 (by decide) ?_
    exact m_vret hx hb hr hlocks hM (congrArg (a₁ := M29) (fun z => Em ad cI cZ z) (Option.some.inj h)) dX5_advances_312
set_option maxHeartbeats 4000000 in
set_option maxRecDepth 100000 in
theorem kX5_isWell (l : Launch) (D : va_G) (cI cZ : ClassId) (ad : Nat → Nat) {X : State → Prop} (hX0 : mX ad 14 X)  (M : Mem) (res : Int32) (h : fX5_isWell M = some res) : mC l yX5_isWell wsX5_isWell { frames := 0, cells := 0, slots := 0, locals := 0 } D [(cI, .int), (cZ, .boolean)] ad 14 X [.ref (ad 0)] (Em ad cI cZ M) (some (.int res)) (Em ad cI cZ M) := by
  refine m_ofW (cc := cX5_isWell) (maxL := 1) (ret := (some .boolean)) (by decide) rfl (Nat.le_of_ble_eq_true rfl) ?_
  intro p e s m args below meth c hx hb hml hr hlocks hts hown hKv hXs ls hl hM
  have hXk := hX0
  have Z : mZ p s m args meth c cX5_isWell 1 (some .boolean) wsX5_isWell RX5 D [(cI, .int), (cZ, .boolean)] X := ⟨hx, hb, hml, hr, hlocks, hts, hown, hKv, hXs⟩
  replace hown : s.vm.findClass RX5 = some m.cls := hown
  have hl : lv_has ls 1 [(0, .ref (ad 0))] := hl
  have k0 := hts (Cond.fieldLink RX5 96 "NoonWalkerModel" "fault" "I") (List.mem_of_getElem? (i := 1) rfl)
  unfold fX5_isWell at h
  refine lv_aload_n hx hb dX5_isWell_0 rfl (lv_at hl 0 rfl) ?_
  refine m_get hx hb hts hown hKv hM (fun _ h => List.mem_cons_of_mem _ (List.mem_append_right _ (h))) (by decide) at_X5 rfl 8 (by decide) k0 (v := .int (M.1 0 8)) rfl dX5_isWell_1 ?_
  refine lv_if_ge (tgt := 11) hx hb dX5_isWell_4 (by decide) (fun c1 => ?_) (fun c1 => ?_)
  · replace h := (if_pos c1).symm.trans h
    refine lv_iconst (v := (0 : Int32)) hx hb dX5_isWell_11 (by decide) ?_
    exact m_zret hx hb hr hlocks hM (Option.some.inj h) rfl rfl dX5_isWell_12
  · replace h := (if_neg c1).symm.trans h
    refine lv_iconst (v := (1 : Int32)) hx hb dX5_isWell_7 (by decide) ?_
    refine lv_goto (tgt := 12) hx hb dX5_isWell_8 (by decide) ?_
    exact m_zret hx hb hr hlocks hM (Option.some.inj h) rfl rfl dX5_isWell_12
set_option maxHeartbeats 4000000 in
set_option maxRecDepth 100000 in
theorem kX5_takes (l : Launch) (D : va_G) (cI cZ : ClassId) (ad : Nat → Nat) {X : State → Prop} (hX0 : mX ad 14 X) (a1 : Int32) (M : Mem) (res : (Int32 × Mem)) (h : fX5_takes a1 M = some res) : mC l yX5_takes wsX5_takes { frames := 3, cells := 0, slots := 0, locals := 67 } D [(cI, .int), (cZ, .boolean)] ad 14 X [.ref (ad 0), .int a1] (Em ad cI cZ M) (some (.int res.1)) (Em ad cI cZ res.2) := by
  refine m_ofW (cc := cX5_takes) (maxL := 3) (ret := (some .int)) (by decide) rfl (Nat.le_of_ble_eq_true rfl) ?_
  intro p e s m args below meth c hx hb hml hr hlocks hts hown hKv hXs ls hl hM
  have hXk := hX0
  have Z : mZ p s m args meth c cX5_takes 3 (some .int) wsX5_takes RX5 D [(cI, .int), (cZ, .boolean)] X := ⟨hx, hb, hml, hr, hlocks, hts, hown, hKv, hXs⟩
  replace hown : s.vm.findClass RX5 = some m.cls := hown
  have hl : lv_has ls 3 [(0, .ref (ad 0)), (1, .int a1)] := hl
  have k0 := hts (Cond.fieldLink RX5 93 "NoonWalkerModel" "value" "I") (List.mem_of_getElem? (i := 3) rfl)
  have k1 := hts (Cond.fieldLink RX5 83 "NoonWalkerModel" "place" "I") (List.mem_of_getElem? (i := 1) rfl)
  have k2 := hts (Cond.fieldLink RX5 96 "NoonWalkerModel" "fault" "I") (List.mem_of_getElem? (i := 2) rfl)
  unfold fX5_takes at h
  refine lv_aload_n hx hb dX5_takes_0 rfl (lv_at hl 0 rfl) ?_
  obtain ⟨x1, hx1, h⟩ := Option.bind_eq_some_iff.mp h
  refine m_callV (As := []) (st1 := [.int x1]) hx hb (hml.trans hl.1.symm) hown hts hKv hXs hXk hM (kX5_isWell l D cI cZ ad hX0  M _ hx1) (cwV 0 hts gX5_takes_X5_isWell rfl rfl rfl (by decide +kernel) ⟨Nat.le_of_ble_eq_true rfl, Nat.le_of_ble_eq_true rfl⟩) (by decide) at_X5 rfl rfl rfl rfl (Nat.le_of_ble_eq_true rfl) dX5_takes_1 ⟨Nat.zero_le _, Nat.zero_le _⟩ (fun H locs hM => ?_)
  refine lv_if_ne (tgt := 9) hx hb dX5_takes_4 (by decide) (fun c2 => ?_) (fun c2 => ?_)
  · replace h := (if_neg c2).symm.trans h
    refine lv_iload_n hx hb dX5_takes_9 rfl (lv_at hl 1 rfl) ?_
    refine lv_if_ne (tgt := 23) hx hb dX5_takes_10 (by decide) (fun c3 => ?_) (fun c3 => ?_)
    · replace h := (if_neg c3).symm.trans h
      refine lv_aload_n hx hb dX5_takes_23 rfl (lv_at hl 0 rfl) ?_
      refine m_get hx hb hts hown hKv hM (fun _ h => List.mem_cons_of_mem _ (List.mem_append_right _ (h))) (by decide) at_X5 rfl 7 (by decide) k0 (v := .int (M.1 0 7)) rfl dX5_takes_24 ?_
      refine lv_istore_n (lv' := [(2, .int (M.1 0 7)), (0, .ref (ad 0)), (1, .int a1)]) hx hb dX5_takes_27 rfl hl (by decide) rfl (fun ls hl => ?_)
      refine lv_aload_n hx hb dX5_takes_28 rfl (lv_at hl 1 rfl) ?_
      obtain ⟨x4, hx4, h⟩ := Option.bind_eq_some_iff.mp h
      refine m_callV (As := []) (st1 := []) hx hb (hml.trans hl.1.symm) hown hts hKv hXs hXk hM (kX5_advances l D cI cZ ad hX0  M _ hx4) (cwV 0 hts gX5_takes_X5_advances rfl rfl rfl (by decide +kernel) ⟨Nat.le_of_ble_eq_true rfl, Nat.le_of_ble_eq_true rfl⟩) (by decide) at_X5 rfl rfl rfl rfl (Nat.le_of_ble_eq_true rfl) dX5_takes_29 ⟨Nat.zero_le _, Nat.zero_le _⟩ (fun H locs hM => ?_)
      refine lv_iload_n hx hb dX5_takes_32 rfl (lv_at hl 0 rfl) ?_
      exact m_iret hx hb hr hlocks hM (congrArg (a₁ := ((M.1 0 7), x4)) Prod.fst (Option.some.inj h)) (congrArg (a₁ := ((M.1 0 7), x4)) (fun z => Em ad cI cZ z.2) (Option.some.inj h)) dX5_takes_33
    · replace h := (if_pos c3).symm.trans h
      refine lv_aload_n hx hb dX5_takes_13 rfl (lv_at hl 0 rfl) ?_
      refine lv_aload_n hx hb dX5_takes_14 rfl (lv_at hl 0 rfl) ?_
      refine m_get hx hb hts hown hKv hM (fun _ h => List.mem_cons_of_mem _ (List.mem_append_right _ (h))) (by decide) at_X5 rfl 6 (by decide) k1 (v := .int (M.1 0 6)) rfl dX5_takes_15 ?_
      obtain ⟨M5, hM5, h⟩ := Option.bind_eq_some_iff.mp h
      refine m_put hx hb hts hown hKv hM (fun _ h => List.mem_cons_of_mem _ (List.mem_append_right _ (h))) tyX5 tyX5_ok nmX5 (by decide) at_X5 rfl 8 (by decide) k2 rfl rfl rfl (Nat.le_of_ble_eq_true rfl) (pt_X5_8 (Option.some.inj hM5)) dX5_takes_18 (fun H locs hM => ?_)
      refine lv_iconst (v := (0 : Int32)) hx hb dX5_takes_21 (by decide) ?_
      exact m_iret hx hb hr hlocks hM (congrArg (a₁ := ((0 : Int32), M5)) Prod.fst (Option.some.inj h)) (congrArg (a₁ := ((0 : Int32), M5)) (fun z => Em ad cI cZ z.2) (Option.some.inj h)) dX5_takes_22
  · replace h := (if_pos c2).symm.trans h
    refine lv_iconst (v := (0 : Int32)) hx hb dX5_takes_7 (by decide) ?_
    exact m_iret hx hb hr hlocks hM (congrArg (a₁ := ((0 : Int32), M)) Prod.fst (Option.some.inj h)) (congrArg (a₁ := ((0 : Int32), M)) (fun z => Em ad cI cZ z.2) (Option.some.inj h)) dX5_takes_8
set_option maxHeartbeats 4000000 in
set_option maxRecDepth 100000 in
theorem kX5_number (l : Launch) (D : va_G) (cI cZ : ClassId) (ad : Nat → Nat) {X : State → Prop} (hX0 : mX ad 14 X) (a1 : Int32) (a2 : Int32) (M : Mem) (res : (Int32 × Mem)) (h : fX5_number a1 a2 M = some res) : mC l yX5_number wsX5_number { frames := 4, cells := 0, slots := 0, locals := 89 } D [(cI, .int), (cZ, .boolean)] ad 14 X [.ref (ad 0), .int a1, .int a2] (Em ad cI cZ M) (some (.int res.1)) (Em ad cI cZ res.2) := by
  refine m_ofW (cc := cX5_number) (maxL := 3) (ret := (some .int)) (by decide) rfl (Nat.le_of_ble_eq_true rfl) ?_
  intro p e s m args below meth c hx hb hml hr hlocks hts hown hKv hXs ls hl hM
  have hXk := hX0
  have Z : mZ p s m args meth c cX5_number 3 (some .int) wsX5_number RX5 D [(cI, .int), (cZ, .boolean)] X := ⟨hx, hb, hml, hr, hlocks, hts, hown, hKv, hXs⟩
  replace hown : s.vm.findClass RX5 = some m.cls := hown
  have hl : lv_has ls 3 [(0, .ref (ad 0)), (1, .int a1), (2, .int a2)] := hl
  have k0 := hts (Cond.fieldLink RX5 86 "NoonWalkerModel" "token" "I") (List.mem_of_getElem? (i := 1) rfl)
  have k1 := hts (Cond.fieldLink RX5 93 "NoonWalkerModel" "value" "I") (List.mem_of_getElem? (i := 2) rfl)
  unfold fX5_number at h
  refine lv_aload_n hx hb dX5_number_0 rfl (lv_at hl 0 rfl) ?_
  refine lv_aload_n hx hb dX5_number_1 rfl (lv_at hl 0 rfl) ?_
  refine m_get hx hb hts hown hKv hM (fun _ h => List.mem_cons_of_mem _ (List.mem_append_right _ (h))) (by decide) at_X5 rfl 5 (by decide) k0 (v := .int (M.1 0 5)) rfl dX5_number_2 ?_
  refine lv_iconst (v := (2 : Int32)) hx hb dX5_number_5 (by decide) ?_
  refine lv_icmp_ne (tgt := 25) hx hb dX5_number_6 (by decide) (fun c1 => ?_) (fun c1 => ?_)
  · replace h := (if_neg c1).symm.trans h
    refine lv_iconst (v := (0 : Int32)) hx hb dX5_number_25 (by decide) ?_
    obtain ⟨x2, hx2, h⟩ := Option.bind_eq_some_iff.mp h
    refine m_callV (As := [.int (0 : Int32)]) (st1 := [.int x2.1]) hx hb (hml.trans hl.1.symm) hown hts hKv hXs hXk hM (kX5_takes l D cI cZ ad hX0 (0 : Int32) M _ hx2) (cwV 1 hts gX5_number_X5_takes rfl rfl rfl (by decide +kernel) ⟨Nat.le_of_ble_eq_true rfl, Nat.le_of_ble_eq_true rfl⟩) (by decide) at_X5 rfl rfl rfl rfl (Nat.le_of_ble_eq_true rfl) dX5_number_26 ⟨Nat.zero_le _, Nat.zero_le _⟩ (fun H locs hM => ?_)
    exact m_iret hx hb hr hlocks hM (congrArg (a₁ := (x2.1, x2.2)) Prod.fst (Option.some.inj h)) (congrArg (a₁ := (x2.1, x2.2)) (fun z => Em ad cI cZ z.2) (Option.some.inj h)) dX5_number_29
  · replace h := (if_pos c1).symm.trans h
    refine lv_aload_n hx hb dX5_number_9 rfl (lv_at hl 0 rfl) ?_
    refine m_get hx hb hts hown hKv hM (fun _ h => List.mem_cons_of_mem _ (List.mem_append_right _ (h))) (by decide) at_X5 rfl 7 (by decide) k1 (v := .int (M.1 0 7)) rfl dX5_number_10 ?_
    refine lv_iload_n hx hb dX5_number_13 rfl (lv_at hl 1 rfl) ?_
    refine lv_iload_n hx hb dX5_number_14 rfl (lv_at hl 2 rfl) ?_
    obtain ⟨x3, hx3, h⟩ := Option.bind_eq_some_iff.mp h
    refine m_callS (As := [.int (M.1 0 7), .int a1, .int a2]) (st1 := [.int x3, .ref (ad 0)]) hx hb (hml.trans hl.1.symm) hown hts hKv hXs hXk hM (kX5_in l D cI cZ ad hX0 (M.1 0 7) a1 a2 M _ hx3) (va_cwS 3 hts gX5_number_X5_in rfl rfl rfl (by decide +kernel) ⟨Nat.le_of_ble_eq_true rfl, Nat.le_of_ble_eq_true rfl⟩) rfl rfl rfl (Nat.le_of_ble_eq_true rfl) dX5_number_15 ⟨Nat.zero_le _, Nat.zero_le _⟩ (fun H locs hM => ?_)
    refine lv_if_eq (tgt := 25) hx hb dX5_number_18 (by decide) (fun c4 => ?_) (fun c4 => ?_)
    · replace h := (if_pos c4).symm.trans h
      refine lv_iconst (v := (0 : Int32)) hx hb dX5_number_25 (by decide) ?_
      obtain ⟨x5, hx5, h⟩ := Option.bind_eq_some_iff.mp h
      refine m_callV (As := [.int (0 : Int32)]) (st1 := [.int x5.1]) hx hb (hml.trans hl.1.symm) hown hts hKv hXs hXk hM (kX5_takes l D cI cZ ad hX0 (0 : Int32) M _ hx5) (cwV 1 hts gX5_number_X5_takes rfl rfl rfl (by decide +kernel) ⟨Nat.le_of_ble_eq_true rfl, Nat.le_of_ble_eq_true rfl⟩) (by decide) at_X5 rfl rfl rfl rfl (Nat.le_of_ble_eq_true rfl) dX5_number_26 ⟨Nat.zero_le _, Nat.zero_le _⟩ (fun H locs hM => ?_)
      exact m_iret hx hb hr hlocks hM (congrArg (a₁ := (x5.1, x5.2)) Prod.fst (Option.some.inj h)) (congrArg (a₁ := (x5.1, x5.2)) (fun z => Em ad cI cZ z.2) (Option.some.inj h)) dX5_number_29
    · replace h := (if_neg c4).symm.trans h
      refine lv_iconst (v := (1 : Int32)) hx hb dX5_number_21 (by decide) ?_
      refine lv_goto (tgt := 26) hx hb dX5_number_22 (by decide) ?_
      obtain ⟨x6, hx6, h⟩ := Option.bind_eq_some_iff.mp h
      refine m_callV (As := [.int (1 : Int32)]) (st1 := [.int x6.1]) hx hb (hml.trans hl.1.symm) hown hts hKv hXs hXk hM (kX5_takes l D cI cZ ad hX0 (1 : Int32) M _ hx6) (cwV 1 hts gX5_number_X5_takes rfl rfl rfl (by decide +kernel) ⟨Nat.le_of_ble_eq_true rfl, Nat.le_of_ble_eq_true rfl⟩) (by decide) at_X5 rfl rfl rfl rfl (Nat.le_of_ble_eq_true rfl) dX5_number_26 ⟨Nat.zero_le _, Nat.zero_le _⟩ (fun H locs hM => ?_)
      exact m_iret hx hb hr hlocks hM (congrArg (a₁ := (x6.1, x6.2)) Prod.fst (Option.some.inj h)) (congrArg (a₁ := (x6.1, x6.2)) (fun z => Em ad cI cZ z.2) (Option.some.inj h)) dX5_number_29
set_option maxHeartbeats 4000000 in
set_option maxRecDepth 100000 in
theorem wX5_roadOf_3 {p : Program} {l : Launch} {e : Env} {s : State} {m : MethodId} {args : Array Value} {below : List Frame} {meth : Method} {c : Code} {D : va_G} {cI cZ : ClassId} {ad : Nat → Nat} {X : State → Prop} (Z : mZ p s m args meth c cX5_roadOf 8 (some .int) wsX5_roadOf RX5 D [(cI, .int), (cZ, .boolean)] X) (hX0 : mX ad 14 X)   (u1 : Int32) (u2 : Int32) (u3 : Int32) (u4 : Int32) (M : Mem) {K : Option Int32} (res : Int32) (hKc : K = some res → ∀ (H : Heap) (locs : List Loc) (ls : Array Slot), lv_has ls 8 [] → mH D ad 14 (Em ad cI cZ M) s.heap H locs → W p l e { frames := 0, cells := 0, slots := 0, locals := 0 } s m args below meth c H locs 0 0 (MQ below (mQ D ad 14 (some (.int res)) (Em ad cI cZ M)) args s 0 0 (mA ad 14)) (F0 m 72 ls [])) :
    ∀ (n : Nat) (v5 : Int32), fX5_roadOf_3 u1 u2 u3 u4 M K n v5 = some res → ∀ (H : Heap) (locs : List Loc) (ls : Array Slot), lv_has ls 8 [(0, .ref (ad 0)), (1, .int u1), (2, .int u2), (3, .int u3), (4, .int u4), (5, .int v5)] → mH D ad 14 (Em ad cI cZ M) s.heap H locs → W p l e { frames := 0, cells := 0, slots := 0, locals := 0 } s m args below meth c H locs 0 0 (MQ below (mQ D ad 14 (some (.int res)) (Em ad cI cZ M)) args s 0 0 (mA ad 14)) (F0 m 3 ls []) := by
  obtain ⟨hx, hb, hml, hr, hlocks, hts, hown, hKv, hXs⟩ := id Z
  have hXk := hX0
  have k0 := hts (Cond.fieldLink RX5 16 "NoonWalkerModel" "road" "[I") (List.mem_of_getElem? (i := 1) rfl)
  intro n
  induction n with
  | zero => intro _ h; exact absurd h (by unfold fX5_roadOf_3; exact fun h => by cases h)
  | succ n ih =>
    intro v5 h H locs ls hl hM
    rw [fX5_roadOf_3] at h
    refine lv_iload hx hb dX5_roadOf_3 (lv_at hl 5 rfl) ?_
    refine lv_iload_n hx hb dX5_roadOf_5 rfl (lv_at hl 2 rfl) ?_
    refine lv_icmp_ge (tgt := 72) hx hb dX5_roadOf_6 (by decide) (fun c1 => ?_) (fun c1 => ?_)
    · replace h := (if_pos c1).symm.trans h
      exact hKc  h _ _ _ (lv_sub hl [] rfl) hM
    · replace h := (if_neg c1).symm.trans h
      refine lv_aload_n hx hb dX5_roadOf_9 rfl (lv_at hl 0 rfl) ?_
      refine m_get hx hb hts hown hKv hM (fun _ h => List.mem_cons_of_mem _ (List.mem_append_right _ (h))) (by decide) at_X5 rfl 10 (by decide) k0 (v := .ref (ad 3)) rfl dX5_roadOf_10 ?_
      refine lv_iload_n hx hb dX5_roadOf_13 rfl (lv_at hl 1 rfl) ?_
      refine lv_iconst (v := (3 : Int32)) hx hb dX5_roadOf_14 (by decide) ?_
      refine lv_iload hx hb dX5_roadOf_15 (lv_at hl 5 rfl) ?_
      refine lv_imul hx hb dX5_roadOf_17 ?_
      refine lv_iadd hx hb dX5_roadOf_18 ?_
      obtain ⟨x2, hx2, h⟩ := Option.bind_eq_some_iff.mp h
      refine m_iald hx hb hKv hM (by decide) at_X5_3 0 rfl hx2 dX5_roadOf_19 ?_
      refine lv_istore (lv' := [(6, .int x2), (0, .ref (ad 0)), (1, .int u1), (2, .int u2), (3, .int u3), (4, .int u4), (5, .int v5)]) hx hb dX5_roadOf_20 hl (by decide) rfl (fun ls hl => ?_)
      refine lv_aload_n hx hb dX5_roadOf_22 rfl (lv_at hl 1 rfl) ?_
      refine m_get hx hb hts hown hKv hM (fun _ h => List.mem_cons_of_mem _ (List.mem_append_right _ (h))) (by decide) at_X5 rfl 10 (by decide) k0 (v := .ref (ad 3)) rfl dX5_roadOf_23 ?_
      refine lv_iload_n hx hb dX5_roadOf_26 rfl (lv_at hl 2 rfl) ?_
      refine lv_iconst (v := (3 : Int32)) hx hb dX5_roadOf_27 (by decide) ?_
      refine lv_iload hx hb dX5_roadOf_28 (lv_at hl 6 rfl) ?_
      refine lv_imul hx hb dX5_roadOf_30 ?_
      refine lv_iadd hx hb dX5_roadOf_31 ?_
      refine lv_iconst (v := (1 : Int32)) hx hb dX5_roadOf_32 (by decide) ?_
      refine lv_iadd hx hb dX5_roadOf_33 ?_
      obtain ⟨x3, hx3, h⟩ := Option.bind_eq_some_iff.mp h
      refine m_iald hx hb hKv hM (by decide) at_X5_3 0 rfl hx3 dX5_roadOf_34 ?_
      refine lv_istore (lv' := [(7, .int x3), (6, .int x2), (0, .ref (ad 0)), (1, .int u1), (2, .int u2), (3, .int u3), (4, .int u4), (5, .int v5)]) hx hb dX5_roadOf_35 hl (by decide) rfl (fun ls hl => ?_)
      refine lv_iload hx hb dX5_roadOf_37 (lv_at hl 1 rfl) ?_
      refine lv_iload_n hx hb dX5_roadOf_39 rfl (lv_at hl 5 rfl) ?_
      refine lv_icmp_ne (tgt := 50) hx hb dX5_roadOf_40 (by decide) (fun c4 => ?_) (fun c4 => ?_)
      · replace h := (if_neg c4).symm.trans h
        refine lv_iload hx hb dX5_roadOf_50 (lv_at hl 1 rfl) ?_
        refine lv_iload hx hb dX5_roadOf_52 (lv_at hl 6 rfl) ?_
        refine lv_icmp_ne (tgt := 66) hx hb dX5_roadOf_54 (by decide) (fun c5 => ?_) (fun c5 => ?_)
        · replace h := (if_neg c5).symm.trans h
          refine lv_iinc (v := (v5 + 1)) (lv' := [(5, .int (v5 + 1)), (7, .int x3), (6, .int x2), (0, .ref (ad 0)), (1, .int u1), (2, .int u2), (3, .int u3), (4, .int u4)]) hx hb dX5_roadOf_66 hl (k := 7) rfl rfl (by decide) rfl (fun ls hl => ?_)
          refine lv_goto (tgt := 3) hx hb dX5_roadOf_69 (by decide) ?_
          exact ih _ h _ _ _ (lv_sub hl [3, 4, 5, 6, 7, 0] rfl) hM
        · replace h := (if_pos c5).symm.trans h
          refine lv_iload hx hb dX5_roadOf_57 (lv_at hl 0 rfl) ?_
          refine lv_iload_n hx hb dX5_roadOf_59 rfl (lv_at hl 5 rfl) ?_
          refine lv_icmp_ne (tgt := 66) hx hb dX5_roadOf_60 (by decide) (fun c6 => ?_) (fun c6 => ?_)
          · replace h := (if_neg c6).symm.trans h
            refine lv_iinc (v := (v5 + 1)) (lv' := [(5, .int (v5 + 1)), (7, .int x3), (6, .int x2), (0, .ref (ad 0)), (1, .int u1), (2, .int u2), (3, .int u3), (4, .int u4)]) hx hb dX5_roadOf_66 hl (k := 7) rfl rfl (by decide) rfl (fun ls hl => ?_)
            refine lv_goto (tgt := 3) hx hb dX5_roadOf_69 (by decide) ?_
            exact ih _ h _ _ _ (lv_sub hl [3, 4, 5, 6, 7, 0] rfl) hM
          · replace h := (if_pos c6).symm.trans h
            refine lv_iload hx hb dX5_roadOf_63 (lv_at hl 7 rfl) ?_
            exact m_iret hx hb hr hlocks hM (Option.some.inj h) rfl dX5_roadOf_65
      · replace h := (if_pos c4).symm.trans h
        refine lv_iload hx hb dX5_roadOf_43 (lv_at hl 0 rfl) ?_
        refine lv_iload hx hb dX5_roadOf_45 (lv_at hl 6 rfl) ?_
        refine lv_icmp_eq (tgt := 63) hx hb dX5_roadOf_47 (by decide) (fun c7 => ?_) (fun c7 => ?_)
        · replace h := (if_pos c7).symm.trans h
          refine lv_iload hx hb dX5_roadOf_63 (lv_at hl 7 rfl) ?_
          exact m_iret hx hb hr hlocks hM (Option.some.inj h) rfl dX5_roadOf_65
        · replace h := (if_neg c7).symm.trans h
          refine lv_iload hx hb dX5_roadOf_50 (lv_at hl 1 rfl) ?_
          refine lv_iload hx hb dX5_roadOf_52 (lv_at hl 6 rfl) ?_
          refine lv_icmp_ne (tgt := 66) hx hb dX5_roadOf_54 (by decide) (fun c8 => ?_) (fun c8 => ?_)
          · replace h := (if_neg c8).symm.trans h
            refine lv_iinc (v := (v5 + 1)) (lv' := [(5, .int (v5 + 1)), (7, .int x3), (6, .int x2), (0, .ref (ad 0)), (1, .int u1), (2, .int u2), (3, .int u3), (4, .int u4)]) hx hb dX5_roadOf_66 hl (k := 7) rfl rfl (by decide) rfl (fun ls hl => ?_)
            refine lv_goto (tgt := 3) hx hb dX5_roadOf_69 (by decide) ?_
            exact ih _ h _ _ _ (lv_sub hl [3, 4, 5, 6, 7, 0] rfl) hM
          · replace h := (if_pos c8).symm.trans h
            refine lv_iload hx hb dX5_roadOf_57 (lv_at hl 0 rfl) ?_
            refine lv_iload_n hx hb dX5_roadOf_59 rfl (lv_at hl 5 rfl) ?_
            refine lv_icmp_ne (tgt := 66) hx hb dX5_roadOf_60 (by decide) (fun c9 => ?_) (fun c9 => ?_)
            · replace h := (if_neg c9).symm.trans h
              refine lv_iinc (v := (v5 + 1)) (lv' := [(5, .int (v5 + 1)), (7, .int x3), (6, .int x2), (0, .ref (ad 0)), (1, .int u1), (2, .int u2), (3, .int u3), (4, .int u4)]) hx hb dX5_roadOf_66 hl (k := 7) rfl rfl (by decide) rfl (fun ls hl => ?_)
              refine lv_goto (tgt := 3) hx hb dX5_roadOf_69 (by decide) ?_
              exact ih _ h _ _ _ (lv_sub hl [3, 4, 5, 6, 7, 0] rfl) hM
            · replace h := (if_pos c9).symm.trans h
              refine lv_iload hx hb dX5_roadOf_63 (lv_at hl 7 rfl) ?_
              exact m_iret hx hb hr hlocks hM (Option.some.inj h) rfl dX5_roadOf_65
set_option maxHeartbeats 4000000 in
set_option maxRecDepth 100000 in
theorem kX5_roadOf (l : Launch) (D : va_G) (cI cZ : ClassId) (ad : Nat → Nat) {X : State → Prop} (hX0 : mX ad 14 X) (a1 : Int32) (a2 : Int32) (a3 : Int32) (a4 : Int32) (M : Mem) (res : Int32) (h : fX5_roadOf a1 a2 a3 a4 M = some res) : mC l yX5_roadOf wsX5_roadOf { frames := 0, cells := 0, slots := 0, locals := 0 } D [(cI, .int), (cZ, .boolean)] ad 14 X [.ref (ad 0), .int a1, .int a2, .int a3, .int a4] (Em ad cI cZ M) (some (.int res)) (Em ad cI cZ M) := by
  refine m_ofW (cc := cX5_roadOf) (maxL := 8) (ret := (some .int)) (by decide) rfl (Nat.le_of_ble_eq_true rfl) ?_
  intro p e s m args below meth c hx hb hml hr hlocks hts hown hKv hXs ls hl hM
  have hXk := hX0
  have Z : mZ p s m args meth c cX5_roadOf 8 (some .int) wsX5_roadOf RX5 D [(cI, .int), (cZ, .boolean)] X := ⟨hx, hb, hml, hr, hlocks, hts, hown, hKv, hXs⟩
  replace hown : s.vm.findClass RX5 = some m.cls := hown
  have hl : lv_has ls 8 [(0, .ref (ad 0)), (1, .int a1), (2, .int a2), (3, .int a3), (4, .int a4)] := hl
  unfold fX5_roadOf at h
  refine lv_iconst (v := (0 : Int32)) hx hb dX5_roadOf_0 (by decide) ?_
  refine lv_istore (lv' := [(5, .int (0 : Int32)), (0, .ref (ad 0)), (1, .int a1), (2, .int a2), (3, .int a3), (4, .int a4)]) hx hb dX5_roadOf_1 hl (by decide) rfl (fun ls hl => ?_)
  refine wX5_roadOf_3 Z hX0 a1 a2 a3 a4 M _ (fun  h H locs ls hl hM => ?_) _ _ h _ _ _ (lv_sub hl [1, 2, 3, 4, 5, 0] rfl) hM
  refine lv_bipush (v := (-9 : Int32)) hx hb dX5_roadOf_72 (by decide) ?_
  exact m_iret hx hb hr hlocks hM (Option.some.inj h) rfl dX5_roadOf_74
set_option maxHeartbeats 4000000 in
set_option maxRecDepth 100000 in
theorem kX5_readsItem (l : Launch) (D : va_G) (cI cZ : ClassId) (ad : Nat → Nat) {X : State → Prop} (hX0 : mX ad 14 X) (a1 : Int32) (M : Mem) (res : Mem) (h : fX5_readsItem a1 M = some res) : mC l yX5_readsItem wsX5_readsItem { frames := 5, cells := 0, slots := 0, locals := 111 } D [(cI, .int), (cZ, .boolean)] ad 14 X [.ref (ad 0), .int a1] (Em ad cI cZ M) none (Em ad cI cZ res) := by
  refine m_ofW (cc := cX5_readsItem) (maxL := 6) (ret := none) (by decide) rfl (Nat.le_of_ble_eq_true rfl) ?_
  intro p e s m args below meth c hx hb hml hr hlocks hts hown hKv hXs ls hl hM
  have hXk := hX0
  have Z : mZ p s m args meth c cX5_readsItem 6 none wsX5_readsItem RX5 D [(cI, .int), (cZ, .boolean)] X := ⟨hx, hb, hml, hr, hlocks, hts, hown, hKv, hXs⟩
  replace hown : s.vm.findClass RX5 = some m.cls := hown
  have hl : lv_has ls 6 [(0, .ref (ad 0)), (1, .int a1)] := hl
  have k0 := hts (Cond.fieldLink RX5 86 "NoonWalkerModel" "token" "I") (List.mem_of_getElem? (i := 4) rfl)
  have k1 := hts (Cond.fieldLink RX5 19 "NoonWalkerModel" "haltAt" "[I") (List.mem_of_getElem? (i := 8) rfl)
  have k2 := hts (Cond.fieldLink RX5 120 "NoonWalkerModel" "draftHalts" "I") (List.mem_of_getElem? (i := 7) rfl)
  have k3 := hts (Cond.fieldLink RX5 22 "NoonWalkerModel" "rest" "[I") (List.mem_of_getElem? (i := 9) rfl)
  have k4 := hts (Cond.fieldLink RX5 93 "NoonWalkerModel" "value" "I") (List.mem_of_getElem? (i := 5) rfl)
  have k5 := hts (Cond.fieldLink RX5 110 "NoonWalkerModel" "draftTowns" "I") (List.mem_of_getElem? (i := 2) rfl)
  have k6 := hts (Cond.fieldLink RX5 117 "NoonWalkerModel" "draftRoads" "I") (List.mem_of_getElem? (i := 3) rfl)
  have k7 := hts (Cond.fieldLink RX5 16 "NoonWalkerModel" "road" "[I") (List.mem_of_getElem? (i := 6) rfl)
  have k8 := hts (Cond.fieldLink RX5 13 "NoonWalkerModel" "bid" "[I") (List.mem_of_getElem? (i := 1) rfl)
  unfold fX5_readsItem at h
  refine lv_iload_n hx hb dX5_readsItem_0 rfl (lv_at hl 1 rfl) ?_
  refine lv_if_ne (tgt := 36) hx hb dX5_readsItem_1 (by decide) (fun c1 => ?_) (fun c1 => ?_)
  · replace h := (if_neg c1).symm.trans h
    refine lv_iload_n hx hb dX5_readsItem_36 rfl (lv_at hl 1 rfl) ?_
    refine lv_iconst (v := (1 : Int32)) hx hb dX5_readsItem_37 (by decide) ?_
    refine lv_icmp_ne (tgt := 156) hx hb dX5_readsItem_38 (by decide) (fun c2 => ?_) (fun c2 => ?_)
    · replace h := (if_neg c2).symm.trans h
      refine lv_aload_n hx hb dX5_readsItem_156 rfl (lv_at hl 0 rfl) ?_
      refine m_get hx hb hts hown hKv hM (fun _ h => List.mem_cons_of_mem _ (List.mem_append_right _ (h))) (by decide) at_X5 rfl 5 (by decide) k0 (v := .int (M.1 0 5)) rfl dX5_readsItem_157 ?_
      refine lv_iconst (v := (2 : Int32)) hx hb dX5_readsItem_160 (by decide) ?_
      refine lv_icmp_ne (tgt := 223) hx hb dX5_readsItem_161 (by decide) (fun c3 => ?_) (fun c3 => ?_)
      · replace h := (if_neg c3).symm.trans h
        refine lv_iconst (v := (0 : Int32)) hx hb dX5_readsItem_223 (by decide) ?_
        refine lv_istore_n (lv' := [(2, .int (0 : Int32)), (0, .ref (ad 0)), (1, .int a1)]) hx hb dX5_readsItem_224 rfl hl (by decide) rfl (fun ls hl => ?_)
        refine lv_aload_n hx hb dX5_readsItem_225 rfl (lv_at hl 1 rfl) ?_
        refine m_get hx hb hts hown hKv hM (fun _ h => List.mem_cons_of_mem _ (List.mem_append_right _ (h))) (by decide) at_X5 rfl 11 (by decide) k1 (v := .ref (ad 4)) rfl dX5_readsItem_226 ?_
        refine lv_bipush (v := (10 : Int32)) hx hb dX5_readsItem_229 (by decide) ?_
        refine lv_aload_n hx hb dX5_readsItem_231 rfl (lv_at hl 1 rfl) ?_
        refine m_get hx hb hts hown hKv hM (fun _ h => List.mem_cons_of_mem _ (List.mem_append_right _ (h))) (by decide) at_X5 rfl 18 (by decide) k2 (v := .int (M.1 0 18)) rfl dX5_readsItem_232 ?_
        refine lv_iadd hx hb dX5_readsItem_235 ?_
        refine lv_aload_n hx hb dX5_readsItem_236 rfl (lv_at hl 1 rfl) ?_
        refine lv_iload_n hx hb dX5_readsItem_237 rfl (lv_at hl 0 rfl) ?_
        obtain ⟨x4, hx4, h⟩ := Option.bind_eq_some_iff.mp h
        refine m_callV (As := [.int (0 : Int32)]) (st1 := [.int x4.1, .int ((10 : Int32) + (M.1 0 18)), .ref (ad 4)]) hx hb (hml.trans hl.1.symm) hown hts hKv hXs hXk hM (kX5_takes l D cI cZ ad hX0 (0 : Int32) M _ hx4) (cwV 1 hts gX5_readsItem_X5_takes rfl rfl rfl (by decide +kernel) ⟨Nat.le_of_ble_eq_true rfl, Nat.le_of_ble_eq_true rfl⟩) (by decide) at_X5 rfl rfl rfl rfl (Nat.le_of_ble_eq_true rfl) dX5_readsItem_238 ⟨Nat.zero_le _, Nat.zero_le _⟩ (fun H locs hM => ?_)
        obtain ⟨M5, hM5, h⟩ := Option.bind_eq_some_iff.mp h
        refine m_iast hx hb hKv hM (by decide) at_X5_4 0 rfl (sta_some hM5).1 (pa_X5_4 (sta_some hM5).2) dX5_readsItem_241 (fun H locs hM => ?_)
        refine lv_aload_n hx hb dX5_readsItem_242 rfl (lv_at hl 1 rfl) ?_
        refine m_get hx hb hts hown hKv hM (fun _ h => List.mem_cons_of_mem _ (List.mem_append_right _ (h))) (by decide) at_X5 rfl 12 (by decide) k3 (v := .ref (ad 5)) rfl dX5_readsItem_243 ?_
        refine lv_bipush (v := (10 : Int32)) hx hb dX5_readsItem_246 (by decide) ?_
        refine lv_aload_n hx hb dX5_readsItem_248 rfl (lv_at hl 1 rfl) ?_
        refine m_get hx hb hts hown hKv hM (fun _ h => List.mem_cons_of_mem _ (List.mem_append_right _ (h))) (by decide) at_X5 rfl 18 (by decide) k2 (v := .int (M5.1 0 18)) rfl dX5_readsItem_249 ?_
        refine lv_iadd hx hb dX5_readsItem_252 ?_
        refine lv_aload_n hx hb dX5_readsItem_253 rfl (lv_at hl 1 rfl) ?_
        refine lv_iconst (v := (0 : Int32)) hx hb dX5_readsItem_254 (by decide) ?_
        refine lv_bipush (v := (9 : Int32)) hx hb dX5_readsItem_255 (by decide) ?_
        obtain ⟨x6, hx6, h⟩ := Option.bind_eq_some_iff.mp h
        refine m_callV (As := [.int (0 : Int32), .int (9 : Int32)]) (st1 := [.int x6.1, .int ((10 : Int32) + (M5.1 0 18)), .ref (ad 5)]) hx hb (hml.trans hl.1.symm) hown hts hKv hXs hXk hM (kX5_number l D cI cZ ad hX0 (0 : Int32) (9 : Int32) M5 _ hx6) (cwV 2 hts gX5_readsItem_X5_number rfl rfl rfl (by decide +kernel) ⟨Nat.le_of_ble_eq_true rfl, Nat.le_of_ble_eq_true rfl⟩) (by decide) at_X5 rfl rfl rfl rfl (Nat.le_of_ble_eq_true rfl) dX5_readsItem_257 ⟨Nat.zero_le _, Nat.zero_le _⟩ (fun H locs hM => ?_)
        obtain ⟨M7, hM7, h⟩ := Option.bind_eq_some_iff.mp h
        refine m_iast hx hb hKv hM (by decide) at_X5_5 0 rfl (sta_some hM7).1 (pa_X5_5 (sta_some hM7).2) dX5_readsItem_260 (fun H locs hM => ?_)
        refine lv_aload_n hx hb dX5_readsItem_261 rfl (lv_at hl 1 rfl) ?_
        refine lv_dup hx hb dX5_readsItem_262 rfl ?_
        refine m_get hx hb hts hown hKv hM (fun _ h => List.mem_cons_of_mem _ (List.mem_append_right _ (h))) (by decide) at_X5 rfl 18 (by decide) k2 (v := .int (M7.1 0 18)) rfl dX5_readsItem_263 ?_
        refine lv_iconst (v := (1 : Int32)) hx hb dX5_readsItem_266 (by decide) ?_
        refine lv_iadd hx hb dX5_readsItem_267 ?_
        obtain ⟨M8, hM8, h⟩ := Option.bind_eq_some_iff.mp h
        refine m_put hx hb hts hown hKv hM (fun _ h => List.mem_cons_of_mem _ (List.mem_append_right _ (h))) tyX5 tyX5_ok nmX5 (by decide) at_X5 rfl 18 (by decide) k2 rfl rfl rfl (Nat.le_of_ble_eq_true rfl) (pt_X5_18 (Option.some.inj hM8)) dX5_readsItem_268 (fun H locs hM => ?_)
        exact m_vret hx hb hr hlocks hM (congrArg (a₁ := M8) (fun z => Em ad cI cZ z) (Option.some.inj h)) dX5_readsItem_271
      · replace h := (if_pos c3).symm.trans h
        refine lv_aload_n hx hb dX5_readsItem_164 rfl (lv_at hl 0 rfl) ?_
        refine m_get hx hb hts hown hKv hM (fun _ h => List.mem_cons_of_mem _ (List.mem_append_right _ (h))) (by decide) at_X5 rfl 7 (by decide) k4 (v := .int (M.1 0 7)) rfl dX5_readsItem_165 ?_
        refine lv_iconst (v := (0 : Int32)) hx hb dX5_readsItem_168 (by decide) ?_
        refine lv_aload_n hx hb dX5_readsItem_169 rfl (lv_at hl 0 rfl) ?_
        refine m_get hx hb hts hown hKv hM (fun _ h => List.mem_cons_of_mem _ (List.mem_append_right _ (h))) (by decide) at_X5 rfl 16 (by decide) k5 (v := .int (M.1 0 16)) rfl dX5_readsItem_170 ?_
        refine lv_iconst (v := (1 : Int32)) hx hb dX5_readsItem_173 (by decide) ?_
        refine lv_isub hx hb dX5_readsItem_174 ?_
        obtain ⟨x9, hx9, h⟩ := Option.bind_eq_some_iff.mp h
        refine m_callS (As := [.int (M.1 0 7), .int (0 : Int32), .int ((M.1 0 16) - (1 : Int32))]) (st1 := [.int x9]) hx hb (hml.trans hl.1.symm) hown hts hKv hXs hXk hM (kX5_in l D cI cZ ad hX0 (M.1 0 7) (0 : Int32) ((M.1 0 16) - (1 : Int32)) M _ hx9) (va_cwS 3 hts gX5_readsItem_X5_in rfl rfl rfl (by decide +kernel) ⟨Nat.le_of_ble_eq_true rfl, Nat.le_of_ble_eq_true rfl⟩) rfl rfl rfl (Nat.le_of_ble_eq_true rfl) dX5_readsItem_175 ⟨Nat.zero_le _, Nat.zero_le _⟩ (fun H locs hM => ?_)
        refine lv_if_eq (tgt := 223) hx hb dX5_readsItem_178 (by decide) (fun c10 => ?_) (fun c10 => ?_)
        · replace h := (if_pos c10).symm.trans h
          refine lv_iconst (v := (0 : Int32)) hx hb dX5_readsItem_223 (by decide) ?_
          refine lv_istore_n (lv' := [(2, .int (0 : Int32)), (0, .ref (ad 0)), (1, .int a1)]) hx hb dX5_readsItem_224 rfl hl (by decide) rfl (fun ls hl => ?_)
          refine lv_aload_n hx hb dX5_readsItem_225 rfl (lv_at hl 1 rfl) ?_
          refine m_get hx hb hts hown hKv hM (fun _ h => List.mem_cons_of_mem _ (List.mem_append_right _ (h))) (by decide) at_X5 rfl 11 (by decide) k1 (v := .ref (ad 4)) rfl dX5_readsItem_226 ?_
          refine lv_bipush (v := (10 : Int32)) hx hb dX5_readsItem_229 (by decide) ?_
          refine lv_aload_n hx hb dX5_readsItem_231 rfl (lv_at hl 1 rfl) ?_
          refine m_get hx hb hts hown hKv hM (fun _ h => List.mem_cons_of_mem _ (List.mem_append_right _ (h))) (by decide) at_X5 rfl 18 (by decide) k2 (v := .int (M.1 0 18)) rfl dX5_readsItem_232 ?_
          refine lv_iadd hx hb dX5_readsItem_235 ?_
          refine lv_aload_n hx hb dX5_readsItem_236 rfl (lv_at hl 1 rfl) ?_
          refine lv_iload_n hx hb dX5_readsItem_237 rfl (lv_at hl 0 rfl) ?_
          obtain ⟨x11, hx11, h⟩ := Option.bind_eq_some_iff.mp h
          refine m_callV (As := [.int (0 : Int32)]) (st1 := [.int x11.1, .int ((10 : Int32) + (M.1 0 18)), .ref (ad 4)]) hx hb (hml.trans hl.1.symm) hown hts hKv hXs hXk hM (kX5_takes l D cI cZ ad hX0 (0 : Int32) M _ hx11) (cwV 1 hts gX5_readsItem_X5_takes rfl rfl rfl (by decide +kernel) ⟨Nat.le_of_ble_eq_true rfl, Nat.le_of_ble_eq_true rfl⟩) (by decide) at_X5 rfl rfl rfl rfl (Nat.le_of_ble_eq_true rfl) dX5_readsItem_238 ⟨Nat.zero_le _, Nat.zero_le _⟩ (fun H locs hM => ?_)
          obtain ⟨M12, hM12, h⟩ := Option.bind_eq_some_iff.mp h
          refine m_iast hx hb hKv hM (by decide) at_X5_4 0 rfl (sta_some hM12).1 (pa_X5_4 (sta_some hM12).2) dX5_readsItem_241 (fun H locs hM => ?_)
          refine lv_aload_n hx hb dX5_readsItem_242 rfl (lv_at hl 1 rfl) ?_
          refine m_get hx hb hts hown hKv hM (fun _ h => List.mem_cons_of_mem _ (List.mem_append_right _ (h))) (by decide) at_X5 rfl 12 (by decide) k3 (v := .ref (ad 5)) rfl dX5_readsItem_243 ?_
          refine lv_bipush (v := (10 : Int32)) hx hb dX5_readsItem_246 (by decide) ?_
          refine lv_aload_n hx hb dX5_readsItem_248 rfl (lv_at hl 1 rfl) ?_
          refine m_get hx hb hts hown hKv hM (fun _ h => List.mem_cons_of_mem _ (List.mem_append_right _ (h))) (by decide) at_X5 rfl 18 (by decide) k2 (v := .int (M12.1 0 18)) rfl dX5_readsItem_249 ?_
          refine lv_iadd hx hb dX5_readsItem_252 ?_
          refine lv_aload_n hx hb dX5_readsItem_253 rfl (lv_at hl 1 rfl) ?_
          refine lv_iconst (v := (0 : Int32)) hx hb dX5_readsItem_254 (by decide) ?_
          refine lv_bipush (v := (9 : Int32)) hx hb dX5_readsItem_255 (by decide) ?_
          obtain ⟨x13, hx13, h⟩ := Option.bind_eq_some_iff.mp h
          refine m_callV (As := [.int (0 : Int32), .int (9 : Int32)]) (st1 := [.int x13.1, .int ((10 : Int32) + (M12.1 0 18)), .ref (ad 5)]) hx hb (hml.trans hl.1.symm) hown hts hKv hXs hXk hM (kX5_number l D cI cZ ad hX0 (0 : Int32) (9 : Int32) M12 _ hx13) (cwV 2 hts gX5_readsItem_X5_number rfl rfl rfl (by decide +kernel) ⟨Nat.le_of_ble_eq_true rfl, Nat.le_of_ble_eq_true rfl⟩) (by decide) at_X5 rfl rfl rfl rfl (Nat.le_of_ble_eq_true rfl) dX5_readsItem_257 ⟨Nat.zero_le _, Nat.zero_le _⟩ (fun H locs hM => ?_)
          obtain ⟨M14, hM14, h⟩ := Option.bind_eq_some_iff.mp h
          refine m_iast hx hb hKv hM (by decide) at_X5_5 0 rfl (sta_some hM14).1 (pa_X5_5 (sta_some hM14).2) dX5_readsItem_260 (fun H locs hM => ?_)
          refine lv_aload_n hx hb dX5_readsItem_261 rfl (lv_at hl 1 rfl) ?_
          refine lv_dup hx hb dX5_readsItem_262 rfl ?_
          refine m_get hx hb hts hown hKv hM (fun _ h => List.mem_cons_of_mem _ (List.mem_append_right _ (h))) (by decide) at_X5 rfl 18 (by decide) k2 (v := .int (M14.1 0 18)) rfl dX5_readsItem_263 ?_
          refine lv_iconst (v := (1 : Int32)) hx hb dX5_readsItem_266 (by decide) ?_
          refine lv_iadd hx hb dX5_readsItem_267 ?_
          obtain ⟨M15, hM15, h⟩ := Option.bind_eq_some_iff.mp h
          refine m_put hx hb hts hown hKv hM (fun _ h => List.mem_cons_of_mem _ (List.mem_append_right _ (h))) tyX5 tyX5_ok nmX5 (by decide) at_X5 rfl 18 (by decide) k2 rfl rfl rfl (Nat.le_of_ble_eq_true rfl) (pt_X5_18 (Option.some.inj hM15)) dX5_readsItem_268 (fun H locs hM => ?_)
          exact m_vret hx hb hr hlocks hM (congrArg (a₁ := M15) (fun z => Em ad cI cZ z) (Option.some.inj h)) dX5_readsItem_271
        · replace h := (if_neg c10).symm.trans h
          refine lv_aload_n hx hb dX5_readsItem_181 rfl (lv_at hl 0 rfl) ?_
          refine m_get hx hb hts hown hKv hM (fun _ h => List.mem_cons_of_mem _ (List.mem_append_right _ (h))) (by decide) at_X5 rfl 18 (by decide) k2 (v := .int (M.1 0 18)) rfl dX5_readsItem_182 ?_
          refine lv_if_eq (tgt := 219) hx hb dX5_readsItem_185 (by decide) (fun c16 => ?_) (fun c16 => ?_)
          · replace h := (if_pos c16).symm.trans h
            refine lv_iconst (v := (1 : Int32)) hx hb dX5_readsItem_219 (by decide) ?_
            refine lv_goto (tgt := 224) hx hb dX5_readsItem_220 (by decide) ?_
            refine lv_istore_n (lv' := [(2, .int (1 : Int32)), (0, .ref (ad 0)), (1, .int a1)]) hx hb dX5_readsItem_224 rfl hl (by decide) rfl (fun ls hl => ?_)
            refine lv_aload_n hx hb dX5_readsItem_225 rfl (lv_at hl 1 rfl) ?_
            refine m_get hx hb hts hown hKv hM (fun _ h => List.mem_cons_of_mem _ (List.mem_append_right _ (h))) (by decide) at_X5 rfl 11 (by decide) k1 (v := .ref (ad 4)) rfl dX5_readsItem_226 ?_
            refine lv_bipush (v := (10 : Int32)) hx hb dX5_readsItem_229 (by decide) ?_
            refine lv_aload_n hx hb dX5_readsItem_231 rfl (lv_at hl 1 rfl) ?_
            refine m_get hx hb hts hown hKv hM (fun _ h => List.mem_cons_of_mem _ (List.mem_append_right _ (h))) (by decide) at_X5 rfl 18 (by decide) k2 (v := .int (M.1 0 18)) rfl dX5_readsItem_232 ?_
            refine lv_iadd hx hb dX5_readsItem_235 ?_
            refine lv_aload_n hx hb dX5_readsItem_236 rfl (lv_at hl 1 rfl) ?_
            refine lv_iload_n hx hb dX5_readsItem_237 rfl (lv_at hl 0 rfl) ?_
            obtain ⟨x17, hx17, h⟩ := Option.bind_eq_some_iff.mp h
            refine m_callV (As := [.int (1 : Int32)]) (st1 := [.int x17.1, .int ((10 : Int32) + (M.1 0 18)), .ref (ad 4)]) hx hb (hml.trans hl.1.symm) hown hts hKv hXs hXk hM (kX5_takes l D cI cZ ad hX0 (1 : Int32) M _ hx17) (cwV 1 hts gX5_readsItem_X5_takes rfl rfl rfl (by decide +kernel) ⟨Nat.le_of_ble_eq_true rfl, Nat.le_of_ble_eq_true rfl⟩) (by decide) at_X5 rfl rfl rfl rfl (Nat.le_of_ble_eq_true rfl) dX5_readsItem_238 ⟨Nat.zero_le _, Nat.zero_le _⟩ (fun H locs hM => ?_)
            obtain ⟨M18, hM18, h⟩ := Option.bind_eq_some_iff.mp h
            refine m_iast hx hb hKv hM (by decide) at_X5_4 0 rfl (sta_some hM18).1 (pa_X5_4 (sta_some hM18).2) dX5_readsItem_241 (fun H locs hM => ?_)
            refine lv_aload_n hx hb dX5_readsItem_242 rfl (lv_at hl 1 rfl) ?_
            refine m_get hx hb hts hown hKv hM (fun _ h => List.mem_cons_of_mem _ (List.mem_append_right _ (h))) (by decide) at_X5 rfl 12 (by decide) k3 (v := .ref (ad 5)) rfl dX5_readsItem_243 ?_
            refine lv_bipush (v := (10 : Int32)) hx hb dX5_readsItem_246 (by decide) ?_
            refine lv_aload_n hx hb dX5_readsItem_248 rfl (lv_at hl 1 rfl) ?_
            refine m_get hx hb hts hown hKv hM (fun _ h => List.mem_cons_of_mem _ (List.mem_append_right _ (h))) (by decide) at_X5 rfl 18 (by decide) k2 (v := .int (M18.1 0 18)) rfl dX5_readsItem_249 ?_
            refine lv_iadd hx hb dX5_readsItem_252 ?_
            refine lv_aload_n hx hb dX5_readsItem_253 rfl (lv_at hl 1 rfl) ?_
            refine lv_iconst (v := (0 : Int32)) hx hb dX5_readsItem_254 (by decide) ?_
            refine lv_bipush (v := (9 : Int32)) hx hb dX5_readsItem_255 (by decide) ?_
            obtain ⟨x19, hx19, h⟩ := Option.bind_eq_some_iff.mp h
            refine m_callV (As := [.int (0 : Int32), .int (9 : Int32)]) (st1 := [.int x19.1, .int ((10 : Int32) + (M18.1 0 18)), .ref (ad 5)]) hx hb (hml.trans hl.1.symm) hown hts hKv hXs hXk hM (kX5_number l D cI cZ ad hX0 (0 : Int32) (9 : Int32) M18 _ hx19) (cwV 2 hts gX5_readsItem_X5_number rfl rfl rfl (by decide +kernel) ⟨Nat.le_of_ble_eq_true rfl, Nat.le_of_ble_eq_true rfl⟩) (by decide) at_X5 rfl rfl rfl rfl (Nat.le_of_ble_eq_true rfl) dX5_readsItem_257 ⟨Nat.zero_le _, Nat.zero_le _⟩ (fun H locs hM => ?_)
            obtain ⟨M20, hM20, h⟩ := Option.bind_eq_some_iff.mp h
            refine m_iast hx hb hKv hM (by decide) at_X5_5 0 rfl (sta_some hM20).1 (pa_X5_5 (sta_some hM20).2) dX5_readsItem_260 (fun H locs hM => ?_)
            refine lv_aload_n hx hb dX5_readsItem_261 rfl (lv_at hl 1 rfl) ?_
            refine lv_dup hx hb dX5_readsItem_262 rfl ?_
            refine m_get hx hb hts hown hKv hM (fun _ h => List.mem_cons_of_mem _ (List.mem_append_right _ (h))) (by decide) at_X5 rfl 18 (by decide) k2 (v := .int (M20.1 0 18)) rfl dX5_readsItem_263 ?_
            refine lv_iconst (v := (1 : Int32)) hx hb dX5_readsItem_266 (by decide) ?_
            refine lv_iadd hx hb dX5_readsItem_267 ?_
            obtain ⟨M21, hM21, h⟩ := Option.bind_eq_some_iff.mp h
            refine m_put hx hb hts hown hKv hM (fun _ h => List.mem_cons_of_mem _ (List.mem_append_right _ (h))) tyX5 tyX5_ok nmX5 (by decide) at_X5 rfl 18 (by decide) k2 rfl rfl rfl (Nat.le_of_ble_eq_true rfl) (pt_X5_18 (Option.some.inj hM21)) dX5_readsItem_268 (fun H locs hM => ?_)
            exact m_vret hx hb hr hlocks hM (congrArg (a₁ := M21) (fun z => Em ad cI cZ z) (Option.some.inj h)) dX5_readsItem_271
          · replace h := (if_neg c16).symm.trans h
            refine lv_aload_n hx hb dX5_readsItem_188 rfl (lv_at hl 0 rfl) ?_
            refine lv_bipush (v := (30 : Int32)) hx hb dX5_readsItem_189 (by decide) ?_
            refine lv_aload_n hx hb dX5_readsItem_191 rfl (lv_at hl 0 rfl) ?_
            refine m_get hx hb hts hown hKv hM (fun _ h => List.mem_cons_of_mem _ (List.mem_append_right _ (h))) (by decide) at_X5 rfl 17 (by decide) k6 (v := .int (M.1 0 17)) rfl dX5_readsItem_192 ?_
            refine lv_aload_n hx hb dX5_readsItem_195 rfl (lv_at hl 0 rfl) ?_
            refine m_get hx hb hts hown hKv hM (fun _ h => List.mem_cons_of_mem _ (List.mem_append_right _ (h))) (by decide) at_X5 rfl 11 (by decide) k1 (v := .ref (ad 4)) rfl dX5_readsItem_196 ?_
            refine lv_bipush (v := (9 : Int32)) hx hb dX5_readsItem_199 (by decide) ?_
            refine lv_aload_n hx hb dX5_readsItem_201 rfl (lv_at hl 0 rfl) ?_
            refine m_get hx hb hts hown hKv hM (fun _ h => List.mem_cons_of_mem _ (List.mem_append_right _ (h))) (by decide) at_X5 rfl 18 (by decide) k2 (v := .int (M.1 0 18)) rfl dX5_readsItem_202 ?_
            refine lv_iadd hx hb dX5_readsItem_205 ?_
            obtain ⟨x22, hx22, h⟩ := Option.bind_eq_some_iff.mp h
            refine m_iald hx hb hKv hM (by decide) at_X5_4 0 rfl hx22 dX5_readsItem_206 ?_
            refine lv_aload_n hx hb dX5_readsItem_207 rfl (lv_at hl 0 rfl) ?_
            refine m_get hx hb hts hown hKv hM (fun _ h => List.mem_cons_of_mem _ (List.mem_append_right _ (h))) (by decide) at_X5 rfl 7 (by decide) k4 (v := .int (M.1 0 7)) rfl dX5_readsItem_208 ?_
            obtain ⟨x23, hx23, h⟩ := Option.bind_eq_some_iff.mp h
            refine m_callV (As := [.int (30 : Int32), .int (M.1 0 17), .int x22, .int (M.1 0 7)]) (st1 := [.int x23]) hx hb (hml.trans hl.1.symm) hown hts hKv hXs hXk hM (kX5_roadOf l D cI cZ ad hX0 (30 : Int32) (M.1 0 17) x22 (M.1 0 7) M _ hx23) (cwV 4 hts gX5_readsItem_X5_roadOf rfl rfl rfl (by decide +kernel) ⟨Nat.le_of_ble_eq_true rfl, Nat.le_of_ble_eq_true rfl⟩) (by decide) at_X5 rfl rfl rfl rfl (Nat.le_of_ble_eq_true rfl) dX5_readsItem_211 ⟨Nat.zero_le _, Nat.zero_le _⟩ (fun H locs hM => ?_)
            refine lv_bipush (v := (-9 : Int32)) hx hb dX5_readsItem_214 (by decide) ?_
            refine lv_icmp_eq (tgt := 223) hx hb dX5_readsItem_216 (by decide) (fun c24 => ?_) (fun c24 => ?_)
            · replace h := (if_pos c24).symm.trans h
              refine lv_iconst (v := (0 : Int32)) hx hb dX5_readsItem_223 (by decide) ?_
              refine lv_istore_n (lv' := [(2, .int (0 : Int32)), (0, .ref (ad 0)), (1, .int a1)]) hx hb dX5_readsItem_224 rfl hl (by decide) rfl (fun ls hl => ?_)
              refine lv_aload_n hx hb dX5_readsItem_225 rfl (lv_at hl 1 rfl) ?_
              refine m_get hx hb hts hown hKv hM (fun _ h => List.mem_cons_of_mem _ (List.mem_append_right _ (h))) (by decide) at_X5 rfl 11 (by decide) k1 (v := .ref (ad 4)) rfl dX5_readsItem_226 ?_
              refine lv_bipush (v := (10 : Int32)) hx hb dX5_readsItem_229 (by decide) ?_
              refine lv_aload_n hx hb dX5_readsItem_231 rfl (lv_at hl 1 rfl) ?_
              refine m_get hx hb hts hown hKv hM (fun _ h => List.mem_cons_of_mem _ (List.mem_append_right _ (h))) (by decide) at_X5 rfl 18 (by decide) k2 (v := .int (M.1 0 18)) rfl dX5_readsItem_232 ?_
              refine lv_iadd hx hb dX5_readsItem_235 ?_
              refine lv_aload_n hx hb dX5_readsItem_236 rfl (lv_at hl 1 rfl) ?_
              refine lv_iload_n hx hb dX5_readsItem_237 rfl (lv_at hl 0 rfl) ?_
              obtain ⟨x25, hx25, h⟩ := Option.bind_eq_some_iff.mp h
              refine m_callV (As := [.int (0 : Int32)]) (st1 := [.int x25.1, .int ((10 : Int32) + (M.1 0 18)), .ref (ad 4)]) hx hb (hml.trans hl.1.symm) hown hts hKv hXs hXk hM (kX5_takes l D cI cZ ad hX0 (0 : Int32) M _ hx25) (cwV 1 hts gX5_readsItem_X5_takes rfl rfl rfl (by decide +kernel) ⟨Nat.le_of_ble_eq_true rfl, Nat.le_of_ble_eq_true rfl⟩) (by decide) at_X5 rfl rfl rfl rfl (Nat.le_of_ble_eq_true rfl) dX5_readsItem_238 ⟨Nat.zero_le _, Nat.zero_le _⟩ (fun H locs hM => ?_)
              obtain ⟨M26, hM26, h⟩ := Option.bind_eq_some_iff.mp h
              refine m_iast hx hb hKv hM (by decide) at_X5_4 0 rfl (sta_some hM26).1 (pa_X5_4 (sta_some hM26).2) dX5_readsItem_241 (fun H locs hM => ?_)
              refine lv_aload_n hx hb dX5_readsItem_242 rfl (lv_at hl 1 rfl) ?_
              refine m_get hx hb hts hown hKv hM (fun _ h => List.mem_cons_of_mem _ (List.mem_append_right _ (h))) (by decide) at_X5 rfl 12 (by decide) k3 (v := .ref (ad 5)) rfl dX5_readsItem_243 ?_
              refine lv_bipush (v := (10 : Int32)) hx hb dX5_readsItem_246 (by decide) ?_
              refine lv_aload_n hx hb dX5_readsItem_248 rfl (lv_at hl 1 rfl) ?_
              refine m_get hx hb hts hown hKv hM (fun _ h => List.mem_cons_of_mem _ (List.mem_append_right _ (h))) (by decide) at_X5 rfl 18 (by decide) k2 (v := .int (M26.1 0 18)) rfl dX5_readsItem_249 ?_
              refine lv_iadd hx hb dX5_readsItem_252 ?_
              refine lv_aload_n hx hb dX5_readsItem_253 rfl (lv_at hl 1 rfl) ?_
              refine lv_iconst (v := (0 : Int32)) hx hb dX5_readsItem_254 (by decide) ?_
              refine lv_bipush (v := (9 : Int32)) hx hb dX5_readsItem_255 (by decide) ?_
              obtain ⟨x27, hx27, h⟩ := Option.bind_eq_some_iff.mp h
              refine m_callV (As := [.int (0 : Int32), .int (9 : Int32)]) (st1 := [.int x27.1, .int ((10 : Int32) + (M26.1 0 18)), .ref (ad 5)]) hx hb (hml.trans hl.1.symm) hown hts hKv hXs hXk hM (kX5_number l D cI cZ ad hX0 (0 : Int32) (9 : Int32) M26 _ hx27) (cwV 2 hts gX5_readsItem_X5_number rfl rfl rfl (by decide +kernel) ⟨Nat.le_of_ble_eq_true rfl, Nat.le_of_ble_eq_true rfl⟩) (by decide) at_X5 rfl rfl rfl rfl (Nat.le_of_ble_eq_true rfl) dX5_readsItem_257 ⟨Nat.zero_le _, Nat.zero_le _⟩ (fun H locs hM => ?_)
              obtain ⟨M28, hM28, h⟩ := Option.bind_eq_some_iff.mp h
              refine m_iast hx hb hKv hM (by decide) at_X5_5 0 rfl (sta_some hM28).1 (pa_X5_5 (sta_some hM28).2) dX5_readsItem_260 (fun H locs hM => ?_)
              refine lv_aload_n hx hb dX5_readsItem_261 rfl (lv_at hl 1 rfl) ?_
              refine lv_dup hx hb dX5_readsItem_262 rfl ?_
              refine m_get hx hb hts hown hKv hM (fun _ h => List.mem_cons_of_mem _ (List.mem_append_right _ (h))) (by decide) at_X5 rfl 18 (by decide) k2 (v := .int (M28.1 0 18)) rfl dX5_readsItem_263 ?_
              refine lv_iconst (v := (1 : Int32)) hx hb dX5_readsItem_266 (by decide) ?_
              refine lv_iadd hx hb dX5_readsItem_267 ?_
              obtain ⟨M29, hM29, h⟩ := Option.bind_eq_some_iff.mp h
              refine m_put hx hb hts hown hKv hM (fun _ h => List.mem_cons_of_mem _ (List.mem_append_right _ (h))) tyX5 tyX5_ok nmX5 (by decide) at_X5 rfl 18 (by decide) k2 rfl rfl rfl (Nat.le_of_ble_eq_true rfl) (pt_X5_18 (Option.some.inj hM29)) dX5_readsItem_268 (fun H locs hM => ?_)
              exact m_vret hx hb hr hlocks hM (congrArg (a₁ := M29) (fun z => Em ad cI cZ z) (Option.some.inj h)) dX5_readsItem_271
            · replace h := (if_neg c24).symm.trans h
              refine lv_iconst (v := (1 : Int32)) hx hb dX5_readsItem_219 (by decide) ?_
              refine lv_goto (tgt := 224) hx hb dX5_readsItem_220 (by decide) ?_
              refine lv_istore_n (lv' := [(2, .int (1 : Int32)), (0, .ref (ad 0)), (1, .int a1)]) hx hb dX5_readsItem_224 rfl hl (by decide) rfl (fun ls hl => ?_)
              refine lv_aload_n hx hb dX5_readsItem_225 rfl (lv_at hl 1 rfl) ?_
              refine m_get hx hb hts hown hKv hM (fun _ h => List.mem_cons_of_mem _ (List.mem_append_right _ (h))) (by decide) at_X5 rfl 11 (by decide) k1 (v := .ref (ad 4)) rfl dX5_readsItem_226 ?_
              refine lv_bipush (v := (10 : Int32)) hx hb dX5_readsItem_229 (by decide) ?_
              refine lv_aload_n hx hb dX5_readsItem_231 rfl (lv_at hl 1 rfl) ?_
              refine m_get hx hb hts hown hKv hM (fun _ h => List.mem_cons_of_mem _ (List.mem_append_right _ (h))) (by decide) at_X5 rfl 18 (by decide) k2 (v := .int (M.1 0 18)) rfl dX5_readsItem_232 ?_
              refine lv_iadd hx hb dX5_readsItem_235 ?_
              refine lv_aload_n hx hb dX5_readsItem_236 rfl (lv_at hl 1 rfl) ?_
              refine lv_iload_n hx hb dX5_readsItem_237 rfl (lv_at hl 0 rfl) ?_
              obtain ⟨x30, hx30, h⟩ := Option.bind_eq_some_iff.mp h
              refine m_callV (As := [.int (1 : Int32)]) (st1 := [.int x30.1, .int ((10 : Int32) + (M.1 0 18)), .ref (ad 4)]) hx hb (hml.trans hl.1.symm) hown hts hKv hXs hXk hM (kX5_takes l D cI cZ ad hX0 (1 : Int32) M _ hx30) (cwV 1 hts gX5_readsItem_X5_takes rfl rfl rfl (by decide +kernel) ⟨Nat.le_of_ble_eq_true rfl, Nat.le_of_ble_eq_true rfl⟩) (by decide) at_X5 rfl rfl rfl rfl (Nat.le_of_ble_eq_true rfl) dX5_readsItem_238 ⟨Nat.zero_le _, Nat.zero_le _⟩ (fun H locs hM => ?_)
              obtain ⟨M31, hM31, h⟩ := Option.bind_eq_some_iff.mp h
              refine m_iast hx hb hKv hM (by decide) at_X5_4 0 rfl (sta_some hM31).1 (pa_X5_4 (sta_some hM31).2) dX5_readsItem_241 (fun H locs hM => ?_)
              refine lv_aload_n hx hb dX5_readsItem_242 rfl (lv_at hl 1 rfl) ?_
              refine m_get hx hb hts hown hKv hM (fun _ h => List.mem_cons_of_mem _ (List.mem_append_right _ (h))) (by decide) at_X5 rfl 12 (by decide) k3 (v := .ref (ad 5)) rfl dX5_readsItem_243 ?_
              refine lv_bipush (v := (10 : Int32)) hx hb dX5_readsItem_246 (by decide) ?_
              refine lv_aload_n hx hb dX5_readsItem_248 rfl (lv_at hl 1 rfl) ?_
              refine m_get hx hb hts hown hKv hM (fun _ h => List.mem_cons_of_mem _ (List.mem_append_right _ (h))) (by decide) at_X5 rfl 18 (by decide) k2 (v := .int (M31.1 0 18)) rfl dX5_readsItem_249 ?_
              refine lv_iadd hx hb dX5_readsItem_252 ?_
              refine lv_aload_n hx hb dX5_readsItem_253 rfl (lv_at hl 1 rfl) ?_
              refine lv_iconst (v := (0 : Int32)) hx hb dX5_readsItem_254 (by decide) ?_
              refine lv_bipush (v := (9 : Int32)) hx hb dX5_readsItem_255 (by decide) ?_
              obtain ⟨x32, hx32, h⟩ := Option.bind_eq_some_iff.mp h
              refine m_callV (As := [.int (0 : Int32), .int (9 : Int32)]) (st1 := [.int x32.1, .int ((10 : Int32) + (M31.1 0 18)), .ref (ad 5)]) hx hb (hml.trans hl.1.symm) hown hts hKv hXs hXk hM (kX5_number l D cI cZ ad hX0 (0 : Int32) (9 : Int32) M31 _ hx32) (cwV 2 hts gX5_readsItem_X5_number rfl rfl rfl (by decide +kernel) ⟨Nat.le_of_ble_eq_true rfl, Nat.le_of_ble_eq_true rfl⟩) (by decide) at_X5 rfl rfl rfl rfl (Nat.le_of_ble_eq_true rfl) dX5_readsItem_257 ⟨Nat.zero_le _, Nat.zero_le _⟩ (fun H locs hM => ?_)
              obtain ⟨M33, hM33, h⟩ := Option.bind_eq_some_iff.mp h
              refine m_iast hx hb hKv hM (by decide) at_X5_5 0 rfl (sta_some hM33).1 (pa_X5_5 (sta_some hM33).2) dX5_readsItem_260 (fun H locs hM => ?_)
              refine lv_aload_n hx hb dX5_readsItem_261 rfl (lv_at hl 1 rfl) ?_
              refine lv_dup hx hb dX5_readsItem_262 rfl ?_
              refine m_get hx hb hts hown hKv hM (fun _ h => List.mem_cons_of_mem _ (List.mem_append_right _ (h))) (by decide) at_X5 rfl 18 (by decide) k2 (v := .int (M33.1 0 18)) rfl dX5_readsItem_263 ?_
              refine lv_iconst (v := (1 : Int32)) hx hb dX5_readsItem_266 (by decide) ?_
              refine lv_iadd hx hb dX5_readsItem_267 ?_
              obtain ⟨M34, hM34, h⟩ := Option.bind_eq_some_iff.mp h
              refine m_put hx hb hts hown hKv hM (fun _ h => List.mem_cons_of_mem _ (List.mem_append_right _ (h))) tyX5 tyX5_ok nmX5 (by decide) at_X5 rfl 18 (by decide) k2 rfl rfl rfl (Nat.le_of_ble_eq_true rfl) (pt_X5_18 (Option.some.inj hM34)) dX5_readsItem_268 (fun H locs hM => ?_)
              exact m_vret hx hb hr hlocks hM (congrArg (a₁ := M34) (fun z => Em ad cI cZ z) (Option.some.inj h)) dX5_readsItem_271
    · replace h := (if_pos c2).symm.trans h
      refine lv_bipush (v := (30 : Int32)) hx hb dX5_readsItem_41 (by decide) ?_
      refine lv_iconst (v := (3 : Int32)) hx hb dX5_readsItem_43 (by decide) ?_
      refine lv_aload_n hx hb dX5_readsItem_44 rfl (lv_at hl 0 rfl) ?_
      refine m_get hx hb hts hown hKv hM (fun _ h => List.mem_cons_of_mem _ (List.mem_append_right _ (h))) (by decide) at_X5 rfl 17 (by decide) k6 (v := .int (M.1 0 17)) rfl dX5_readsItem_45 ?_
      refine lv_imul hx hb dX5_readsItem_48 ?_
      refine lv_iadd hx hb dX5_readsItem_49 ?_
      refine lv_istore_n (lv' := [(2, .int ((30 : Int32) + ((3 : Int32) * (M.1 0 17)))), (0, .ref (ad 0)), (1, .int a1)]) hx hb dX5_readsItem_50 rfl hl (by decide) rfl (fun ls hl => ?_)
      refine lv_aload_n hx hb dX5_readsItem_51 rfl (lv_at hl 1 rfl) ?_
      refine lv_iconst (v := (0 : Int32)) hx hb dX5_readsItem_52 (by decide) ?_
      refine lv_aload_n hx hb dX5_readsItem_53 rfl (lv_at hl 1 rfl) ?_
      refine m_get hx hb hts hown hKv hM (fun _ h => List.mem_cons_of_mem _ (List.mem_append_right _ (h))) (by decide) at_X5 rfl 16 (by decide) k5 (v := .int (M.1 0 16)) rfl dX5_readsItem_54 ?_
      refine lv_iconst (v := (1 : Int32)) hx hb dX5_readsItem_57 (by decide) ?_
      refine lv_isub hx hb dX5_readsItem_58 ?_
      obtain ⟨x35, hx35, h⟩ := Option.bind_eq_some_iff.mp h
      refine m_callV (As := [.int (0 : Int32), .int ((M.1 0 16) - (1 : Int32))]) (st1 := [.int x35.1]) hx hb (hml.trans hl.1.symm) hown hts hKv hXs hXk hM (kX5_number l D cI cZ ad hX0 (0 : Int32) ((M.1 0 16) - (1 : Int32)) M _ hx35) (cwV 2 hts gX5_readsItem_X5_number rfl rfl rfl (by decide +kernel) ⟨Nat.le_of_ble_eq_true rfl, Nat.le_of_ble_eq_true rfl⟩) (by decide) at_X5 rfl rfl rfl rfl (Nat.le_of_ble_eq_true rfl) dX5_readsItem_59 ⟨Nat.zero_le _, Nat.zero_le _⟩ (fun H locs hM => ?_)
      refine lv_istore_n (lv' := [(3, .int x35.1), (2, .int ((30 : Int32) + ((3 : Int32) * (M.1 0 17)))), (0, .ref (ad 0)), (1, .int a1)]) hx hb dX5_readsItem_62 rfl hl (by decide) rfl (fun ls hl => ?_)
      refine lv_aload_n hx hb dX5_readsItem_63 rfl (lv_at hl 2 rfl) ?_
      refine lv_aload_n hx hb dX5_readsItem_64 rfl (lv_at hl 2 rfl) ?_
      refine m_get hx hb hts hown hKv hM (fun _ h => List.mem_cons_of_mem _ (List.mem_append_right _ (h))) (by decide) at_X5 rfl 5 (by decide) k0 (v := .int (x35.2.1 0 5)) rfl dX5_readsItem_65 ?_
      refine lv_iconst (v := (2 : Int32)) hx hb dX5_readsItem_68 (by decide) ?_
      refine lv_icmp_ne (tgt := 101) hx hb dX5_readsItem_69 (by decide) (fun c36 => ?_) (fun c36 => ?_)
      · replace h := (if_neg c36).symm.trans h
        refine lv_iconst (v := (0 : Int32)) hx hb dX5_readsItem_101 (by decide) ?_
        obtain ⟨x37, hx37, h⟩ := Option.bind_eq_some_iff.mp h
        refine m_callV (As := [.int (0 : Int32)]) (st1 := [.int x37.1]) hx hb (hml.trans hl.1.symm) hown hts hKv hXs hXk hM (kX5_takes l D cI cZ ad hX0 (0 : Int32) x35.2 _ hx37) (cwV 1 hts gX5_readsItem_X5_takes rfl rfl rfl (by decide +kernel) ⟨Nat.le_of_ble_eq_true rfl, Nat.le_of_ble_eq_true rfl⟩) (by decide) at_X5 rfl rfl rfl rfl (Nat.le_of_ble_eq_true rfl) dX5_readsItem_102 ⟨Nat.zero_le _, Nat.zero_le _⟩ (fun H locs hM => ?_)
        refine lv_istore (lv' := [(4, .int x37.1), (3, .int x35.1), (2, .int ((30 : Int32) + ((3 : Int32) * (M.1 0 17)))), (0, .ref (ad 0)), (1, .int a1)]) hx hb dX5_readsItem_105 hl (by decide) rfl (fun ls hl => ?_)
        refine lv_aload_n hx hb dX5_readsItem_107 rfl (lv_at hl 3 rfl) ?_
        refine lv_iconst (v := (1 : Int32)) hx hb dX5_readsItem_108 (by decide) ?_
        refine lv_bipush (v := (30 : Int32)) hx hb dX5_readsItem_109 (by decide) ?_
        obtain ⟨x38, hx38, h⟩ := Option.bind_eq_some_iff.mp h
        refine m_callV (As := [.int (1 : Int32), .int (30 : Int32)]) (st1 := [.int x38.1]) hx hb (hml.trans hl.1.symm) hown hts hKv hXs hXk hM (kX5_number l D cI cZ ad hX0 (1 : Int32) (30 : Int32) x37.2 _ hx38) (cwV 2 hts gX5_readsItem_X5_number rfl rfl rfl (by decide +kernel) ⟨Nat.le_of_ble_eq_true rfl, Nat.le_of_ble_eq_true rfl⟩) (by decide) at_X5 rfl rfl rfl rfl (Nat.le_of_ble_eq_true rfl) dX5_readsItem_111 ⟨Nat.zero_le _, Nat.zero_le _⟩ (fun H locs hM => ?_)
        refine lv_istore (lv' := [(5, .int x38.1), (4, .int x37.1), (3, .int x35.1), (2, .int ((30 : Int32) + ((3 : Int32) * (M.1 0 17)))), (0, .ref (ad 0)), (1, .int a1)]) hx hb dX5_readsItem_114 hl (by decide) rfl (fun ls hl => ?_)
        refine lv_aload_n hx hb dX5_readsItem_116 rfl (lv_at hl 4 rfl) ?_
        refine m_get hx hb hts hown hKv hM (fun _ h => List.mem_cons_of_mem _ (List.mem_append_right _ (h))) (by decide) at_X5 rfl 10 (by decide) k7 (v := .ref (ad 3)) rfl dX5_readsItem_117 ?_
        refine lv_iload_n hx hb dX5_readsItem_120 rfl (lv_at hl 3 rfl) ?_
        refine lv_iload_n hx hb dX5_readsItem_121 rfl (lv_at hl 2 rfl) ?_
        obtain ⟨M39, hM39, h⟩ := Option.bind_eq_some_iff.mp h
        refine m_iast hx hb hKv hM (by decide) at_X5_3 0 rfl (sta_some hM39).1 (pa_X5_3 (sta_some hM39).2) dX5_readsItem_122 (fun H locs hM => ?_)
        refine lv_aload_n hx hb dX5_readsItem_123 rfl (lv_at hl 4 rfl) ?_
        refine m_get hx hb hts hown hKv hM (fun _ h => List.mem_cons_of_mem _ (List.mem_append_right _ (h))) (by decide) at_X5 rfl 10 (by decide) k7 (v := .ref (ad 3)) rfl dX5_readsItem_124 ?_
        refine lv_iload_n hx hb dX5_readsItem_127 rfl (lv_at hl 3 rfl) ?_
        refine lv_iconst (v := (1 : Int32)) hx hb dX5_readsItem_128 (by decide) ?_
        refine lv_iadd hx hb dX5_readsItem_129 ?_
        refine lv_iload hx hb dX5_readsItem_130 (lv_at hl 1 rfl) ?_
        obtain ⟨M40, hM40, h⟩ := Option.bind_eq_some_iff.mp h
        refine m_iast hx hb hKv hM (by decide) at_X5_3 0 rfl (sta_some hM40).1 (pa_X5_3 (sta_some hM40).2) dX5_readsItem_132 (fun H locs hM => ?_)
        refine lv_aload_n hx hb dX5_readsItem_133 rfl (lv_at hl 4 rfl) ?_
        refine m_get hx hb hts hown hKv hM (fun _ h => List.mem_cons_of_mem _ (List.mem_append_right _ (h))) (by decide) at_X5 rfl 10 (by decide) k7 (v := .ref (ad 3)) rfl dX5_readsItem_134 ?_
        refine lv_iload_n hx hb dX5_readsItem_137 rfl (lv_at hl 3 rfl) ?_
        refine lv_iconst (v := (2 : Int32)) hx hb dX5_readsItem_138 (by decide) ?_
        refine lv_iadd hx hb dX5_readsItem_139 ?_
        refine lv_iload hx hb dX5_readsItem_140 (lv_at hl 0 rfl) ?_
        obtain ⟨M41, hM41, h⟩ := Option.bind_eq_some_iff.mp h
        refine m_iast hx hb hKv hM (by decide) at_X5_3 0 rfl (sta_some hM41).1 (pa_X5_3 (sta_some hM41).2) dX5_readsItem_142 (fun H locs hM => ?_)
        refine lv_aload_n hx hb dX5_readsItem_143 rfl (lv_at hl 4 rfl) ?_
        refine lv_dup hx hb dX5_readsItem_144 rfl ?_
        refine m_get hx hb hts hown hKv hM (fun _ h => List.mem_cons_of_mem _ (List.mem_append_right _ (h))) (by decide) at_X5 rfl 17 (by decide) k6 (v := .int (M41.1 0 17)) rfl dX5_readsItem_145 ?_
        refine lv_iconst (v := (1 : Int32)) hx hb dX5_readsItem_148 (by decide) ?_
        refine lv_iadd hx hb dX5_readsItem_149 ?_
        obtain ⟨M42, hM42, h⟩ := Option.bind_eq_some_iff.mp h
        refine m_put hx hb hts hown hKv hM (fun _ h => List.mem_cons_of_mem _ (List.mem_append_right _ (h))) tyX5 tyX5_ok nmX5 (by decide) at_X5 rfl 17 (by decide) k6 rfl rfl rfl (Nat.le_of_ble_eq_true rfl) (pt_X5_17 (Option.some.inj hM42)) dX5_readsItem_150 (fun H locs hM => ?_)
        refine lv_goto (tgt := 271) hx hb dX5_readsItem_153 (by decide) ?_
        exact m_vret hx hb hr hlocks hM (congrArg (a₁ := M42) (fun z => Em ad cI cZ z) (Option.some.inj h)) dX5_readsItem_271
      · replace h := (if_pos c36).symm.trans h
        refine lv_aload_n hx hb dX5_readsItem_72 rfl (lv_at hl 2 rfl) ?_
        refine m_get hx hb hts hown hKv hM (fun _ h => List.mem_cons_of_mem _ (List.mem_append_right _ (h))) (by decide) at_X5 rfl 7 (by decide) k4 (v := .int (x35.2.1 0 7)) rfl dX5_readsItem_73 ?_
        refine lv_iconst (v := (0 : Int32)) hx hb dX5_readsItem_76 (by decide) ?_
        refine lv_aload_n hx hb dX5_readsItem_77 rfl (lv_at hl 2 rfl) ?_
        refine m_get hx hb hts hown hKv hM (fun _ h => List.mem_cons_of_mem _ (List.mem_append_right _ (h))) (by decide) at_X5 rfl 16 (by decide) k5 (v := .int (x35.2.1 0 16)) rfl dX5_readsItem_78 ?_
        refine lv_iconst (v := (1 : Int32)) hx hb dX5_readsItem_81 (by decide) ?_
        refine lv_isub hx hb dX5_readsItem_82 ?_
        obtain ⟨x43, hx43, h⟩ := Option.bind_eq_some_iff.mp h
        refine m_callS (As := [.int (x35.2.1 0 7), .int (0 : Int32), .int ((x35.2.1 0 16) - (1 : Int32))]) (st1 := [.int x43, .ref (ad 0)]) hx hb (hml.trans hl.1.symm) hown hts hKv hXs hXk hM (kX5_in l D cI cZ ad hX0 (x35.2.1 0 7) (0 : Int32) ((x35.2.1 0 16) - (1 : Int32)) x35.2 _ hx43) (va_cwS 3 hts gX5_readsItem_X5_in rfl rfl rfl (by decide +kernel) ⟨Nat.le_of_ble_eq_true rfl, Nat.le_of_ble_eq_true rfl⟩) rfl rfl rfl (Nat.le_of_ble_eq_true rfl) dX5_readsItem_83 ⟨Nat.zero_le _, Nat.zero_le _⟩ (fun H locs hM => ?_)
        refine lv_if_eq (tgt := 101) hx hb dX5_readsItem_86 (by decide) (fun c44 => ?_) (fun c44 => ?_)
        · replace h := (if_pos c44).symm.trans h
          refine lv_iconst (v := (0 : Int32)) hx hb dX5_readsItem_101 (by decide) ?_
          obtain ⟨x45, hx45, h⟩ := Option.bind_eq_some_iff.mp h
          refine m_callV (As := [.int (0 : Int32)]) (st1 := [.int x45.1]) hx hb (hml.trans hl.1.symm) hown hts hKv hXs hXk hM (kX5_takes l D cI cZ ad hX0 (0 : Int32) x35.2 _ hx45) (cwV 1 hts gX5_readsItem_X5_takes rfl rfl rfl (by decide +kernel) ⟨Nat.le_of_ble_eq_true rfl, Nat.le_of_ble_eq_true rfl⟩) (by decide) at_X5 rfl rfl rfl rfl (Nat.le_of_ble_eq_true rfl) dX5_readsItem_102 ⟨Nat.zero_le _, Nat.zero_le _⟩ (fun H locs hM => ?_)
          refine lv_istore (lv' := [(4, .int x45.1), (3, .int x35.1), (2, .int ((30 : Int32) + ((3 : Int32) * (M.1 0 17)))), (0, .ref (ad 0)), (1, .int a1)]) hx hb dX5_readsItem_105 hl (by decide) rfl (fun ls hl => ?_)
          refine lv_aload_n hx hb dX5_readsItem_107 rfl (lv_at hl 3 rfl) ?_
          refine lv_iconst (v := (1 : Int32)) hx hb dX5_readsItem_108 (by decide) ?_
          refine lv_bipush (v := (30 : Int32)) hx hb dX5_readsItem_109 (by decide) ?_
          obtain ⟨x46, hx46, h⟩ := Option.bind_eq_some_iff.mp h
          refine m_callV (As := [.int (1 : Int32), .int (30 : Int32)]) (st1 := [.int x46.1]) hx hb (hml.trans hl.1.symm) hown hts hKv hXs hXk hM (kX5_number l D cI cZ ad hX0 (1 : Int32) (30 : Int32) x45.2 _ hx46) (cwV 2 hts gX5_readsItem_X5_number rfl rfl rfl (by decide +kernel) ⟨Nat.le_of_ble_eq_true rfl, Nat.le_of_ble_eq_true rfl⟩) (by decide) at_X5 rfl rfl rfl rfl (Nat.le_of_ble_eq_true rfl) dX5_readsItem_111 ⟨Nat.zero_le _, Nat.zero_le _⟩ (fun H locs hM => ?_)
          refine lv_istore (lv' := [(5, .int x46.1), (4, .int x45.1), (3, .int x35.1), (2, .int ((30 : Int32) + ((3 : Int32) * (M.1 0 17)))), (0, .ref (ad 0)), (1, .int a1)]) hx hb dX5_readsItem_114 hl (by decide) rfl (fun ls hl => ?_)
          refine lv_aload_n hx hb dX5_readsItem_116 rfl (lv_at hl 4 rfl) ?_
          refine m_get hx hb hts hown hKv hM (fun _ h => List.mem_cons_of_mem _ (List.mem_append_right _ (h))) (by decide) at_X5 rfl 10 (by decide) k7 (v := .ref (ad 3)) rfl dX5_readsItem_117 ?_
          refine lv_iload_n hx hb dX5_readsItem_120 rfl (lv_at hl 3 rfl) ?_
          refine lv_iload_n hx hb dX5_readsItem_121 rfl (lv_at hl 2 rfl) ?_
          obtain ⟨M47, hM47, h⟩ := Option.bind_eq_some_iff.mp h
          refine m_iast hx hb hKv hM (by decide) at_X5_3 0 rfl (sta_some hM47).1 (pa_X5_3 (sta_some hM47).2) dX5_readsItem_122 (fun H locs hM => ?_)
          refine lv_aload_n hx hb dX5_readsItem_123 rfl (lv_at hl 4 rfl) ?_
          refine m_get hx hb hts hown hKv hM (fun _ h => List.mem_cons_of_mem _ (List.mem_append_right _ (h))) (by decide) at_X5 rfl 10 (by decide) k7 (v := .ref (ad 3)) rfl dX5_readsItem_124 ?_
          refine lv_iload_n hx hb dX5_readsItem_127 rfl (lv_at hl 3 rfl) ?_
          refine lv_iconst (v := (1 : Int32)) hx hb dX5_readsItem_128 (by decide) ?_
          refine lv_iadd hx hb dX5_readsItem_129 ?_
          refine lv_iload hx hb dX5_readsItem_130 (lv_at hl 1 rfl) ?_
          obtain ⟨M48, hM48, h⟩ := Option.bind_eq_some_iff.mp h
          refine m_iast hx hb hKv hM (by decide) at_X5_3 0 rfl (sta_some hM48).1 (pa_X5_3 (sta_some hM48).2) dX5_readsItem_132 (fun H locs hM => ?_)
          refine lv_aload_n hx hb dX5_readsItem_133 rfl (lv_at hl 4 rfl) ?_
          refine m_get hx hb hts hown hKv hM (fun _ h => List.mem_cons_of_mem _ (List.mem_append_right _ (h))) (by decide) at_X5 rfl 10 (by decide) k7 (v := .ref (ad 3)) rfl dX5_readsItem_134 ?_
          refine lv_iload_n hx hb dX5_readsItem_137 rfl (lv_at hl 3 rfl) ?_
          refine lv_iconst (v := (2 : Int32)) hx hb dX5_readsItem_138 (by decide) ?_
          refine lv_iadd hx hb dX5_readsItem_139 ?_
          refine lv_iload hx hb dX5_readsItem_140 (lv_at hl 0 rfl) ?_
          obtain ⟨M49, hM49, h⟩ := Option.bind_eq_some_iff.mp h
          refine m_iast hx hb hKv hM (by decide) at_X5_3 0 rfl (sta_some hM49).1 (pa_X5_3 (sta_some hM49).2) dX5_readsItem_142 (fun H locs hM => ?_)
          refine lv_aload_n hx hb dX5_readsItem_143 rfl (lv_at hl 4 rfl) ?_
          refine lv_dup hx hb dX5_readsItem_144 rfl ?_
          refine m_get hx hb hts hown hKv hM (fun _ h => List.mem_cons_of_mem _ (List.mem_append_right _ (h))) (by decide) at_X5 rfl 17 (by decide) k6 (v := .int (M49.1 0 17)) rfl dX5_readsItem_145 ?_
          refine lv_iconst (v := (1 : Int32)) hx hb dX5_readsItem_148 (by decide) ?_
          refine lv_iadd hx hb dX5_readsItem_149 ?_
          obtain ⟨M50, hM50, h⟩ := Option.bind_eq_some_iff.mp h
          refine m_put hx hb hts hown hKv hM (fun _ h => List.mem_cons_of_mem _ (List.mem_append_right _ (h))) tyX5 tyX5_ok nmX5 (by decide) at_X5 rfl 17 (by decide) k6 rfl rfl rfl (Nat.le_of_ble_eq_true rfl) (pt_X5_17 (Option.some.inj hM50)) dX5_readsItem_150 (fun H locs hM => ?_)
          refine lv_goto (tgt := 271) hx hb dX5_readsItem_153 (by decide) ?_
          exact m_vret hx hb hr hlocks hM (congrArg (a₁ := M50) (fun z => Em ad cI cZ z) (Option.some.inj h)) dX5_readsItem_271
        · replace h := (if_neg c44).symm.trans h
          refine lv_aload_n hx hb dX5_readsItem_89 rfl (lv_at hl 2 rfl) ?_
          refine m_get hx hb hts hown hKv hM (fun _ h => List.mem_cons_of_mem _ (List.mem_append_right _ (h))) (by decide) at_X5 rfl 7 (by decide) k4 (v := .int (x35.2.1 0 7)) rfl dX5_readsItem_90 ?_
          refine lv_iload_n hx hb dX5_readsItem_93 rfl (lv_at hl 0 rfl) ?_
          refine lv_icmp_eq (tgt := 101) hx hb dX5_readsItem_94 (by decide) (fun c51 => ?_) (fun c51 => ?_)
          · replace h := (if_pos c51).symm.trans h
            refine lv_iconst (v := (0 : Int32)) hx hb dX5_readsItem_101 (by decide) ?_
            obtain ⟨x52, hx52, h⟩ := Option.bind_eq_some_iff.mp h
            refine m_callV (As := [.int (0 : Int32)]) (st1 := [.int x52.1]) hx hb (hml.trans hl.1.symm) hown hts hKv hXs hXk hM (kX5_takes l D cI cZ ad hX0 (0 : Int32) x35.2 _ hx52) (cwV 1 hts gX5_readsItem_X5_takes rfl rfl rfl (by decide +kernel) ⟨Nat.le_of_ble_eq_true rfl, Nat.le_of_ble_eq_true rfl⟩) (by decide) at_X5 rfl rfl rfl rfl (Nat.le_of_ble_eq_true rfl) dX5_readsItem_102 ⟨Nat.zero_le _, Nat.zero_le _⟩ (fun H locs hM => ?_)
            refine lv_istore (lv' := [(4, .int x52.1), (3, .int x35.1), (2, .int ((30 : Int32) + ((3 : Int32) * (M.1 0 17)))), (0, .ref (ad 0)), (1, .int a1)]) hx hb dX5_readsItem_105 hl (by decide) rfl (fun ls hl => ?_)
            refine lv_aload_n hx hb dX5_readsItem_107 rfl (lv_at hl 3 rfl) ?_
            refine lv_iconst (v := (1 : Int32)) hx hb dX5_readsItem_108 (by decide) ?_
            refine lv_bipush (v := (30 : Int32)) hx hb dX5_readsItem_109 (by decide) ?_
            obtain ⟨x53, hx53, h⟩ := Option.bind_eq_some_iff.mp h
            refine m_callV (As := [.int (1 : Int32), .int (30 : Int32)]) (st1 := [.int x53.1]) hx hb (hml.trans hl.1.symm) hown hts hKv hXs hXk hM (kX5_number l D cI cZ ad hX0 (1 : Int32) (30 : Int32) x52.2 _ hx53) (cwV 2 hts gX5_readsItem_X5_number rfl rfl rfl (by decide +kernel) ⟨Nat.le_of_ble_eq_true rfl, Nat.le_of_ble_eq_true rfl⟩) (by decide) at_X5 rfl rfl rfl rfl (Nat.le_of_ble_eq_true rfl) dX5_readsItem_111 ⟨Nat.zero_le _, Nat.zero_le _⟩ (fun H locs hM => ?_)
            refine lv_istore (lv' := [(5, .int x53.1), (4, .int x52.1), (3, .int x35.1), (2, .int ((30 : Int32) + ((3 : Int32) * (M.1 0 17)))), (0, .ref (ad 0)), (1, .int a1)]) hx hb dX5_readsItem_114 hl (by decide) rfl (fun ls hl => ?_)
            refine lv_aload_n hx hb dX5_readsItem_116 rfl (lv_at hl 4 rfl) ?_
            refine m_get hx hb hts hown hKv hM (fun _ h => List.mem_cons_of_mem _ (List.mem_append_right _ (h))) (by decide) at_X5 rfl 10 (by decide) k7 (v := .ref (ad 3)) rfl dX5_readsItem_117 ?_
            refine lv_iload_n hx hb dX5_readsItem_120 rfl (lv_at hl 3 rfl) ?_
            refine lv_iload_n hx hb dX5_readsItem_121 rfl (lv_at hl 2 rfl) ?_
            obtain ⟨M54, hM54, h⟩ := Option.bind_eq_some_iff.mp h
            refine m_iast hx hb hKv hM (by decide) at_X5_3 0 rfl (sta_some hM54).1 (pa_X5_3 (sta_some hM54).2) dX5_readsItem_122 (fun H locs hM => ?_)
            refine lv_aload_n hx hb dX5_readsItem_123 rfl (lv_at hl 4 rfl) ?_
            refine m_get hx hb hts hown hKv hM (fun _ h => List.mem_cons_of_mem _ (List.mem_append_right _ (h))) (by decide) at_X5 rfl 10 (by decide) k7 (v := .ref (ad 3)) rfl dX5_readsItem_124 ?_
            refine lv_iload_n hx hb dX5_readsItem_127 rfl (lv_at hl 3 rfl) ?_
            refine lv_iconst (v := (1 : Int32)) hx hb dX5_readsItem_128 (by decide) ?_
            refine lv_iadd hx hb dX5_readsItem_129 ?_
            refine lv_iload hx hb dX5_readsItem_130 (lv_at hl 1 rfl) ?_
            obtain ⟨M55, hM55, h⟩ := Option.bind_eq_some_iff.mp h
            refine m_iast hx hb hKv hM (by decide) at_X5_3 0 rfl (sta_some hM55).1 (pa_X5_3 (sta_some hM55).2) dX5_readsItem_132 (fun H locs hM => ?_)
            refine lv_aload_n hx hb dX5_readsItem_133 rfl (lv_at hl 4 rfl) ?_
            refine m_get hx hb hts hown hKv hM (fun _ h => List.mem_cons_of_mem _ (List.mem_append_right _ (h))) (by decide) at_X5 rfl 10 (by decide) k7 (v := .ref (ad 3)) rfl dX5_readsItem_134 ?_
            refine lv_iload_n hx hb dX5_readsItem_137 rfl (lv_at hl 3 rfl) ?_
            refine lv_iconst (v := (2 : Int32)) hx hb dX5_readsItem_138 (by decide) ?_
            refine lv_iadd hx hb dX5_readsItem_139 ?_
            refine lv_iload hx hb dX5_readsItem_140 (lv_at hl 0 rfl) ?_
            obtain ⟨M56, hM56, h⟩ := Option.bind_eq_some_iff.mp h
            refine m_iast hx hb hKv hM (by decide) at_X5_3 0 rfl (sta_some hM56).1 (pa_X5_3 (sta_some hM56).2) dX5_readsItem_142 (fun H locs hM => ?_)
            refine lv_aload_n hx hb dX5_readsItem_143 rfl (lv_at hl 4 rfl) ?_
            refine lv_dup hx hb dX5_readsItem_144 rfl ?_
            refine m_get hx hb hts hown hKv hM (fun _ h => List.mem_cons_of_mem _ (List.mem_append_right _ (h))) (by decide) at_X5 rfl 17 (by decide) k6 (v := .int (M56.1 0 17)) rfl dX5_readsItem_145 ?_
            refine lv_iconst (v := (1 : Int32)) hx hb dX5_readsItem_148 (by decide) ?_
            refine lv_iadd hx hb dX5_readsItem_149 ?_
            obtain ⟨M57, hM57, h⟩ := Option.bind_eq_some_iff.mp h
            refine m_put hx hb hts hown hKv hM (fun _ h => List.mem_cons_of_mem _ (List.mem_append_right _ (h))) tyX5 tyX5_ok nmX5 (by decide) at_X5 rfl 17 (by decide) k6 rfl rfl rfl (Nat.le_of_ble_eq_true rfl) (pt_X5_17 (Option.some.inj hM57)) dX5_readsItem_150 (fun H locs hM => ?_)
            refine lv_goto (tgt := 271) hx hb dX5_readsItem_153 (by decide) ?_
            exact m_vret hx hb hr hlocks hM (congrArg (a₁ := M57) (fun z => Em ad cI cZ z) (Option.some.inj h)) dX5_readsItem_271
          · replace h := (if_neg c51).symm.trans h
            refine lv_iconst (v := (1 : Int32)) hx hb dX5_readsItem_97 (by decide) ?_
            refine lv_goto (tgt := 102) hx hb dX5_readsItem_98 (by decide) ?_
            obtain ⟨x58, hx58, h⟩ := Option.bind_eq_some_iff.mp h
            refine m_callV (As := [.int (1 : Int32)]) (st1 := [.int x58.1]) hx hb (hml.trans hl.1.symm) hown hts hKv hXs hXk hM (kX5_takes l D cI cZ ad hX0 (1 : Int32) x35.2 _ hx58) (cwV 1 hts gX5_readsItem_X5_takes rfl rfl rfl (by decide +kernel) ⟨Nat.le_of_ble_eq_true rfl, Nat.le_of_ble_eq_true rfl⟩) (by decide) at_X5 rfl rfl rfl rfl (Nat.le_of_ble_eq_true rfl) dX5_readsItem_102 ⟨Nat.zero_le _, Nat.zero_le _⟩ (fun H locs hM => ?_)
            refine lv_istore (lv' := [(4, .int x58.1), (3, .int x35.1), (2, .int ((30 : Int32) + ((3 : Int32) * (M.1 0 17)))), (0, .ref (ad 0)), (1, .int a1)]) hx hb dX5_readsItem_105 hl (by decide) rfl (fun ls hl => ?_)
            refine lv_aload_n hx hb dX5_readsItem_107 rfl (lv_at hl 3 rfl) ?_
            refine lv_iconst (v := (1 : Int32)) hx hb dX5_readsItem_108 (by decide) ?_
            refine lv_bipush (v := (30 : Int32)) hx hb dX5_readsItem_109 (by decide) ?_
            obtain ⟨x59, hx59, h⟩ := Option.bind_eq_some_iff.mp h
            refine m_callV (As := [.int (1 : Int32), .int (30 : Int32)]) (st1 := [.int x59.1]) hx hb (hml.trans hl.1.symm) hown hts hKv hXs hXk hM (kX5_number l D cI cZ ad hX0 (1 : Int32) (30 : Int32) x58.2 _ hx59) (cwV 2 hts gX5_readsItem_X5_number rfl rfl rfl (by decide +kernel) ⟨Nat.le_of_ble_eq_true rfl, Nat.le_of_ble_eq_true rfl⟩) (by decide) at_X5 rfl rfl rfl rfl (Nat.le_of_ble_eq_true rfl) dX5_readsItem_111 ⟨Nat.zero_le _, Nat.zero_le _⟩ (fun H locs hM => ?_)
            refine lv_istore (lv' := [(5, .int x59.1), (4, .int x58.1), (3, .int x35.1), (2, .int ((30 : Int32) + ((3 : Int32) * (M.1 0 17)))), (0, .ref (ad 0)), (1, .int a1)]) hx hb dX5_readsItem_114 hl (by decide) rfl (fun ls hl => ?_)
            refine lv_aload_n hx hb dX5_readsItem_116 rfl (lv_at hl 4 rfl) ?_
            refine m_get hx hb hts hown hKv hM (fun _ h => List.mem_cons_of_mem _ (List.mem_append_right _ (h))) (by decide) at_X5 rfl 10 (by decide) k7 (v := .ref (ad 3)) rfl dX5_readsItem_117 ?_
            refine lv_iload_n hx hb dX5_readsItem_120 rfl (lv_at hl 3 rfl) ?_
            refine lv_iload_n hx hb dX5_readsItem_121 rfl (lv_at hl 2 rfl) ?_
            obtain ⟨M60, hM60, h⟩ := Option.bind_eq_some_iff.mp h
            refine m_iast hx hb hKv hM (by decide) at_X5_3 0 rfl (sta_some hM60).1 (pa_X5_3 (sta_some hM60).2) dX5_readsItem_122 (fun H locs hM => ?_)
            refine lv_aload_n hx hb dX5_readsItem_123 rfl (lv_at hl 4 rfl) ?_
            refine m_get hx hb hts hown hKv hM (fun _ h => List.mem_cons_of_mem _ (List.mem_append_right _ (h))) (by decide) at_X5 rfl 10 (by decide) k7 (v := .ref (ad 3)) rfl dX5_readsItem_124 ?_
            refine lv_iload_n hx hb dX5_readsItem_127 rfl (lv_at hl 3 rfl) ?_
            refine lv_iconst (v := (1 : Int32)) hx hb dX5_readsItem_128 (by decide) ?_
            refine lv_iadd hx hb dX5_readsItem_129 ?_
            refine lv_iload hx hb dX5_readsItem_130 (lv_at hl 1 rfl) ?_
            obtain ⟨M61, hM61, h⟩ := Option.bind_eq_some_iff.mp h
            refine m_iast hx hb hKv hM (by decide) at_X5_3 0 rfl (sta_some hM61).1 (pa_X5_3 (sta_some hM61).2) dX5_readsItem_132 (fun H locs hM => ?_)
            refine lv_aload_n hx hb dX5_readsItem_133 rfl (lv_at hl 4 rfl) ?_
            refine m_get hx hb hts hown hKv hM (fun _ h => List.mem_cons_of_mem _ (List.mem_append_right _ (h))) (by decide) at_X5 rfl 10 (by decide) k7 (v := .ref (ad 3)) rfl dX5_readsItem_134 ?_
            refine lv_iload_n hx hb dX5_readsItem_137 rfl (lv_at hl 3 rfl) ?_
            refine lv_iconst (v := (2 : Int32)) hx hb dX5_readsItem_138 (by decide) ?_
            refine lv_iadd hx hb dX5_readsItem_139 ?_
            refine lv_iload hx hb dX5_readsItem_140 (lv_at hl 0 rfl) ?_
            obtain ⟨M62, hM62, h⟩ := Option.bind_eq_some_iff.mp h
            refine m_iast hx hb hKv hM (by decide) at_X5_3 0 rfl (sta_some hM62).1 (pa_X5_3 (sta_some hM62).2) dX5_readsItem_142 (fun H locs hM => ?_)
            refine lv_aload_n hx hb dX5_readsItem_143 rfl (lv_at hl 4 rfl) ?_
            refine lv_dup hx hb dX5_readsItem_144 rfl ?_
            refine m_get hx hb hts hown hKv hM (fun _ h => List.mem_cons_of_mem _ (List.mem_append_right _ (h))) (by decide) at_X5 rfl 17 (by decide) k6 (v := .int (M62.1 0 17)) rfl dX5_readsItem_145 ?_
            refine lv_iconst (v := (1 : Int32)) hx hb dX5_readsItem_148 (by decide) ?_
            refine lv_iadd hx hb dX5_readsItem_149 ?_
            obtain ⟨M63, hM63, h⟩ := Option.bind_eq_some_iff.mp h
            refine m_put hx hb hts hown hKv hM (fun _ h => List.mem_cons_of_mem _ (List.mem_append_right _ (h))) tyX5 tyX5_ok nmX5 (by decide) at_X5 rfl 17 (by decide) k6 rfl rfl rfl (Nat.le_of_ble_eq_true rfl) (pt_X5_17 (Option.some.inj hM63)) dX5_readsItem_150 (fun H locs hM => ?_)
            refine lv_goto (tgt := 271) hx hb dX5_readsItem_153 (by decide) ?_
            exact m_vret hx hb hr hlocks hM (congrArg (a₁ := M63) (fun z => Em ad cI cZ z) (Option.some.inj h)) dX5_readsItem_271
  · replace h := (if_pos c1).symm.trans h
    refine lv_aload_n hx hb dX5_readsItem_4 rfl (lv_at hl 0 rfl) ?_
    refine m_get hx hb hts hown hKv hM (fun _ h => List.mem_cons_of_mem _ (List.mem_append_right _ (h))) (by decide) at_X5 rfl 9 (by decide) k8 (v := .ref (ad 2)) rfl dX5_readsItem_5 ?_
    refine lv_bipush (v := (6 : Int32)) hx hb dX5_readsItem_8 (by decide) ?_
    refine lv_aload_n hx hb dX5_readsItem_10 rfl (lv_at hl 0 rfl) ?_
    refine m_get hx hb hts hown hKv hM (fun _ h => List.mem_cons_of_mem _ (List.mem_append_right _ (h))) (by decide) at_X5 rfl 16 (by decide) k5 (v := .int (M.1 0 16)) rfl dX5_readsItem_11 ?_
    refine lv_iadd hx hb dX5_readsItem_14 ?_
    refine lv_aload_n hx hb dX5_readsItem_15 rfl (lv_at hl 0 rfl) ?_
    refine lv_iconst (v := (0 : Int32)) hx hb dX5_readsItem_16 (by decide) ?_
    refine lv_bipush (v := (99 : Int32)) hx hb dX5_readsItem_17 (by decide) ?_
    obtain ⟨x64, hx64, h⟩ := Option.bind_eq_some_iff.mp h
    refine m_callV (As := [.int (0 : Int32), .int (99 : Int32)]) (st1 := [.int x64.1, .int ((6 : Int32) + (M.1 0 16)), .ref (ad 2)]) hx hb (hml.trans hl.1.symm) hown hts hKv hXs hXk hM (kX5_number l D cI cZ ad hX0 (0 : Int32) (99 : Int32) M _ hx64) (cwV 2 hts gX5_readsItem_X5_number rfl rfl rfl (by decide +kernel) ⟨Nat.le_of_ble_eq_true rfl, Nat.le_of_ble_eq_true rfl⟩) (by decide) at_X5 rfl rfl rfl rfl (Nat.le_of_ble_eq_true rfl) dX5_readsItem_19 ⟨Nat.zero_le _, Nat.zero_le _⟩ (fun H locs hM => ?_)
    obtain ⟨M65, hM65, h⟩ := Option.bind_eq_some_iff.mp h
    refine m_iast hx hb hKv hM (by decide) at_X5_2 0 rfl (sta_some hM65).1 (pa_X5_2 (sta_some hM65).2) dX5_readsItem_22 (fun H locs hM => ?_)
    refine lv_aload_n hx hb dX5_readsItem_23 rfl (lv_at hl 0 rfl) ?_
    refine lv_dup hx hb dX5_readsItem_24 rfl ?_
    refine m_get hx hb hts hown hKv hM (fun _ h => List.mem_cons_of_mem _ (List.mem_append_right _ (h))) (by decide) at_X5 rfl 16 (by decide) k5 (v := .int (M65.1 0 16)) rfl dX5_readsItem_25 ?_
    refine lv_iconst (v := (1 : Int32)) hx hb dX5_readsItem_28 (by decide) ?_
    refine lv_iadd hx hb dX5_readsItem_29 ?_
    obtain ⟨M66, hM66, h⟩ := Option.bind_eq_some_iff.mp h
    refine m_put hx hb hts hown hKv hM (fun _ h => List.mem_cons_of_mem _ (List.mem_append_right _ (h))) tyX5 tyX5_ok nmX5 (by decide) at_X5 rfl 16 (by decide) k5 rfl rfl rfl (Nat.le_of_ble_eq_true rfl) (pt_X5_16 (Option.some.inj hM66)) dX5_readsItem_30 (fun H locs hM => ?_)
    refine lv_goto (tgt := 271) hx hb dX5_readsItem_33 (by decide) ?_
    exact m_vret hx hb hr hlocks hM (congrArg (a₁ := M66) (fun z => Em ad cI cZ z) (Option.some.inj h)) dX5_readsItem_271
set_option maxHeartbeats 4000000 in
set_option maxRecDepth 100000 in
theorem wX5_reckons_2 {p : Program} {l : Launch} {e : Env} {s : State} {m : MethodId} {args : Array Value} {below : List Frame} {meth : Method} {c : Code} {D : va_G} {cI cZ : ClassId} {ad : Nat → Nat} {X : State → Prop} (Z : mZ p s m args meth c cX5_reckons 5 none wsX5_reckons RX5 D [(cI, .int), (cZ, .boolean)] X) (hX0 : mX ad 14 X)     {K : Mem → Option Mem} (res : Mem) (hKc : ∀  (M1 : Mem), K  M1 = some res → ∀ (H : Heap) (locs : List Loc) (ls : Array Slot), lv_has ls 5 [(0, .ref (ad 0))] → mH D ad 14 (Em ad cI cZ M1) s.heap H locs → W p l e { frames := 1, cells := 0, slots := 0, locals := 27 } s m args below meth c H locs 0 0 (MQ below (mQ D ad 14 none (Em ad cI cZ res)) args s 0 0 (mA ad 14)) (F0 m 37 ls [])) :
    ∀ (n : Nat) (v1 : Int32) (M : Mem), fX5_reckons_2 K n v1 M = some res → ∀ (H : Heap) (locs : List Loc) (ls : Array Slot), lv_has ls 5 [(0, .ref (ad 0)), (1, .int v1)] → mH D ad 14 (Em ad cI cZ M) s.heap H locs → W p l e { frames := 1, cells := 0, slots := 0, locals := 27 } s m args below meth c H locs 0 0 (MQ below (mQ D ad 14 none (Em ad cI cZ res)) args s 0 0 (mA ad 14)) (F0 m 2 ls []) := by
  obtain ⟨hx, hb, hml, hr, hlocks, hts, hown, hKv, hXs⟩ := id Z
  have hXk := hX0
  have k0 := hts (Cond.fieldLink RX5 25 "NoonWalkerModel" "miles" "[I") (List.mem_of_getElem? (i := 1) rfl)
  have k1 := hts (Cond.constant RX5 140 (-1000000)) (List.mem_of_getElem? (i := 2) rfl)
  intro n
  induction n with
  | zero => intro _ _ h; exact absurd h (by unfold fX5_reckons_2; exact fun h => by cases h)
  | succ n ih =>
    intro v1 M h H locs ls hl hM
    rw [fX5_reckons_2] at h
    refine lv_iload_n hx hb dX5_reckons_2 rfl (lv_at hl 1 rfl) ?_
    refine lv_bipush (v := (36 : Int32)) hx hb dX5_reckons_3 (by decide) ?_
    refine lv_icmp_ge (tgt := 37) hx hb dX5_reckons_5 (by decide) (fun c1 => ?_) (fun c1 => ?_)
    · replace h := (if_pos c1).symm.trans h
      exact hKc _ h _ _ _ (lv_sub hl [0] rfl) hM
    · replace h := (if_neg c1).symm.trans h
      refine lv_aload_n hx hb dX5_reckons_8 rfl (lv_at hl 0 rfl) ?_
      refine m_get hx hb hts hown hKv hM (fun _ h => List.mem_cons_of_mem _ (List.mem_append_right _ (h))) (by decide) at_X5 rfl 19 (by decide) k0 (v := .ref (ad 6)) rfl dX5_reckons_9 ?_
      refine lv_iload_n hx hb dX5_reckons_12 rfl (lv_at hl 1 rfl) ?_
      refine lv_iload_n hx hb dX5_reckons_13 rfl (lv_at hl 1 rfl) ?_
      refine lv_bipush (v := (6 : Int32)) hx hb dX5_reckons_14 (by decide) ?_
      obtain ⟨x2, hx2, h⟩ := Option.bind_eq_some_iff.mp h
      refine m_idiv hx hb hx2 dX5_reckons_16 ?_
      refine lv_iload_n hx hb dX5_reckons_17 rfl (lv_at hl 1 rfl) ?_
      refine lv_bipush (v := (6 : Int32)) hx hb dX5_reckons_18 (by decide) ?_
      obtain ⟨x3, hx3, h⟩ := Option.bind_eq_some_iff.mp h
      refine m_irem hx hb hx3 dX5_reckons_20 ?_
      refine lv_icmp_ne (tgt := 28) hx hb dX5_reckons_21 (by decide) (fun c4 => ?_) (fun c4 => ?_)
      · replace h := (if_neg c4).symm.trans h
        refine lv_ldc (v := (-1000000 : Int32)) hx hb hown k1 dX5_reckons_28 ?_
        obtain ⟨M5, hM5, h⟩ := Option.bind_eq_some_iff.mp h
        refine m_iast hx hb hKv hM (by decide) at_X5_6 0 rfl (sta_some hM5).1 (pa_X5_6 (sta_some hM5).2) dX5_reckons_30 (fun H locs hM => ?_)
        refine lv_iinc (v := (v1 + 1)) (lv' := [(1, .int (v1 + 1)), (0, .ref (ad 0))]) hx hb dX5_reckons_31 hl (k := 1) rfl rfl (by decide) rfl (fun ls hl => ?_)
        refine lv_goto (tgt := 2) hx hb dX5_reckons_34 (by decide) ?_
        exact ih _ _ h _ _ _ (lv_sub hl [1, 0] rfl) hM
      · replace h := (if_pos c4).symm.trans h
        refine lv_iconst (v := (0 : Int32)) hx hb dX5_reckons_24 (by decide) ?_
        refine lv_goto (tgt := 30) hx hb dX5_reckons_25 (by decide) ?_
        obtain ⟨M6, hM6, h⟩ := Option.bind_eq_some_iff.mp h
        refine m_iast hx hb hKv hM (by decide) at_X5_6 0 rfl (sta_some hM6).1 (pa_X5_6 (sta_some hM6).2) dX5_reckons_30 (fun H locs hM => ?_)
        refine lv_iinc (v := (v1 + 1)) (lv' := [(1, .int (v1 + 1)), (0, .ref (ad 0))]) hx hb dX5_reckons_31 hl (k := 1) rfl rfl (by decide) rfl (fun ls hl => ?_)
        refine lv_goto (tgt := 2) hx hb dX5_reckons_34 (by decide) ?_
        exact ih _ _ h _ _ _ (lv_sub hl [1, 0] rfl) hM
set_option maxHeartbeats 4000000 in
set_option maxRecDepth 100000 in
theorem wX5_reckons_39 {p : Program} {l : Launch} {e : Env} {s : State} {m : MethodId} {args : Array Value} {below : List Frame} {meth : Method} {c : Code} {D : va_G} {cI cZ : ClassId} {ad : Nat → Nat} {X : State → Prop} (Z : mZ p s m args meth c cX5_reckons 5 none wsX5_reckons RX5 D [(cI, .int), (cZ, .boolean)] X) (hX0 : mX ad 14 X)     {K : Mem → Option Mem} (res : Mem) (hKc : ∀  (M1 : Mem), K  M1 = some res → ∀ (H : Heap) (locs : List Loc) (ls : Array Slot), lv_has ls 5 [(0, .ref (ad 0))] → mH D ad 14 (Em ad cI cZ M1) s.heap H locs → W p l e { frames := 1, cells := 0, slots := 0, locals := 27 } s m args below meth c H locs 0 0 (MQ below (mQ D ad 14 none (Em ad cI cZ res)) args s 0 0 (mA ad 14)) (F0 m 160 ls [])) :
    ∀ (n : Nat) (v1 : Int32) (M : Mem), fX5_reckons_39 K n v1 M = some res → ∀ (H : Heap) (locs : List Loc) (ls : Array Slot), lv_has ls 5 [(0, .ref (ad 0)), (1, .int v1)] → mH D ad 14 (Em ad cI cZ M) s.heap H locs → W p l e { frames := 1, cells := 0, slots := 0, locals := 27 } s m args below meth c H locs 0 0 (MQ below (mQ D ad 14 none (Em ad cI cZ res)) args s 0 0 (mA ad 14)) (F0 m 39 ls []) := by
  obtain ⟨hx, hb, hml, hr, hlocks, hts, hown, hKv, hXs⟩ := id Z
  have hXk := hX0
  have k0 := hts (Cond.fieldLink RX5 134 "NoonWalkerModel" "roads" "I") (List.mem_of_getElem? (i := 3) rfl)
  have k1 := hts (Cond.fieldLink RX5 16 "NoonWalkerModel" "road" "[I") (List.mem_of_getElem? (i := 4) rfl)
  have k2 := hts (Cond.fieldLink RX5 25 "NoonWalkerModel" "miles" "[I") (List.mem_of_getElem? (i := 1) rfl)
  have k3 := hts (Cond.constant RX5 140 (-1000000)) (List.mem_of_getElem? (i := 2) rfl)
  intro n
  induction n with
  | zero => intro _ _ h; exact absurd h (by unfold fX5_reckons_39; exact fun h => by cases h)
  | succ n ih =>
    intro v1 M h H locs ls hl hM
    rw [fX5_reckons_39] at h
    refine lv_iload_n hx hb dX5_reckons_39 rfl (lv_at hl 1 rfl) ?_
    refine lv_aload_n hx hb dX5_reckons_40 rfl (lv_at hl 0 rfl) ?_
    refine m_get hx hb hts hown hKv hM (fun _ h => List.mem_cons_of_mem _ (List.mem_append_right _ (h))) (by decide) at_X5 rfl 14 (by decide) k0 (v := .int (M.1 0 14)) rfl dX5_reckons_41 ?_
    refine lv_icmp_ge (tgt := 160) hx hb dX5_reckons_44 (by decide) (fun c1 => ?_) (fun c1 => ?_)
    · replace h := (if_pos c1).symm.trans h
      exact hKc _ h _ _ _ (lv_sub hl [0] rfl) hM
    · replace h := (if_neg c1).symm.trans h
      refine lv_bipush (v := (6 : Int32)) hx hb dX5_reckons_47 (by decide) ?_
      refine lv_aload_n hx hb dX5_reckons_49 rfl (lv_at hl 0 rfl) ?_
      refine m_get hx hb hts hown hKv hM (fun _ h => List.mem_cons_of_mem _ (List.mem_append_right _ (h))) (by decide) at_X5 rfl 10 (by decide) k1 (v := .ref (ad 3)) rfl dX5_reckons_50 ?_
      refine lv_iconst (v := (3 : Int32)) hx hb dX5_reckons_53 (by decide) ?_
      refine lv_iload_n hx hb dX5_reckons_54 rfl (lv_at hl 1 rfl) ?_
      refine lv_imul hx hb dX5_reckons_55 ?_
      obtain ⟨x2, hx2, h⟩ := Option.bind_eq_some_iff.mp h
      refine m_iald hx hb hKv hM (by decide) at_X5_3 0 rfl hx2 dX5_reckons_56 ?_
      refine lv_imul hx hb dX5_reckons_57 ?_
      refine lv_aload_n hx hb dX5_reckons_58 rfl (lv_at hl 0 rfl) ?_
      refine m_get hx hb hts hown hKv hM (fun _ h => List.mem_cons_of_mem _ (List.mem_append_right _ (h))) (by decide) at_X5 rfl 10 (by decide) k1 (v := .ref (ad 3)) rfl dX5_reckons_59 ?_
      refine lv_iconst (v := (3 : Int32)) hx hb dX5_reckons_62 (by decide) ?_
      refine lv_iload_n hx hb dX5_reckons_63 rfl (lv_at hl 1 rfl) ?_
      refine lv_imul hx hb dX5_reckons_64 ?_
      refine lv_iconst (v := (1 : Int32)) hx hb dX5_reckons_65 (by decide) ?_
      refine lv_iadd hx hb dX5_reckons_66 ?_
      obtain ⟨x3, hx3, h⟩ := Option.bind_eq_some_iff.mp h
      refine m_iald hx hb hKv hM (by decide) at_X5_3 0 rfl hx3 dX5_reckons_67 ?_
      refine lv_iadd hx hb dX5_reckons_68 ?_
      refine lv_istore_n (lv' := [(2, .int (((6 : Int32) * x2) + x3)), (0, .ref (ad 0)), (1, .int v1)]) hx hb dX5_reckons_69 rfl hl (by decide) rfl (fun ls hl => ?_)
      refine lv_bipush (v := (6 : Int32)) hx hb dX5_reckons_70 (by decide) ?_
      refine lv_aload_n hx hb dX5_reckons_72 rfl (lv_at hl 1 rfl) ?_
      refine m_get hx hb hts hown hKv hM (fun _ h => List.mem_cons_of_mem _ (List.mem_append_right _ (h))) (by decide) at_X5 rfl 10 (by decide) k1 (v := .ref (ad 3)) rfl dX5_reckons_73 ?_
      refine lv_iconst (v := (3 : Int32)) hx hb dX5_reckons_76 (by decide) ?_
      refine lv_iload_n hx hb dX5_reckons_77 rfl (lv_at hl 2 rfl) ?_
      refine lv_imul hx hb dX5_reckons_78 ?_
      refine lv_iconst (v := (1 : Int32)) hx hb dX5_reckons_79 (by decide) ?_
      refine lv_iadd hx hb dX5_reckons_80 ?_
      obtain ⟨x4, hx4, h⟩ := Option.bind_eq_some_iff.mp h
      refine m_iald hx hb hKv hM (by decide) at_X5_3 0 rfl hx4 dX5_reckons_81 ?_
      refine lv_imul hx hb dX5_reckons_82 ?_
      refine lv_aload_n hx hb dX5_reckons_83 rfl (lv_at hl 1 rfl) ?_
      refine m_get hx hb hts hown hKv hM (fun _ h => List.mem_cons_of_mem _ (List.mem_append_right _ (h))) (by decide) at_X5 rfl 10 (by decide) k1 (v := .ref (ad 3)) rfl dX5_reckons_84 ?_
      refine lv_iconst (v := (3 : Int32)) hx hb dX5_reckons_87 (by decide) ?_
      refine lv_iload_n hx hb dX5_reckons_88 rfl (lv_at hl 2 rfl) ?_
      refine lv_imul hx hb dX5_reckons_89 ?_
      obtain ⟨x5, hx5, h⟩ := Option.bind_eq_some_iff.mp h
      refine m_iald hx hb hKv hM (by decide) at_X5_3 0 rfl hx5 dX5_reckons_90 ?_
      refine lv_iadd hx hb dX5_reckons_91 ?_
      refine lv_istore_n (lv' := [(3, .int (((6 : Int32) * x4) + x5)), (2, .int (((6 : Int32) * x2) + x3)), (0, .ref (ad 0)), (1, .int v1)]) hx hb dX5_reckons_92 rfl hl (by decide) rfl (fun ls hl => ?_)
      refine lv_aload_n hx hb dX5_reckons_93 rfl (lv_at hl 2 rfl) ?_
      refine m_get hx hb hts hown hKv hM (fun _ h => List.mem_cons_of_mem _ (List.mem_append_right _ (h))) (by decide) at_X5 rfl 19 (by decide) k2 (v := .ref (ad 6)) rfl dX5_reckons_94 ?_
      refine lv_iload_n hx hb dX5_reckons_97 rfl (lv_at hl 1 rfl) ?_
      refine lv_aload_n hx hb dX5_reckons_98 rfl (lv_at hl 2 rfl) ?_
      refine m_get hx hb hts hown hKv hM (fun _ h => List.mem_cons_of_mem _ (List.mem_append_right _ (h))) (by decide) at_X5 rfl 19 (by decide) k2 (v := .ref (ad 6)) rfl dX5_reckons_99 ?_
      refine lv_iload_n hx hb dX5_reckons_102 rfl (lv_at hl 1 rfl) ?_
      obtain ⟨x6, hx6, h⟩ := Option.bind_eq_some_iff.mp h
      refine m_iald hx hb hKv hM (by decide) at_X5_6 0 rfl hx6 dX5_reckons_103 ?_
      refine lv_ldc (v := (-1000000 : Int32)) hx hb hown k3 dX5_reckons_104 ?_
      refine lv_icmp_ne (tgt := 122) hx hb dX5_reckons_106 (by decide) (fun c7 => ?_) (fun c7 => ?_)
      · replace h := (if_neg c7).symm.trans h
        refine lv_aload_n hx hb dX5_reckons_122 rfl (lv_at hl 2 rfl) ?_
        refine m_get hx hb hts hown hKv hM (fun _ h => List.mem_cons_of_mem _ (List.mem_append_right _ (h))) (by decide) at_X5 rfl 19 (by decide) k2 (v := .ref (ad 6)) rfl dX5_reckons_123 ?_
        refine lv_iload_n hx hb dX5_reckons_126 rfl (lv_at hl 1 rfl) ?_
        obtain ⟨x8, hx8, h⟩ := Option.bind_eq_some_iff.mp h
        refine m_iald hx hb hKv hM (by decide) at_X5_6 0 rfl hx8 dX5_reckons_127 ?_
        refine lv_aload_n hx hb dX5_reckons_128 rfl (lv_at hl 2 rfl) ?_
        refine m_get hx hb hts hown hKv hM (fun _ h => List.mem_cons_of_mem _ (List.mem_append_right _ (h))) (by decide) at_X5 rfl 10 (by decide) k1 (v := .ref (ad 3)) rfl dX5_reckons_129 ?_
        refine lv_iconst (v := (3 : Int32)) hx hb dX5_reckons_132 (by decide) ?_
        refine lv_iload_n hx hb dX5_reckons_133 rfl (lv_at hl 3 rfl) ?_
        refine lv_imul hx hb dX5_reckons_134 ?_
        refine lv_iconst (v := (2 : Int32)) hx hb dX5_reckons_135 (by decide) ?_
        refine lv_iadd hx hb dX5_reckons_136 ?_
        obtain ⟨x9, hx9, h⟩ := Option.bind_eq_some_iff.mp h
        refine m_iald hx hb hKv hM (by decide) at_X5_3 0 rfl hx9 dX5_reckons_137 ?_
        obtain ⟨x10, hx10, h⟩ := Option.bind_eq_some_iff.mp h
        refine m_callS (As := [.int x8, .int x9]) (st1 := [.int x10, .int (((6 : Int32) * x2) + x3), .ref (ad 6)]) hx hb (hml.trans hl.1.symm) hown hts hKv hXs hXk hM (kX5_lesser l D cI cZ ad hX0 x8 x9 M _ hx10) (va_cwS 2 hts gX5_reckons_X5_lesser rfl rfl rfl (by decide +kernel) ⟨Nat.le_of_ble_eq_true rfl, Nat.le_of_ble_eq_true rfl⟩) rfl rfl rfl (Nat.le_of_ble_eq_true rfl) dX5_reckons_138 ⟨Nat.zero_le _, Nat.zero_le _⟩ (fun H locs hM => ?_)
        obtain ⟨M11, hM11, h⟩ := Option.bind_eq_some_iff.mp h
        refine m_iast hx hb hKv hM (by decide) at_X5_6 0 rfl (sta_some hM11).1 (pa_X5_6 (sta_some hM11).2) dX5_reckons_141 (fun H locs hM => ?_)
        refine lv_aload_n hx hb dX5_reckons_142 rfl (lv_at hl 2 rfl) ?_
        refine m_get hx hb hts hown hKv hM (fun _ h => List.mem_cons_of_mem _ (List.mem_append_right _ (h))) (by decide) at_X5 rfl 19 (by decide) k2 (v := .ref (ad 6)) rfl dX5_reckons_143 ?_
        refine lv_iload_n hx hb dX5_reckons_146 rfl (lv_at hl 0 rfl) ?_
        refine lv_aload_n hx hb dX5_reckons_147 rfl (lv_at hl 2 rfl) ?_
        refine m_get hx hb hts hown hKv hM (fun _ h => List.mem_cons_of_mem _ (List.mem_append_right _ (h))) (by decide) at_X5 rfl 19 (by decide) k2 (v := .ref (ad 6)) rfl dX5_reckons_148 ?_
        refine lv_iload_n hx hb dX5_reckons_151 rfl (lv_at hl 1 rfl) ?_
        obtain ⟨x12, hx12, h⟩ := Option.bind_eq_some_iff.mp h
        refine m_iald hx hb hKv hM (by decide) at_X5_6 0 rfl hx12 dX5_reckons_152 ?_
        obtain ⟨M13, hM13, h⟩ := Option.bind_eq_some_iff.mp h
        refine m_iast hx hb hKv hM (by decide) at_X5_6 0 rfl (sta_some hM13).1 (pa_X5_6 (sta_some hM13).2) dX5_reckons_153 (fun H locs hM => ?_)
        refine lv_iinc (v := (v1 + 1)) (lv' := [(1, .int (v1 + 1)), (3, .int (((6 : Int32) * x4) + x5)), (2, .int (((6 : Int32) * x2) + x3)), (0, .ref (ad 0))]) hx hb dX5_reckons_154 hl (k := 3) rfl rfl (by decide) rfl (fun ls hl => ?_)
        refine lv_goto (tgt := 39) hx hb dX5_reckons_157 (by decide) ?_
        exact ih _ _ h _ _ _ (lv_sub hl [3, 0] rfl) hM
      · replace h := (if_pos c7).symm.trans h
        refine lv_aload_n hx hb dX5_reckons_109 rfl (lv_at hl 2 rfl) ?_
        refine m_get hx hb hts hown hKv hM (fun _ h => List.mem_cons_of_mem _ (List.mem_append_right _ (h))) (by decide) at_X5 rfl 10 (by decide) k1 (v := .ref (ad 3)) rfl dX5_reckons_110 ?_
        refine lv_iconst (v := (3 : Int32)) hx hb dX5_reckons_113 (by decide) ?_
        refine lv_iload_n hx hb dX5_reckons_114 rfl (lv_at hl 3 rfl) ?_
        refine lv_imul hx hb dX5_reckons_115 ?_
        refine lv_iconst (v := (2 : Int32)) hx hb dX5_reckons_116 (by decide) ?_
        refine lv_iadd hx hb dX5_reckons_117 ?_
        obtain ⟨x14, hx14, h⟩ := Option.bind_eq_some_iff.mp h
        refine m_iald hx hb hKv hM (by decide) at_X5_3 0 rfl hx14 dX5_reckons_118 ?_
        refine lv_goto (tgt := 141) hx hb dX5_reckons_119 (by decide) ?_
        obtain ⟨M15, hM15, h⟩ := Option.bind_eq_some_iff.mp h
        refine m_iast hx hb hKv hM (by decide) at_X5_6 0 rfl (sta_some hM15).1 (pa_X5_6 (sta_some hM15).2) dX5_reckons_141 (fun H locs hM => ?_)
        refine lv_aload_n hx hb dX5_reckons_142 rfl (lv_at hl 2 rfl) ?_
        refine m_get hx hb hts hown hKv hM (fun _ h => List.mem_cons_of_mem _ (List.mem_append_right _ (h))) (by decide) at_X5 rfl 19 (by decide) k2 (v := .ref (ad 6)) rfl dX5_reckons_143 ?_
        refine lv_iload_n hx hb dX5_reckons_146 rfl (lv_at hl 0 rfl) ?_
        refine lv_aload_n hx hb dX5_reckons_147 rfl (lv_at hl 2 rfl) ?_
        refine m_get hx hb hts hown hKv hM (fun _ h => List.mem_cons_of_mem _ (List.mem_append_right _ (h))) (by decide) at_X5 rfl 19 (by decide) k2 (v := .ref (ad 6)) rfl dX5_reckons_148 ?_
        refine lv_iload_n hx hb dX5_reckons_151 rfl (lv_at hl 1 rfl) ?_
        obtain ⟨x16, hx16, h⟩ := Option.bind_eq_some_iff.mp h
        refine m_iald hx hb hKv hM (by decide) at_X5_6 0 rfl hx16 dX5_reckons_152 ?_
        obtain ⟨M17, hM17, h⟩ := Option.bind_eq_some_iff.mp h
        refine m_iast hx hb hKv hM (by decide) at_X5_6 0 rfl (sta_some hM17).1 (pa_X5_6 (sta_some hM17).2) dX5_reckons_153 (fun H locs hM => ?_)
        refine lv_iinc (v := (v1 + 1)) (lv' := [(1, .int (v1 + 1)), (3, .int (((6 : Int32) * x4) + x5)), (2, .int (((6 : Int32) * x2) + x3)), (0, .ref (ad 0))]) hx hb dX5_reckons_154 hl (k := 3) rfl rfl (by decide) rfl (fun ls hl => ?_)
        refine lv_goto (tgt := 39) hx hb dX5_reckons_157 (by decide) ?_
        exact ih _ _ h _ _ _ (lv_sub hl [3, 0] rfl) hM
set_option maxHeartbeats 4000000 in
set_option maxRecDepth 100000 in
theorem wX5_reckons_178 {p : Program} {l : Launch} {e : Env} {s : State} {m : MethodId} {args : Array Value} {below : List Frame} {meth : Method} {c : Code} {D : va_G} {cI cZ : ClassId} {ad : Nat → Nat} {X : State → Prop} (Z : mZ p s m args meth c cX5_reckons 5 none wsX5_reckons RX5 D [(cI, .int), (cZ, .boolean)] X) (hX0 : mX ad 14 X)   (u1 : Int32) (u2 : Int32)  {K : Mem → Option Mem} (res : Mem) (hKc : ∀  (M1 : Mem), K  M1 = some res → ∀ (H : Heap) (locs : List Loc) (ls : Array Slot), lv_has ls 5 [(0, .ref (ad 0)), (1, .int u1), (2, .int u2)] → mH D ad 14 (Em ad cI cZ M1) s.heap H locs → W p l e { frames := 1, cells := 0, slots := 0, locals := 27 } s m args below meth c H locs 0 0 (MQ below (mQ D ad 14 none (Em ad cI cZ res)) args s 0 0 (mA ad 14)) (F0 m 295 ls [])) :
    ∀ (n : Nat) (v3 : Int32) (M : Mem), fX5_reckons_178 u1 u2 K n v3 M = some res → ∀ (H : Heap) (locs : List Loc) (ls : Array Slot), lv_has ls 5 [(0, .ref (ad 0)), (1, .int u1), (2, .int u2), (3, .int v3)] → mH D ad 14 (Em ad cI cZ M) s.heap H locs → W p l e { frames := 1, cells := 0, slots := 0, locals := 27 } s m args below meth c H locs 0 0 (MQ below (mQ D ad 14 none (Em ad cI cZ res)) args s 0 0 (mA ad 14)) (F0 m 178 ls []) := by
  obtain ⟨hx, hb, hml, hr, hlocks, hts, hown, hKv, hXs⟩ := id Z
  have hXk := hX0
  have k0 := hts (Cond.fieldLink RX5 25 "NoonWalkerModel" "miles" "[I") (List.mem_of_getElem? (i := 1) rfl)
  have k1 := hts (Cond.constant RX5 140 (-1000000)) (List.mem_of_getElem? (i := 2) rfl)
  intro n
  induction n with
  | zero => intro _ _ h; exact absurd h (by unfold fX5_reckons_178; exact fun h => by cases h)
  | succ n ih =>
    intro v3 M h H locs ls hl hM
    rw [fX5_reckons_178] at h
    refine lv_iload_n hx hb dX5_reckons_178 rfl (lv_at hl 3 rfl) ?_
    refine lv_bipush (v := (6 : Int32)) hx hb dX5_reckons_179 (by decide) ?_
    refine lv_icmp_ge (tgt := 295) hx hb dX5_reckons_181 (by decide) (fun c1 => ?_) (fun c1 => ?_)
    · replace h := (if_pos c1).symm.trans h
      exact hKc _ h _ _ _ (lv_sub hl [0, 1, 2] rfl) hM
    · replace h := (if_neg c1).symm.trans h
      refine lv_aload_n hx hb dX5_reckons_184 rfl (lv_at hl 0 rfl) ?_
      refine m_get hx hb hts hown hKv hM (fun _ h => List.mem_cons_of_mem _ (List.mem_append_right _ (h))) (by decide) at_X5 rfl 19 (by decide) k0 (v := .ref (ad 6)) rfl dX5_reckons_185 ?_
      refine lv_bipush (v := (6 : Int32)) hx hb dX5_reckons_188 (by decide) ?_
      refine lv_iload_n hx hb dX5_reckons_190 rfl (lv_at hl 2 rfl) ?_
      refine lv_imul hx hb dX5_reckons_191 ?_
      refine lv_iload_n hx hb dX5_reckons_192 rfl (lv_at hl 1 rfl) ?_
      refine lv_iadd hx hb dX5_reckons_193 ?_
      obtain ⟨x2, hx2, h⟩ := Option.bind_eq_some_iff.mp h
      refine m_iald hx hb hKv hM (by decide) at_X5_6 0 rfl hx2 dX5_reckons_194 ?_
      refine lv_ldc (v := (-1000000 : Int32)) hx hb hown k1 dX5_reckons_195 ?_
      refine lv_icmp_eq (tgt := 289) hx hb dX5_reckons_197 (by decide) (fun c3 => ?_) (fun c3 => ?_)
      · replace h := (if_pos c3).symm.trans h
        refine lv_iinc (v := (v3 + 1)) (lv' := [(3, .int (v3 + 1)), (0, .ref (ad 0)), (1, .int u1), (2, .int u2)]) hx hb dX5_reckons_289 hl (k := 3) rfl rfl (by decide) rfl (fun ls hl => ?_)
        refine lv_goto (tgt := 178) hx hb dX5_reckons_292 (by decide) ?_
        exact ih _ _ h _ _ _ (lv_sub hl [1, 2, 3, 0] rfl) hM
      · replace h := (if_neg c3).symm.trans h
        refine lv_aload_n hx hb dX5_reckons_200 rfl (lv_at hl 0 rfl) ?_
        refine m_get hx hb hts hown hKv hM (fun _ h => List.mem_cons_of_mem _ (List.mem_append_right _ (h))) (by decide) at_X5 rfl 19 (by decide) k0 (v := .ref (ad 6)) rfl dX5_reckons_201 ?_
        refine lv_bipush (v := (6 : Int32)) hx hb dX5_reckons_204 (by decide) ?_
        refine lv_iload_n hx hb dX5_reckons_206 rfl (lv_at hl 1 rfl) ?_
        refine lv_imul hx hb dX5_reckons_207 ?_
        refine lv_iload_n hx hb dX5_reckons_208 rfl (lv_at hl 3 rfl) ?_
        refine lv_iadd hx hb dX5_reckons_209 ?_
        obtain ⟨x4, hx4, h⟩ := Option.bind_eq_some_iff.mp h
        refine m_iald hx hb hKv hM (by decide) at_X5_6 0 rfl hx4 dX5_reckons_210 ?_
        refine lv_ldc (v := (-1000000 : Int32)) hx hb hown k1 dX5_reckons_211 ?_
        refine lv_icmp_eq (tgt := 289) hx hb dX5_reckons_213 (by decide) (fun c5 => ?_) (fun c5 => ?_)
        · replace h := (if_pos c5).symm.trans h
          refine lv_iinc (v := (v3 + 1)) (lv' := [(3, .int (v3 + 1)), (0, .ref (ad 0)), (1, .int u1), (2, .int u2)]) hx hb dX5_reckons_289 hl (k := 3) rfl rfl (by decide) rfl (fun ls hl => ?_)
          refine lv_goto (tgt := 178) hx hb dX5_reckons_292 (by decide) ?_
          exact ih _ _ h _ _ _ (lv_sub hl [1, 2, 3, 0] rfl) hM
        · replace h := (if_neg c5).symm.trans h
          refine lv_aload_n hx hb dX5_reckons_216 rfl (lv_at hl 0 rfl) ?_
          refine m_get hx hb hts hown hKv hM (fun _ h => List.mem_cons_of_mem _ (List.mem_append_right _ (h))) (by decide) at_X5 rfl 19 (by decide) k0 (v := .ref (ad 6)) rfl dX5_reckons_217 ?_
          refine lv_bipush (v := (6 : Int32)) hx hb dX5_reckons_220 (by decide) ?_
          refine lv_iload_n hx hb dX5_reckons_222 rfl (lv_at hl 2 rfl) ?_
          refine lv_imul hx hb dX5_reckons_223 ?_
          refine lv_iload_n hx hb dX5_reckons_224 rfl (lv_at hl 1 rfl) ?_
          refine lv_iadd hx hb dX5_reckons_225 ?_
          obtain ⟨x6, hx6, h⟩ := Option.bind_eq_some_iff.mp h
          refine m_iald hx hb hKv hM (by decide) at_X5_6 0 rfl hx6 dX5_reckons_226 ?_
          refine lv_aload_n hx hb dX5_reckons_227 rfl (lv_at hl 0 rfl) ?_
          refine m_get hx hb hts hown hKv hM (fun _ h => List.mem_cons_of_mem _ (List.mem_append_right _ (h))) (by decide) at_X5 rfl 19 (by decide) k0 (v := .ref (ad 6)) rfl dX5_reckons_228 ?_
          refine lv_bipush (v := (6 : Int32)) hx hb dX5_reckons_231 (by decide) ?_
          refine lv_iload_n hx hb dX5_reckons_233 rfl (lv_at hl 1 rfl) ?_
          refine lv_imul hx hb dX5_reckons_234 ?_
          refine lv_iload_n hx hb dX5_reckons_235 rfl (lv_at hl 3 rfl) ?_
          refine lv_iadd hx hb dX5_reckons_236 ?_
          obtain ⟨x7, hx7, h⟩ := Option.bind_eq_some_iff.mp h
          refine m_iald hx hb hKv hM (by decide) at_X5_6 0 rfl hx7 dX5_reckons_237 ?_
          refine lv_iadd hx hb dX5_reckons_238 ?_
          refine lv_istore (lv' := [(4, .int (x6 + x7)), (0, .ref (ad 0)), (1, .int u1), (2, .int u2), (3, .int v3)]) hx hb dX5_reckons_239 hl (by decide) rfl (fun ls hl => ?_)
          refine lv_aload_n hx hb dX5_reckons_241 rfl (lv_at hl 1 rfl) ?_
          refine m_get hx hb hts hown hKv hM (fun _ h => List.mem_cons_of_mem _ (List.mem_append_right _ (h))) (by decide) at_X5 rfl 19 (by decide) k0 (v := .ref (ad 6)) rfl dX5_reckons_242 ?_
          refine lv_bipush (v := (6 : Int32)) hx hb dX5_reckons_245 (by decide) ?_
          refine lv_iload_n hx hb dX5_reckons_247 rfl (lv_at hl 3 rfl) ?_
          refine lv_imul hx hb dX5_reckons_248 ?_
          refine lv_iload_n hx hb dX5_reckons_249 rfl (lv_at hl 4 rfl) ?_
          refine lv_iadd hx hb dX5_reckons_250 ?_
          refine lv_aload_n hx hb dX5_reckons_251 rfl (lv_at hl 1 rfl) ?_
          refine m_get hx hb hts hown hKv hM (fun _ h => List.mem_cons_of_mem _ (List.mem_append_right _ (h))) (by decide) at_X5 rfl 19 (by decide) k0 (v := .ref (ad 6)) rfl dX5_reckons_252 ?_
          refine lv_bipush (v := (6 : Int32)) hx hb dX5_reckons_255 (by decide) ?_
          refine lv_iload_n hx hb dX5_reckons_257 rfl (lv_at hl 3 rfl) ?_
          refine lv_imul hx hb dX5_reckons_258 ?_
          refine lv_iload_n hx hb dX5_reckons_259 rfl (lv_at hl 4 rfl) ?_
          refine lv_iadd hx hb dX5_reckons_260 ?_
          obtain ⟨x8, hx8, h⟩ := Option.bind_eq_some_iff.mp h
          refine m_iald hx hb hKv hM (by decide) at_X5_6 0 rfl hx8 dX5_reckons_261 ?_
          refine lv_ldc (v := (-1000000 : Int32)) hx hb hown k1 dX5_reckons_262 ?_
          refine lv_icmp_ne (tgt := 272) hx hb dX5_reckons_264 (by decide) (fun c9 => ?_) (fun c9 => ?_)
          · replace h := (if_neg c9).symm.trans h
            refine lv_aload_n hx hb dX5_reckons_272 rfl (lv_at hl 1 rfl) ?_
            refine m_get hx hb hts hown hKv hM (fun _ h => List.mem_cons_of_mem _ (List.mem_append_right _ (h))) (by decide) at_X5 rfl 19 (by decide) k0 (v := .ref (ad 6)) rfl dX5_reckons_273 ?_
            refine lv_bipush (v := (6 : Int32)) hx hb dX5_reckons_276 (by decide) ?_
            refine lv_iload_n hx hb dX5_reckons_278 rfl (lv_at hl 3 rfl) ?_
            refine lv_imul hx hb dX5_reckons_279 ?_
            refine lv_iload_n hx hb dX5_reckons_280 rfl (lv_at hl 4 rfl) ?_
            refine lv_iadd hx hb dX5_reckons_281 ?_
            obtain ⟨x10, hx10, h⟩ := Option.bind_eq_some_iff.mp h
            refine m_iald hx hb hKv hM (by decide) at_X5_6 0 rfl hx10 dX5_reckons_282 ?_
            refine lv_iload hx hb dX5_reckons_283 (lv_at hl 0 rfl) ?_
            obtain ⟨x11, hx11, h⟩ := Option.bind_eq_some_iff.mp h
            refine m_callS (As := [.int x10, .int (x6 + x7)]) (st1 := [.int x11, .int (((6 : Int32) * u2) + v3), .ref (ad 6)]) hx hb (hml.trans hl.1.symm) hown hts hKv hXs hXk hM (kX5_lesser l D cI cZ ad hX0 x10 (x6 + x7) M _ hx11) (va_cwS 2 hts gX5_reckons_X5_lesser rfl rfl rfl (by decide +kernel) ⟨Nat.le_of_ble_eq_true rfl, Nat.le_of_ble_eq_true rfl⟩) rfl rfl rfl (Nat.le_of_ble_eq_true rfl) dX5_reckons_285 ⟨Nat.zero_le _, Nat.zero_le _⟩ (fun H locs hM => ?_)
            obtain ⟨M12, hM12, h⟩ := Option.bind_eq_some_iff.mp h
            refine m_iast hx hb hKv hM (by decide) at_X5_6 0 rfl (sta_some hM12).1 (pa_X5_6 (sta_some hM12).2) dX5_reckons_288 (fun H locs hM => ?_)
            refine lv_iinc (v := (v3 + 1)) (lv' := [(3, .int (v3 + 1)), (4, .int (x6 + x7)), (0, .ref (ad 0)), (1, .int u1), (2, .int u2)]) hx hb dX5_reckons_289 hl (k := 4) rfl rfl (by decide) rfl (fun ls hl => ?_)
            refine lv_goto (tgt := 178) hx hb dX5_reckons_292 (by decide) ?_
            exact ih _ _ h _ _ _ (lv_sub hl [2, 3, 4, 0] rfl) hM
          · replace h := (if_pos c9).symm.trans h
            refine lv_iload hx hb dX5_reckons_267 (lv_at hl 0 rfl) ?_
            refine lv_goto (tgt := 288) hx hb dX5_reckons_269 (by decide) ?_
            obtain ⟨M13, hM13, h⟩ := Option.bind_eq_some_iff.mp h
            refine m_iast hx hb hKv hM (by decide) at_X5_6 0 rfl (sta_some hM13).1 (pa_X5_6 (sta_some hM13).2) dX5_reckons_288 (fun H locs hM => ?_)
            refine lv_iinc (v := (v3 + 1)) (lv' := [(3, .int (v3 + 1)), (4, .int (x6 + x7)), (0, .ref (ad 0)), (1, .int u1), (2, .int u2)]) hx hb dX5_reckons_289 hl (k := 4) rfl rfl (by decide) rfl (fun ls hl => ?_)
            refine lv_goto (tgt := 178) hx hb dX5_reckons_292 (by decide) ?_
            exact ih _ _ h _ _ _ (lv_sub hl [2, 3, 4, 0] rfl) hM
set_option maxHeartbeats 4000000 in
set_option maxRecDepth 100000 in
theorem wX5_reckons_170 {p : Program} {l : Launch} {e : Env} {s : State} {m : MethodId} {args : Array Value} {below : List Frame} {meth : Method} {c : Code} {D : va_G} {cI cZ : ClassId} {ad : Nat → Nat} {X : State → Prop} (Z : mZ p s m args meth c cX5_reckons 5 none wsX5_reckons RX5 D [(cI, .int), (cZ, .boolean)] X) (hX0 : mX ad 14 X)   (u1 : Int32)  {K : Mem → Option Mem} (res : Mem) (hKc : ∀  (M1 : Mem), K  M1 = some res → ∀ (H : Heap) (locs : List Loc) (ls : Array Slot), lv_has ls 5 [(0, .ref (ad 0)), (1, .int u1)] → mH D ad 14 (Em ad cI cZ M1) s.heap H locs → W p l e { frames := 1, cells := 0, slots := 0, locals := 27 } s m args below meth c H locs 0 0 (MQ below (mQ D ad 14 none (Em ad cI cZ res)) args s 0 0 (mA ad 14)) (F0 m 301 ls [])) :
    ∀ (n : Nat) (v2 : Int32) (M : Mem), fX5_reckons_170 u1 K n v2 M = some res → ∀ (H : Heap) (locs : List Loc) (ls : Array Slot), lv_has ls 5 [(0, .ref (ad 0)), (1, .int u1), (2, .int v2)] → mH D ad 14 (Em ad cI cZ M) s.heap H locs → W p l e { frames := 1, cells := 0, slots := 0, locals := 27 } s m args below meth c H locs 0 0 (MQ below (mQ D ad 14 none (Em ad cI cZ res)) args s 0 0 (mA ad 14)) (F0 m 170 ls []) := by
  obtain ⟨hx, hb, hml, hr, hlocks, hts, hown, hKv, hXs⟩ := id Z
  have hXk := hX0
  intro n
  induction n with
  | zero => intro _ _ h; exact absurd h (by unfold fX5_reckons_170; exact fun h => by cases h)
  | succ n ih =>
    intro v2 M h H locs ls hl hM
    rw [fX5_reckons_170] at h
    refine lv_iload_n hx hb dX5_reckons_170 rfl (lv_at hl 2 rfl) ?_
    refine lv_bipush (v := (6 : Int32)) hx hb dX5_reckons_171 (by decide) ?_
    refine lv_icmp_ge (tgt := 301) hx hb dX5_reckons_173 (by decide) (fun c1 => ?_) (fun c1 => ?_)
    · replace h := (if_pos c1).symm.trans h
      exact hKc _ h _ _ _ (lv_sub hl [0, 1] rfl) hM
    · replace h := (if_neg c1).symm.trans h
      refine lv_iconst (v := (0 : Int32)) hx hb dX5_reckons_176 (by decide) ?_
      refine lv_istore_n (lv' := [(3, .int (0 : Int32)), (0, .ref (ad 0)), (1, .int u1), (2, .int v2)]) hx hb dX5_reckons_177 rfl hl (by decide) rfl (fun ls hl => ?_)
      refine wX5_reckons_178 Z hX0 u1 v2 _ (fun M2 h H locs ls hl hM => ?_) _ _ _ h _ _ _ (lv_sub hl [1, 2, 3, 0] rfl) hM
      refine lv_iinc (v := (v2 + 1)) (lv' := [(2, .int (v2 + 1)), (0, .ref (ad 0)), (1, .int u1)]) hx hb dX5_reckons_295 hl (k := 2) rfl rfl (by decide) rfl (fun ls hl => ?_)
      refine lv_goto (tgt := 170) hx hb dX5_reckons_298 (by decide) ?_
      exact ih _ _ h _ _ _ (lv_sub hl [1, 2, 0] rfl) hM
set_option maxHeartbeats 4000000 in
set_option maxRecDepth 100000 in
theorem wX5_reckons_162 {p : Program} {l : Launch} {e : Env} {s : State} {m : MethodId} {args : Array Value} {below : List Frame} {meth : Method} {c : Code} {D : va_G} {cI cZ : ClassId} {ad : Nat → Nat} {X : State → Prop} (Z : mZ p s m args meth c cX5_reckons 5 none wsX5_reckons RX5 D [(cI, .int), (cZ, .boolean)] X) (hX0 : mX ad 14 X)     {K : Mem → Option Mem} (res : Mem) (hKc : ∀  (M1 : Mem), K  M1 = some res → ∀ (H : Heap) (locs : List Loc) (ls : Array Slot), lv_has ls 5 [(0, .ref (ad 0))] → mH D ad 14 (Em ad cI cZ M1) s.heap H locs → W p l e { frames := 1, cells := 0, slots := 0, locals := 27 } s m args below meth c H locs 0 0 (MQ below (mQ D ad 14 none (Em ad cI cZ res)) args s 0 0 (mA ad 14)) (F0 m 307 ls [])) :
    ∀ (n : Nat) (v1 : Int32) (M : Mem), fX5_reckons_162 K n v1 M = some res → ∀ (H : Heap) (locs : List Loc) (ls : Array Slot), lv_has ls 5 [(0, .ref (ad 0)), (1, .int v1)] → mH D ad 14 (Em ad cI cZ M) s.heap H locs → W p l e { frames := 1, cells := 0, slots := 0, locals := 27 } s m args below meth c H locs 0 0 (MQ below (mQ D ad 14 none (Em ad cI cZ res)) args s 0 0 (mA ad 14)) (F0 m 162 ls []) := by
  obtain ⟨hx, hb, hml, hr, hlocks, hts, hown, hKv, hXs⟩ := id Z
  have hXk := hX0
  intro n
  induction n with
  | zero => intro _ _ h; exact absurd h (by unfold fX5_reckons_162; exact fun h => by cases h)
  | succ n ih =>
    intro v1 M h H locs ls hl hM
    rw [fX5_reckons_162] at h
    refine lv_iload_n hx hb dX5_reckons_162 rfl (lv_at hl 1 rfl) ?_
    refine lv_bipush (v := (6 : Int32)) hx hb dX5_reckons_163 (by decide) ?_
    refine lv_icmp_ge (tgt := 307) hx hb dX5_reckons_165 (by decide) (fun c1 => ?_) (fun c1 => ?_)
    · replace h := (if_pos c1).symm.trans h
      exact hKc _ h _ _ _ (lv_sub hl [0] rfl) hM
    · replace h := (if_neg c1).symm.trans h
      refine lv_iconst (v := (0 : Int32)) hx hb dX5_reckons_168 (by decide) ?_
      refine lv_istore_n (lv' := [(2, .int (0 : Int32)), (0, .ref (ad 0)), (1, .int v1)]) hx hb dX5_reckons_169 rfl hl (by decide) rfl (fun ls hl => ?_)
      refine wX5_reckons_170 Z hX0 v1 _ (fun M2 h H locs ls hl hM => ?_) _ _ _ h _ _ _ (lv_sub hl [1, 2, 0] rfl) hM
      refine lv_iinc (v := (v1 + 1)) (lv' := [(1, .int (v1 + 1)), (0, .ref (ad 0))]) hx hb dX5_reckons_301 hl (k := 1) rfl rfl (by decide) rfl (fun ls hl => ?_)
      refine lv_goto (tgt := 162) hx hb dX5_reckons_304 (by decide) ?_
      exact ih _ _ h _ _ _ (lv_sub hl [1, 0] rfl) hM
set_option maxHeartbeats 4000000 in
set_option maxRecDepth 100000 in
theorem wX5_reckons_309 {p : Program} {l : Launch} {e : Env} {s : State} {m : MethodId} {args : Array Value} {below : List Frame} {meth : Method} {c : Code} {D : va_G} {cI cZ : ClassId} {ad : Nat → Nat} {X : State → Prop} (Z : mZ p s m args meth c cX5_reckons 5 none wsX5_reckons RX5 D [(cI, .int), (cZ, .boolean)] X) (hX0 : mX ad 14 X)     {K : Mem → Option Mem} (res : Mem) (hKc : ∀  (M1 : Mem), K  M1 = some res → ∀ (H : Heap) (locs : List Loc) (ls : Array Slot), lv_has ls 5 [] → mH D ad 14 (Em ad cI cZ M1) s.heap H locs → W p l e { frames := 1, cells := 0, slots := 0, locals := 27 } s m args below meth c H locs 0 0 (MQ below (mQ D ad 14 none (Em ad cI cZ res)) args s 0 0 (mA ad 14)) (F0 m 408 ls [])) :
    ∀ (n : Nat) (v1 : Int32) (M : Mem), fX5_reckons_309 K n v1 M = some res → ∀ (H : Heap) (locs : List Loc) (ls : Array Slot), lv_has ls 5 [(0, .ref (ad 0)), (1, .int v1)] → mH D ad 14 (Em ad cI cZ M) s.heap H locs → W p l e { frames := 1, cells := 0, slots := 0, locals := 27 } s m args below meth c H locs 0 0 (MQ below (mQ D ad 14 none (Em ad cI cZ res)) args s 0 0 (mA ad 14)) (F0 m 309 ls []) := by
  obtain ⟨hx, hb, hml, hr, hlocks, hts, hown, hKv, hXs⟩ := id Z
  have hXk := hX0
  have k0 := hts (Cond.fieldLink RX5 137 "NoonWalkerModel" "halts" "I") (List.mem_of_getElem? (i := 5) rfl)
  have k1 := hts (Cond.fieldLink RX5 28 "NoonWalkerModel" "by" "[I") (List.mem_of_getElem? (i := 6) rfl)
  have k2 := hts (Cond.fieldLink RX5 134 "NoonWalkerModel" "roads" "I") (List.mem_of_getElem? (i := 3) rfl)
  have k3 := hts (Cond.fieldLink RX5 19 "NoonWalkerModel" "haltAt" "[I") (List.mem_of_getElem? (i := 7) rfl)
  have k4 := hts (Cond.fieldLink RX5 31 "NoonWalkerModel" "comes" "[I") (List.mem_of_getElem? (i := 8) rfl)
  have k5 := hts (Cond.fieldLink RX5 22 "NoonWalkerModel" "rest" "[I") (List.mem_of_getElem? (i := 9) rfl)
  have k6 := hts (Cond.fieldLink RX5 16 "NoonWalkerModel" "road" "[I") (List.mem_of_getElem? (i := 4) rfl)
  intro n
  induction n with
  | zero => intro _ _ h; exact absurd h (by unfold fX5_reckons_309; exact fun h => by cases h)
  | succ n ih =>
    intro v1 M h H locs ls hl hM
    rw [fX5_reckons_309] at h
    refine lv_iload_n hx hb dX5_reckons_309 rfl (lv_at hl 1 rfl) ?_
    refine lv_aload_n hx hb dX5_reckons_310 rfl (lv_at hl 0 rfl) ?_
    refine m_get hx hb hts hown hKv hM (fun _ h => List.mem_cons_of_mem _ (List.mem_append_right _ (h))) (by decide) at_X5 rfl 15 (by decide) k0 (v := .int (M.1 0 15)) rfl dX5_reckons_311 ?_
    refine lv_icmp_ge (tgt := 408) hx hb dX5_reckons_314 (by decide) (fun c1 => ?_) (fun c1 => ?_)
    · replace h := (if_pos c1).symm.trans h
      exact hKc _ h _ _ _ (lv_sub hl [] rfl) hM
    · replace h := (if_neg c1).symm.trans h
      refine lv_aload_n hx hb dX5_reckons_317 rfl (lv_at hl 0 rfl) ?_
      refine m_get hx hb hts hown hKv hM (fun _ h => List.mem_cons_of_mem _ (List.mem_append_right _ (h))) (by decide) at_X5 rfl 20 (by decide) k1 (v := .ref (ad 7)) rfl dX5_reckons_318 ?_
      refine lv_iload_n hx hb dX5_reckons_321 rfl (lv_at hl 1 rfl) ?_
      refine lv_iload_n hx hb dX5_reckons_322 rfl (lv_at hl 1 rfl) ?_
      refine lv_if_ne (tgt := 331) hx hb dX5_reckons_323 (by decide) (fun c2 => ?_) (fun c2 => ?_)
      · replace h := (if_neg c2).symm.trans h
        refine lv_aload_n hx hb dX5_reckons_331 rfl (lv_at hl 0 rfl) ?_
        refine lv_iconst (v := (0 : Int32)) hx hb dX5_reckons_332 (by decide) ?_
        refine lv_aload_n hx hb dX5_reckons_333 rfl (lv_at hl 0 rfl) ?_
        refine m_get hx hb hts hown hKv hM (fun _ h => List.mem_cons_of_mem _ (List.mem_append_right _ (h))) (by decide) at_X5 rfl 14 (by decide) k2 (v := .int (M.1 0 14)) rfl dX5_reckons_334 ?_
        refine lv_aload_n hx hb dX5_reckons_337 rfl (lv_at hl 0 rfl) ?_
        refine m_get hx hb hts hown hKv hM (fun _ h => List.mem_cons_of_mem _ (List.mem_append_right _ (h))) (by decide) at_X5 rfl 11 (by decide) k3 (v := .ref (ad 4)) rfl dX5_reckons_338 ?_
        refine lv_iload_n hx hb dX5_reckons_341 rfl (lv_at hl 1 rfl) ?_
        refine lv_iconst (v := (1 : Int32)) hx hb dX5_reckons_342 (by decide) ?_
        refine lv_isub hx hb dX5_reckons_343 ?_
        obtain ⟨x3, hx3, h⟩ := Option.bind_eq_some_iff.mp h
        refine m_iald hx hb hKv hM (by decide) at_X5_4 0 rfl hx3 dX5_reckons_344 ?_
        refine lv_aload_n hx hb dX5_reckons_345 rfl (lv_at hl 0 rfl) ?_
        refine m_get hx hb hts hown hKv hM (fun _ h => List.mem_cons_of_mem _ (List.mem_append_right _ (h))) (by decide) at_X5 rfl 11 (by decide) k3 (v := .ref (ad 4)) rfl dX5_reckons_346 ?_
        refine lv_iload_n hx hb dX5_reckons_349 rfl (lv_at hl 1 rfl) ?_
        obtain ⟨x4, hx4, h⟩ := Option.bind_eq_some_iff.mp h
        refine m_iald hx hb hKv hM (by decide) at_X5_4 0 rfl hx4 dX5_reckons_350 ?_
        obtain ⟨x5, hx5, h⟩ := Option.bind_eq_some_iff.mp h
        refine m_callV (As := [.int (0 : Int32), .int (M.1 0 14), .int x3, .int x4]) (st1 := [.int x5, .int v1, .ref (ad 7)]) hx hb (hml.trans hl.1.symm) hown hts hKv hXs hXk hM (kX5_roadOf l D cI cZ ad hX0 (0 : Int32) (M.1 0 14) x3 x4 M _ hx5) (cwV 4 hts gX5_reckons_X5_roadOf rfl rfl rfl (by decide +kernel) ⟨Nat.le_of_ble_eq_true rfl, Nat.le_of_ble_eq_true rfl⟩) (by decide) at_X5 rfl rfl rfl rfl (Nat.le_of_ble_eq_true rfl) dX5_reckons_351 ⟨Nat.zero_le _, Nat.zero_le _⟩ (fun H locs hM => ?_)
        obtain ⟨M6, hM6, h⟩ := Option.bind_eq_some_iff.mp h
        refine m_iast hx hb hKv hM (by decide) at_X5_7 0 rfl (sta_some hM6).1 (pa_X5_7 (sta_some hM6).2) dX5_reckons_354 (fun H locs hM => ?_)
        refine lv_aload_n hx hb dX5_reckons_355 rfl (lv_at hl 0 rfl) ?_
        refine m_get hx hb hts hown hKv hM (fun _ h => List.mem_cons_of_mem _ (List.mem_append_right _ (h))) (by decide) at_X5 rfl 21 (by decide) k4 (v := .ref (ad 8)) rfl dX5_reckons_356 ?_
        refine lv_iload_n hx hb dX5_reckons_359 rfl (lv_at hl 1 rfl) ?_
        refine lv_iload_n hx hb dX5_reckons_360 rfl (lv_at hl 1 rfl) ?_
        refine lv_if_ne (tgt := 368) hx hb dX5_reckons_361 (by decide) (fun c7 => ?_) (fun c7 => ?_)
        · replace h := (if_neg c7).symm.trans h
          refine lv_aload_n hx hb dX5_reckons_368 rfl (lv_at hl 0 rfl) ?_
          refine m_get hx hb hts hown hKv hM (fun _ h => List.mem_cons_of_mem _ (List.mem_append_right _ (h))) (by decide) at_X5 rfl 21 (by decide) k4 (v := .ref (ad 8)) rfl dX5_reckons_369 ?_
          refine lv_iload_n hx hb dX5_reckons_372 rfl (lv_at hl 1 rfl) ?_
          refine lv_iconst (v := (1 : Int32)) hx hb dX5_reckons_373 (by decide) ?_
          refine lv_isub hx hb dX5_reckons_374 ?_
          obtain ⟨x8, hx8, h⟩ := Option.bind_eq_some_iff.mp h
          refine m_iald hx hb hKv hM (by decide) at_X5_8 0 rfl hx8 dX5_reckons_375 ?_
          refine lv_aload_n hx hb dX5_reckons_376 rfl (lv_at hl 0 rfl) ?_
          refine m_get hx hb hts hown hKv hM (fun _ h => List.mem_cons_of_mem _ (List.mem_append_right _ (h))) (by decide) at_X5 rfl 12 (by decide) k5 (v := .ref (ad 5)) rfl dX5_reckons_377 ?_
          refine lv_iload_n hx hb dX5_reckons_380 rfl (lv_at hl 1 rfl) ?_
          refine lv_iconst (v := (1 : Int32)) hx hb dX5_reckons_381 (by decide) ?_
          refine lv_isub hx hb dX5_reckons_382 ?_
          obtain ⟨x9, hx9, h⟩ := Option.bind_eq_some_iff.mp h
          refine m_iald hx hb hKv hM (by decide) at_X5_5 0 rfl hx9 dX5_reckons_383 ?_
          refine lv_iadd hx hb dX5_reckons_384 ?_
          refine lv_aload_n hx hb dX5_reckons_385 rfl (lv_at hl 0 rfl) ?_
          refine m_get hx hb hts hown hKv hM (fun _ h => List.mem_cons_of_mem _ (List.mem_append_right _ (h))) (by decide) at_X5 rfl 10 (by decide) k6 (v := .ref (ad 3)) rfl dX5_reckons_386 ?_
          refine lv_iconst (v := (3 : Int32)) hx hb dX5_reckons_389 (by decide) ?_
          refine lv_aload_n hx hb dX5_reckons_390 rfl (lv_at hl 0 rfl) ?_
          refine m_get hx hb hts hown hKv hM (fun _ h => List.mem_cons_of_mem _ (List.mem_append_right _ (h))) (by decide) at_X5 rfl 20 (by decide) k1 (v := .ref (ad 7)) rfl dX5_reckons_391 ?_
          refine lv_iload_n hx hb dX5_reckons_394 rfl (lv_at hl 1 rfl) ?_
          obtain ⟨x10, hx10, h⟩ := Option.bind_eq_some_iff.mp h
          refine m_iald hx hb hKv hM (by decide) at_X5_7 0 rfl hx10 dX5_reckons_395 ?_
          refine lv_imul hx hb dX5_reckons_396 ?_
          refine lv_iconst (v := (2 : Int32)) hx hb dX5_reckons_397 (by decide) ?_
          refine lv_iadd hx hb dX5_reckons_398 ?_
          obtain ⟨x11, hx11, h⟩ := Option.bind_eq_some_iff.mp h
          refine m_iald hx hb hKv hM (by decide) at_X5_3 0 rfl hx11 dX5_reckons_399 ?_
          refine lv_iadd hx hb dX5_reckons_400 ?_
          obtain ⟨M12, hM12, h⟩ := Option.bind_eq_some_iff.mp h
          refine m_iast hx hb hKv hM (by decide) at_X5_8 0 rfl (sta_some hM12).1 (pa_X5_8 (sta_some hM12).2) dX5_reckons_401 (fun H locs hM => ?_)
          refine lv_iinc (v := (v1 + 1)) (lv' := [(1, .int (v1 + 1)), (0, .ref (ad 0))]) hx hb dX5_reckons_402 hl (k := 1) rfl rfl (by decide) rfl (fun ls hl => ?_)
          refine lv_goto (tgt := 309) hx hb dX5_reckons_405 (by decide) ?_
          exact ih _ _ h _ _ _ (lv_sub hl [1, 0] rfl) hM
        · replace h := (if_pos c7).symm.trans h
          refine lv_iconst (v := (0 : Int32)) hx hb dX5_reckons_364 (by decide) ?_
          refine lv_goto (tgt := 401) hx hb dX5_reckons_365 (by decide) ?_
          obtain ⟨M13, hM13, h⟩ := Option.bind_eq_some_iff.mp h
          refine m_iast hx hb hKv hM (by decide) at_X5_8 0 rfl (sta_some hM13).1 (pa_X5_8 (sta_some hM13).2) dX5_reckons_401 (fun H locs hM => ?_)
          refine lv_iinc (v := (v1 + 1)) (lv' := [(1, .int (v1 + 1)), (0, .ref (ad 0))]) hx hb dX5_reckons_402 hl (k := 1) rfl rfl (by decide) rfl (fun ls hl => ?_)
          refine lv_goto (tgt := 309) hx hb dX5_reckons_405 (by decide) ?_
          exact ih _ _ h _ _ _ (lv_sub hl [1, 0] rfl) hM
      · replace h := (if_pos c2).symm.trans h
        refine lv_bipush (v := (-9 : Int32)) hx hb dX5_reckons_326 (by decide) ?_
        refine lv_goto (tgt := 354) hx hb dX5_reckons_328 (by decide) ?_
        obtain ⟨M14, hM14, h⟩ := Option.bind_eq_some_iff.mp h
        refine m_iast hx hb hKv hM (by decide) at_X5_7 0 rfl (sta_some hM14).1 (pa_X5_7 (sta_some hM14).2) dX5_reckons_354 (fun H locs hM => ?_)
        refine lv_aload_n hx hb dX5_reckons_355 rfl (lv_at hl 0 rfl) ?_
        refine m_get hx hb hts hown hKv hM (fun _ h => List.mem_cons_of_mem _ (List.mem_append_right _ (h))) (by decide) at_X5 rfl 21 (by decide) k4 (v := .ref (ad 8)) rfl dX5_reckons_356 ?_
        refine lv_iload_n hx hb dX5_reckons_359 rfl (lv_at hl 1 rfl) ?_
        refine lv_iload_n hx hb dX5_reckons_360 rfl (lv_at hl 1 rfl) ?_
        refine lv_if_ne (tgt := 368) hx hb dX5_reckons_361 (by decide) (fun c15 => ?_) (fun c15 => ?_)
        · replace h := (if_neg c15).symm.trans h
          refine lv_aload_n hx hb dX5_reckons_368 rfl (lv_at hl 0 rfl) ?_
          refine m_get hx hb hts hown hKv hM (fun _ h => List.mem_cons_of_mem _ (List.mem_append_right _ (h))) (by decide) at_X5 rfl 21 (by decide) k4 (v := .ref (ad 8)) rfl dX5_reckons_369 ?_
          refine lv_iload_n hx hb dX5_reckons_372 rfl (lv_at hl 1 rfl) ?_
          refine lv_iconst (v := (1 : Int32)) hx hb dX5_reckons_373 (by decide) ?_
          refine lv_isub hx hb dX5_reckons_374 ?_
          obtain ⟨x16, hx16, h⟩ := Option.bind_eq_some_iff.mp h
          refine m_iald hx hb hKv hM (by decide) at_X5_8 0 rfl hx16 dX5_reckons_375 ?_
          refine lv_aload_n hx hb dX5_reckons_376 rfl (lv_at hl 0 rfl) ?_
          refine m_get hx hb hts hown hKv hM (fun _ h => List.mem_cons_of_mem _ (List.mem_append_right _ (h))) (by decide) at_X5 rfl 12 (by decide) k5 (v := .ref (ad 5)) rfl dX5_reckons_377 ?_
          refine lv_iload_n hx hb dX5_reckons_380 rfl (lv_at hl 1 rfl) ?_
          refine lv_iconst (v := (1 : Int32)) hx hb dX5_reckons_381 (by decide) ?_
          refine lv_isub hx hb dX5_reckons_382 ?_
          obtain ⟨x17, hx17, h⟩ := Option.bind_eq_some_iff.mp h
          refine m_iald hx hb hKv hM (by decide) at_X5_5 0 rfl hx17 dX5_reckons_383 ?_
          refine lv_iadd hx hb dX5_reckons_384 ?_
          refine lv_aload_n hx hb dX5_reckons_385 rfl (lv_at hl 0 rfl) ?_
          refine m_get hx hb hts hown hKv hM (fun _ h => List.mem_cons_of_mem _ (List.mem_append_right _ (h))) (by decide) at_X5 rfl 10 (by decide) k6 (v := .ref (ad 3)) rfl dX5_reckons_386 ?_
          refine lv_iconst (v := (3 : Int32)) hx hb dX5_reckons_389 (by decide) ?_
          refine lv_aload_n hx hb dX5_reckons_390 rfl (lv_at hl 0 rfl) ?_
          refine m_get hx hb hts hown hKv hM (fun _ h => List.mem_cons_of_mem _ (List.mem_append_right _ (h))) (by decide) at_X5 rfl 20 (by decide) k1 (v := .ref (ad 7)) rfl dX5_reckons_391 ?_
          refine lv_iload_n hx hb dX5_reckons_394 rfl (lv_at hl 1 rfl) ?_
          obtain ⟨x18, hx18, h⟩ := Option.bind_eq_some_iff.mp h
          refine m_iald hx hb hKv hM (by decide) at_X5_7 0 rfl hx18 dX5_reckons_395 ?_
          refine lv_imul hx hb dX5_reckons_396 ?_
          refine lv_iconst (v := (2 : Int32)) hx hb dX5_reckons_397 (by decide) ?_
          refine lv_iadd hx hb dX5_reckons_398 ?_
          obtain ⟨x19, hx19, h⟩ := Option.bind_eq_some_iff.mp h
          refine m_iald hx hb hKv hM (by decide) at_X5_3 0 rfl hx19 dX5_reckons_399 ?_
          refine lv_iadd hx hb dX5_reckons_400 ?_
          obtain ⟨M20, hM20, h⟩ := Option.bind_eq_some_iff.mp h
          refine m_iast hx hb hKv hM (by decide) at_X5_8 0 rfl (sta_some hM20).1 (pa_X5_8 (sta_some hM20).2) dX5_reckons_401 (fun H locs hM => ?_)
          refine lv_iinc (v := (v1 + 1)) (lv' := [(1, .int (v1 + 1)), (0, .ref (ad 0))]) hx hb dX5_reckons_402 hl (k := 1) rfl rfl (by decide) rfl (fun ls hl => ?_)
          refine lv_goto (tgt := 309) hx hb dX5_reckons_405 (by decide) ?_
          exact ih _ _ h _ _ _ (lv_sub hl [1, 0] rfl) hM
        · replace h := (if_pos c15).symm.trans h
          refine lv_iconst (v := (0 : Int32)) hx hb dX5_reckons_364 (by decide) ?_
          refine lv_goto (tgt := 401) hx hb dX5_reckons_365 (by decide) ?_
          obtain ⟨M21, hM21, h⟩ := Option.bind_eq_some_iff.mp h
          refine m_iast hx hb hKv hM (by decide) at_X5_8 0 rfl (sta_some hM21).1 (pa_X5_8 (sta_some hM21).2) dX5_reckons_401 (fun H locs hM => ?_)
          refine lv_iinc (v := (v1 + 1)) (lv' := [(1, .int (v1 + 1)), (0, .ref (ad 0))]) hx hb dX5_reckons_402 hl (k := 1) rfl rfl (by decide) rfl (fun ls hl => ?_)
          refine lv_goto (tgt := 309) hx hb dX5_reckons_405 (by decide) ?_
          exact ih _ _ h _ _ _ (lv_sub hl [1, 0] rfl) hM
set_option maxHeartbeats 4000000 in
set_option maxRecDepth 100000 in
theorem kX5_reckons (l : Launch) (D : va_G) (cI cZ : ClassId) (ad : Nat → Nat) {X : State → Prop} (hX0 : mX ad 14 X)  (M : Mem) (res : Mem) (h : fX5_reckons M = some res) : mC l yX5_reckons wsX5_reckons { frames := 1, cells := 0, slots := 0, locals := 27 } D [(cI, .int), (cZ, .boolean)] ad 14 X [.ref (ad 0)] (Em ad cI cZ M) none (Em ad cI cZ res) := by
  refine m_ofW (cc := cX5_reckons) (maxL := 5) (ret := none) (by decide) rfl (Nat.le_of_ble_eq_true rfl) ?_
  intro p e s m args below meth c hx hb hml hr hlocks hts hown hKv hXs ls hl hM
  have hXk := hX0
  have Z : mZ p s m args meth c cX5_reckons 5 none wsX5_reckons RX5 D [(cI, .int), (cZ, .boolean)] X := ⟨hx, hb, hml, hr, hlocks, hts, hown, hKv, hXs⟩
  replace hown : s.vm.findClass RX5 = some m.cls := hown
  have hl : lv_has ls 5 [(0, .ref (ad 0))] := hl
  unfold fX5_reckons at h
  refine lv_iconst (v := (0 : Int32)) hx hb dX5_reckons_0 (by decide) ?_
  refine lv_istore_n (lv' := [(1, .int (0 : Int32)), (0, .ref (ad 0))]) hx hb dX5_reckons_1 rfl hl (by decide) rfl (fun ls hl => ?_)
  refine wX5_reckons_2 Z hX0 _ (fun M1 h H locs ls hl hM => ?_) _ _ _ h _ _ _ (lv_sub hl [1, 0] rfl) hM
  refine lv_iconst (v := (0 : Int32)) hx hb dX5_reckons_37 (by decide) ?_
  refine lv_istore_n (lv' := [(1, .int (0 : Int32)), (0, .ref (ad 0))]) hx hb dX5_reckons_38 rfl hl (by decide) rfl (fun ls hl => ?_)
  refine wX5_reckons_39 Z hX0 _ (fun M2 h H locs ls hl hM => ?_) _ _ _ h _ _ _ (lv_sub hl [1, 0] rfl) hM
  refine lv_iconst (v := (0 : Int32)) hx hb dX5_reckons_160 (by decide) ?_
  refine lv_istore_n (lv' := [(1, .int (0 : Int32)), (0, .ref (ad 0))]) hx hb dX5_reckons_161 rfl hl (by decide) rfl (fun ls hl => ?_)
  refine wX5_reckons_162 Z hX0 _ (fun M3 h H locs ls hl hM => ?_) _ _ _ h _ _ _ (lv_sub hl [1, 0] rfl) hM
  refine lv_iconst (v := (0 : Int32)) hx hb dX5_reckons_307 (by decide) ?_
  refine lv_istore_n (lv' := [(1, .int (0 : Int32)), (0, .ref (ad 0))]) hx hb dX5_reckons_308 rfl hl (by decide) rfl (fun ls hl => ?_)
  refine wX5_reckons_309 Z hX0 _ (fun M4 h H locs ls hl hM => ?_) _ _ _ h _ _ _ (lv_sub hl [1, 0] rfl) hM
  exact m_vret hx hb hr hlocks hM (congrArg (a₁ := M4) (fun z => Em ad cI cZ z) (Option.some.inj h)) dX5_reckons_408
set_option maxHeartbeats 4000000 in
set_option maxRecDepth 100000 in
theorem wX5_land_36 {p : Program} {l : Launch} {e : Env} {s : State} {m : MethodId} {args : Array Value} {below : List Frame} {meth : Method} {c : Code} {D : va_G} {cI cZ : ClassId} {ad : Nat → Nat} {X : State → Prop} (Z : mZ p s m args meth c cX5_land 4 (some .int) wsX5_land RX5 D [(cI, .int), (cZ, .boolean)] X) (hX0 : mX ad 14 X)     {K : Int32 → Mem → Option (Int32 × Mem)} (res : (Int32 × Mem)) (hKc : ∀ (y1 : Int32) (M1 : Mem), K y1 M1 = some res → ∀ (H : Heap) (locs : List Loc) (ls : Array Slot), lv_has ls 4 [(0, .ref (ad 0)), (1, .int y1)] → mH D ad 14 (Em ad cI cZ M1) s.heap H locs → W p l e { frames := 6, cells := 0, slots := 0, locals := 136 } s m args below meth c H locs 0 0 (MQ below (mQ D ad 14 (some (.int res.1)) (Em ad cI cZ res.2)) args s 0 0 (mA ad 14)) (F0 m 172 ls [])) :
    ∀ (n : Nat) (v1 : Int32) (M : Mem), fX5_land_36 K n v1 M = some res → ∀ (H : Heap) (locs : List Loc) (ls : Array Slot), lv_has ls 4 [(0, .ref (ad 0)), (1, .int v1)] → mH D ad 14 (Em ad cI cZ M) s.heap H locs → W p l e { frames := 6, cells := 0, slots := 0, locals := 136 } s m args below meth c H locs 0 0 (MQ below (mQ D ad 14 (some (.int res.1)) (Em ad cI cZ res.2)) args s 0 0 (mA ad 14)) (F0 m 36 ls []) := by
  obtain ⟨hx, hb, hml, hr, hlocks, hts, hown, hKv, hXs⟩ := id Z
  have hXk := hX0
  have k0 := hts (Cond.fieldLink RX5 86 "NoonWalkerModel" "token" "I") (List.mem_of_getElem? (i := 7) rfl)
  have k1 := hts (Cond.fieldLink RX5 93 "NoonWalkerModel" "value" "I") (List.mem_of_getElem? (i := 8) rfl)
  have k2 := hts (Cond.fieldLink RX5 120 "NoonWalkerModel" "draftHalts" "I") (List.mem_of_getElem? (i := 6) rfl)
  have k3 := hts (Cond.fieldLink RX5 117 "NoonWalkerModel" "draftRoads" "I") (List.mem_of_getElem? (i := 5) rfl)
  have k4 := hts (Cond.fieldLink RX5 110 "NoonWalkerModel" "draftTowns" "I") (List.mem_of_getElem? (i := 4) rfl)
  intro n
  induction n with
  | zero => intro _ _ h; exact absurd h (by unfold fX5_land_36; exact fun h => by cases h)
  | succ n ih =>
    intro v1 M h H locs ls hl hM
    rw [fX5_land_36] at h
    refine lv_aload_n hx hb dX5_land_36 rfl (lv_at hl 0 rfl) ?_
    obtain ⟨x1, hx1, h⟩ := Option.bind_eq_some_iff.mp h
    refine m_callV (As := []) (st1 := [.int x1]) hx hb (hml.trans hl.1.symm) hown hts hKv hXs hXk hM (kX5_isWell l D cI cZ ad hX0  M _ hx1) (cwV 0 hts gX5_land_X5_isWell rfl rfl rfl (by decide +kernel) ⟨Nat.le_of_ble_eq_true rfl, Nat.le_of_ble_eq_true rfl⟩) (by decide) at_X5 rfl rfl rfl rfl (Nat.le_of_ble_eq_true rfl) dX5_land_37 ⟨Nat.zero_le _, Nat.zero_le _⟩ (fun H locs hM => ?_)
    refine lv_if_eq (tgt := 172) hx hb dX5_land_40 (by decide) (fun c2 => ?_) (fun c2 => ?_)
    · replace h := (if_pos c2).symm.trans h
      exact hKc _ _ h _ _ _ (lv_sub hl [0, 1] rfl) hM
    · replace h := (if_neg c2).symm.trans h
      refine lv_aload_n hx hb dX5_land_43 rfl (lv_at hl 0 rfl) ?_
      refine m_get hx hb hts hown hKv hM (fun _ h => List.mem_cons_of_mem _ (List.mem_append_right _ (h))) (by decide) at_X5 rfl 5 (by decide) k0 (v := .int (M.1 0 5)) rfl dX5_land_44 ?_
      refine lv_if_eq (tgt := 172) hx hb dX5_land_47 (by decide) (fun c3 => ?_) (fun c3 => ?_)
      · replace h := (if_pos c3).symm.trans h
        exact hKc _ _ h _ _ _ (lv_sub hl [0, 1] rfl) hM
      · replace h := (if_neg c3).symm.trans h
        refine lv_aload_n hx hb dX5_land_50 rfl (lv_at hl 0 rfl) ?_
        refine m_get hx hb hts hown hKv hM (fun _ h => List.mem_cons_of_mem _ (List.mem_append_right _ (h))) (by decide) at_X5 rfl 7 (by decide) k1 (v := .int (M.1 0 7)) rfl dX5_land_51 ?_
        refine lv_if_ne (tgt := 74) hx hb dX5_land_54 (by decide) (fun c4 => ?_) (fun c4 => ?_)
        · replace h := (if_neg c4).symm.trans h
          refine lv_aload_n hx hb dX5_land_74 rfl (lv_at hl 0 rfl) ?_
          refine m_get hx hb hts hown hKv hM (fun _ h => List.mem_cons_of_mem _ (List.mem_append_right _ (h))) (by decide) at_X5 rfl 7 (by decide) k1 (v := .int (M.1 0 7)) rfl dX5_land_75 ?_
          refine lv_iconst (v := (1 : Int32)) hx hb dX5_land_78 (by decide) ?_
          refine lv_icmp_ne (tgt := 99) hx hb dX5_land_79 (by decide) (fun c5 => ?_) (fun c5 => ?_)
          · replace h := (if_neg c5).symm.trans h
            refine lv_aload_n hx hb dX5_land_99 rfl (lv_at hl 0 rfl) ?_
            refine m_get hx hb hts hown hKv hM (fun _ h => List.mem_cons_of_mem _ (List.mem_append_right _ (h))) (by decide) at_X5 rfl 18 (by decide) k2 (v := .int (M.1 0 18)) rfl dX5_land_100 ?_
            refine lv_bipush (v := (10 : Int32)) hx hb dX5_land_103 (by decide) ?_
            refine lv_icmp_ge (tgt := 112) hx hb dX5_land_105 (by decide) (fun c6 => ?_) (fun c6 => ?_)
            · replace h := (if_pos c6).symm.trans h
              refine lv_iconst (v := (0 : Int32)) hx hb dX5_land_112 (by decide) ?_
              refine lv_istore_n (lv' := [(2, .int (0 : Int32)), (0, .ref (ad 0)), (1, .int v1)]) hx hb dX5_land_113 rfl hl (by decide) rfl (fun ls hl => ?_)
              refine lv_aload_n hx hb dX5_land_114 rfl (lv_at hl 1 rfl) ?_
              refine lv_aload_n hx hb dX5_land_115 rfl (lv_at hl 1 rfl) ?_
              refine m_get hx hb hts hown hKv hM (fun _ h => List.mem_cons_of_mem _ (List.mem_append_right _ (h))) (by decide) at_X5 rfl 5 (by decide) k0 (v := .int (M.1 0 5)) rfl dX5_land_116 ?_
              refine lv_iconst (v := (1 : Int32)) hx hb dX5_land_119 (by decide) ?_
              refine lv_icmp_ne (tgt := 131) hx hb dX5_land_120 (by decide) (fun c7 => ?_) (fun c7 => ?_)
              · replace h := (if_neg c7).symm.trans h
                refine lv_iconst (v := (0 : Int32)) hx hb dX5_land_131 (by decide) ?_
                obtain ⟨x8, hx8, h⟩ := Option.bind_eq_some_iff.mp h
                refine m_callV (As := [.int (0 : Int32)]) (st1 := [.int x8.1]) hx hb (hml.trans hl.1.symm) hown hts hKv hXs hXk hM (kX5_takes l D cI cZ ad hX0 (0 : Int32) M _ hx8) (cwV 1 hts gX5_land_X5_takes rfl rfl rfl (by decide +kernel) ⟨Nat.le_of_ble_eq_true rfl, Nat.le_of_ble_eq_true rfl⟩) (by decide) at_X5 rfl rfl rfl rfl (Nat.le_of_ble_eq_true rfl) dX5_land_132 ⟨Nat.zero_le _, Nat.zero_le _⟩ (fun H locs hM => ?_)
                refine lv_istore_n (lv' := [(3, .int x8.1), (2, .int (0 : Int32)), (0, .ref (ad 0)), (1, .int v1)]) hx hb dX5_land_135 rfl hl (by decide) rfl (fun ls hl => ?_)
                refine lv_aload_n hx hb dX5_land_136 rfl (lv_at hl 2 rfl) ?_
                obtain ⟨x9, hx9, h⟩ := Option.bind_eq_some_iff.mp h
                refine m_callV (As := []) (st1 := [.int x9]) hx hb (hml.trans hl.1.symm) hown hts hKv hXs hXk hM (kX5_isWell l D cI cZ ad hX0  x8.2 _ hx9) (cwV 0 hts gX5_land_X5_isWell rfl rfl rfl (by decide +kernel) ⟨Nat.le_of_ble_eq_true rfl, Nat.le_of_ble_eq_true rfl⟩) (by decide) at_X5 rfl rfl rfl rfl (Nat.le_of_ble_eq_true rfl) dX5_land_137 ⟨Nat.zero_le _, Nat.zero_le _⟩ (fun H locs hM => ?_)
                refine lv_if_eq (tgt := 148) hx hb dX5_land_140 (by decide) (fun c10 => ?_) (fun c10 => ?_)
                · replace h := (if_pos c10).symm.trans h
                  refine lv_aload_n hx hb dX5_land_148 rfl (lv_at hl 2 rfl) ?_
                  refine lv_aload_n hx hb dX5_land_149 rfl (lv_at hl 2 rfl) ?_
                  refine m_get hx hb hts hown hKv hM (fun _ h => List.mem_cons_of_mem _ (List.mem_append_right _ (h))) (by decide) at_X5 rfl 5 (by decide) k0 (v := .int (x8.2.1 0 5)) rfl dX5_land_150 ?_
                  refine lv_iconst (v := (3 : Int32)) hx hb dX5_land_153 (by decide) ?_
                  refine lv_icmp_ne (tgt := 161) hx hb dX5_land_154 (by decide) (fun c11 => ?_) (fun c11 => ?_)
                  · replace h := (if_neg c11).symm.trans h
                    refine lv_iconst (v := (0 : Int32)) hx hb dX5_land_161 (by decide) ?_
                    obtain ⟨x12, hx12, h⟩ := Option.bind_eq_some_iff.mp h
                    refine m_callV (As := [.int (0 : Int32)]) (st1 := [.int x12.1]) hx hb (hml.trans hl.1.symm) hown hts hKv hXs hXk hM (kX5_takes l D cI cZ ad hX0 (0 : Int32) x8.2 _ hx12) (cwV 1 hts gX5_land_X5_takes rfl rfl rfl (by decide +kernel) ⟨Nat.le_of_ble_eq_true rfl, Nat.le_of_ble_eq_true rfl⟩) (by decide) at_X5 rfl rfl rfl rfl (Nat.le_of_ble_eq_true rfl) dX5_land_162 ⟨Nat.zero_le _, Nat.zero_le _⟩ (fun H locs hM => ?_)
                    refine lv_pop hx hb dX5_land_165 rfl ?_
                    refine lv_iinc (v := (v1 + 1)) (lv' := [(1, .int (v1 + 1)), (3, .int x8.1), (2, .int (0 : Int32)), (0, .ref (ad 0))]) hx hb dX5_land_166 hl (k := 3) rfl rfl (by decide) rfl (fun ls hl => ?_)
                    refine lv_goto (tgt := 36) hx hb dX5_land_169 (by decide) ?_
                    exact ih _ _ h _ _ _ (lv_sub hl [3, 0] rfl) hM
                  · replace h := (if_pos c11).symm.trans h
                    refine lv_iconst (v := (1 : Int32)) hx hb dX5_land_157 (by decide) ?_
                    refine lv_goto (tgt := 162) hx hb dX5_land_158 (by decide) ?_
                    obtain ⟨x13, hx13, h⟩ := Option.bind_eq_some_iff.mp h
                    refine m_callV (As := [.int (1 : Int32)]) (st1 := [.int x13.1]) hx hb (hml.trans hl.1.symm) hown hts hKv hXs hXk hM (kX5_takes l D cI cZ ad hX0 (1 : Int32) x8.2 _ hx13) (cwV 1 hts gX5_land_X5_takes rfl rfl rfl (by decide +kernel) ⟨Nat.le_of_ble_eq_true rfl, Nat.le_of_ble_eq_true rfl⟩) (by decide) at_X5 rfl rfl rfl rfl (Nat.le_of_ble_eq_true rfl) dX5_land_162 ⟨Nat.zero_le _, Nat.zero_le _⟩ (fun H locs hM => ?_)
                    refine lv_pop hx hb dX5_land_165 rfl ?_
                    refine lv_iinc (v := (v1 + 1)) (lv' := [(1, .int (v1 + 1)), (3, .int x8.1), (2, .int (0 : Int32)), (0, .ref (ad 0))]) hx hb dX5_land_166 hl (k := 3) rfl rfl (by decide) rfl (fun ls hl => ?_)
                    refine lv_goto (tgt := 36) hx hb dX5_land_169 (by decide) ?_
                    exact ih _ _ h _ _ _ (lv_sub hl [3, 0] rfl) hM
                · replace h := (if_neg c10).symm.trans h
                  refine lv_aload_n hx hb dX5_land_143 rfl (lv_at hl 2 rfl) ?_
                  refine lv_iload_n hx hb dX5_land_144 rfl (lv_at hl 0 rfl) ?_
                  obtain ⟨x14, hx14, h⟩ := Option.bind_eq_some_iff.mp h
                  refine m_callV (As := [.int x8.1]) (st1 := []) hx hb (hml.trans hl.1.symm) hown hts hKv hXs hXk hM (kX5_readsItem l D cI cZ ad hX0 x8.1 x8.2 _ hx14) (cwV 1 hts gX5_land_X5_readsItem rfl rfl rfl (by decide +kernel) ⟨Nat.le_of_ble_eq_true rfl, Nat.le_of_ble_eq_true rfl⟩) (by decide) at_X5 rfl rfl rfl rfl (Nat.le_of_ble_eq_true rfl) dX5_land_145 ⟨Nat.zero_le _, Nat.zero_le _⟩ (fun H locs hM => ?_)
                  refine lv_aload_n hx hb dX5_land_148 rfl (lv_at hl 2 rfl) ?_
                  refine lv_aload_n hx hb dX5_land_149 rfl (lv_at hl 2 rfl) ?_
                  refine m_get hx hb hts hown hKv hM (fun _ h => List.mem_cons_of_mem _ (List.mem_append_right _ (h))) (by decide) at_X5 rfl 5 (by decide) k0 (v := .int (x14.1 0 5)) rfl dX5_land_150 ?_
                  refine lv_iconst (v := (3 : Int32)) hx hb dX5_land_153 (by decide) ?_
                  refine lv_icmp_ne (tgt := 161) hx hb dX5_land_154 (by decide) (fun c15 => ?_) (fun c15 => ?_)
                  · replace h := (if_neg c15).symm.trans h
                    refine lv_iconst (v := (0 : Int32)) hx hb dX5_land_161 (by decide) ?_
                    obtain ⟨x16, hx16, h⟩ := Option.bind_eq_some_iff.mp h
                    refine m_callV (As := [.int (0 : Int32)]) (st1 := [.int x16.1]) hx hb (hml.trans hl.1.symm) hown hts hKv hXs hXk hM (kX5_takes l D cI cZ ad hX0 (0 : Int32) x14 _ hx16) (cwV 1 hts gX5_land_X5_takes rfl rfl rfl (by decide +kernel) ⟨Nat.le_of_ble_eq_true rfl, Nat.le_of_ble_eq_true rfl⟩) (by decide) at_X5 rfl rfl rfl rfl (Nat.le_of_ble_eq_true rfl) dX5_land_162 ⟨Nat.zero_le _, Nat.zero_le _⟩ (fun H locs hM => ?_)
                    refine lv_pop hx hb dX5_land_165 rfl ?_
                    refine lv_iinc (v := (v1 + 1)) (lv' := [(1, .int (v1 + 1)), (3, .int x8.1), (2, .int (0 : Int32)), (0, .ref (ad 0))]) hx hb dX5_land_166 hl (k := 3) rfl rfl (by decide) rfl (fun ls hl => ?_)
                    refine lv_goto (tgt := 36) hx hb dX5_land_169 (by decide) ?_
                    exact ih _ _ h _ _ _ (lv_sub hl [3, 0] rfl) hM
                  · replace h := (if_pos c15).symm.trans h
                    refine lv_iconst (v := (1 : Int32)) hx hb dX5_land_157 (by decide) ?_
                    refine lv_goto (tgt := 162) hx hb dX5_land_158 (by decide) ?_
                    obtain ⟨x17, hx17, h⟩ := Option.bind_eq_some_iff.mp h
                    refine m_callV (As := [.int (1 : Int32)]) (st1 := [.int x17.1]) hx hb (hml.trans hl.1.symm) hown hts hKv hXs hXk hM (kX5_takes l D cI cZ ad hX0 (1 : Int32) x14 _ hx17) (cwV 1 hts gX5_land_X5_takes rfl rfl rfl (by decide +kernel) ⟨Nat.le_of_ble_eq_true rfl, Nat.le_of_ble_eq_true rfl⟩) (by decide) at_X5 rfl rfl rfl rfl (Nat.le_of_ble_eq_true rfl) dX5_land_162 ⟨Nat.zero_le _, Nat.zero_le _⟩ (fun H locs hM => ?_)
                    refine lv_pop hx hb dX5_land_165 rfl ?_
                    refine lv_iinc (v := (v1 + 1)) (lv' := [(1, .int (v1 + 1)), (3, .int x8.1), (2, .int (0 : Int32)), (0, .ref (ad 0))]) hx hb dX5_land_166 hl (k := 3) rfl rfl (by decide) rfl (fun ls hl => ?_)
                    refine lv_goto (tgt := 36) hx hb dX5_land_169 (by decide) ?_
                    exact ih _ _ h _ _ _ (lv_sub hl [3, 0] rfl) hM
              · replace h := (if_pos c7).symm.trans h
                refine lv_iload_n hx hb dX5_land_123 rfl (lv_at hl 0 rfl) ?_
                refine lv_if_eq (tgt := 131) hx hb dX5_land_124 (by decide) (fun _ => ?_) (fun c => absurd c (by decide))
                refine lv_iconst (v := (0 : Int32)) hx hb dX5_land_131 (by decide) ?_
                obtain ⟨x18, hx18, h⟩ := Option.bind_eq_some_iff.mp h
                refine m_callV (As := [.int (0 : Int32)]) (st1 := [.int x18.1]) hx hb (hml.trans hl.1.symm) hown hts hKv hXs hXk hM (kX5_takes l D cI cZ ad hX0 (0 : Int32) M _ hx18) (cwV 1 hts gX5_land_X5_takes rfl rfl rfl (by decide +kernel) ⟨Nat.le_of_ble_eq_true rfl, Nat.le_of_ble_eq_true rfl⟩) (by decide) at_X5 rfl rfl rfl rfl (Nat.le_of_ble_eq_true rfl) dX5_land_132 ⟨Nat.zero_le _, Nat.zero_le _⟩ (fun H locs hM => ?_)
                refine lv_istore_n (lv' := [(3, .int x18.1), (2, .int (0 : Int32)), (0, .ref (ad 0)), (1, .int v1)]) hx hb dX5_land_135 rfl hl (by decide) rfl (fun ls hl => ?_)
                refine lv_aload_n hx hb dX5_land_136 rfl (lv_at hl 2 rfl) ?_
                obtain ⟨x19, hx19, h⟩ := Option.bind_eq_some_iff.mp h
                refine m_callV (As := []) (st1 := [.int x19]) hx hb (hml.trans hl.1.symm) hown hts hKv hXs hXk hM (kX5_isWell l D cI cZ ad hX0  x18.2 _ hx19) (cwV 0 hts gX5_land_X5_isWell rfl rfl rfl (by decide +kernel) ⟨Nat.le_of_ble_eq_true rfl, Nat.le_of_ble_eq_true rfl⟩) (by decide) at_X5 rfl rfl rfl rfl (Nat.le_of_ble_eq_true rfl) dX5_land_137 ⟨Nat.zero_le _, Nat.zero_le _⟩ (fun H locs hM => ?_)
                refine lv_if_eq (tgt := 148) hx hb dX5_land_140 (by decide) (fun c20 => ?_) (fun c20 => ?_)
                · replace h := (if_pos c20).symm.trans h
                  refine lv_aload_n hx hb dX5_land_148 rfl (lv_at hl 2 rfl) ?_
                  refine lv_aload_n hx hb dX5_land_149 rfl (lv_at hl 2 rfl) ?_
                  refine m_get hx hb hts hown hKv hM (fun _ h => List.mem_cons_of_mem _ (List.mem_append_right _ (h))) (by decide) at_X5 rfl 5 (by decide) k0 (v := .int (x18.2.1 0 5)) rfl dX5_land_150 ?_
                  refine lv_iconst (v := (3 : Int32)) hx hb dX5_land_153 (by decide) ?_
                  refine lv_icmp_ne (tgt := 161) hx hb dX5_land_154 (by decide) (fun c21 => ?_) (fun c21 => ?_)
                  · replace h := (if_neg c21).symm.trans h
                    refine lv_iconst (v := (0 : Int32)) hx hb dX5_land_161 (by decide) ?_
                    obtain ⟨x22, hx22, h⟩ := Option.bind_eq_some_iff.mp h
                    refine m_callV (As := [.int (0 : Int32)]) (st1 := [.int x22.1]) hx hb (hml.trans hl.1.symm) hown hts hKv hXs hXk hM (kX5_takes l D cI cZ ad hX0 (0 : Int32) x18.2 _ hx22) (cwV 1 hts gX5_land_X5_takes rfl rfl rfl (by decide +kernel) ⟨Nat.le_of_ble_eq_true rfl, Nat.le_of_ble_eq_true rfl⟩) (by decide) at_X5 rfl rfl rfl rfl (Nat.le_of_ble_eq_true rfl) dX5_land_162 ⟨Nat.zero_le _, Nat.zero_le _⟩ (fun H locs hM => ?_)
                    refine lv_pop hx hb dX5_land_165 rfl ?_
                    refine lv_iinc (v := (v1 + 1)) (lv' := [(1, .int (v1 + 1)), (3, .int x18.1), (2, .int (0 : Int32)), (0, .ref (ad 0))]) hx hb dX5_land_166 hl (k := 3) rfl rfl (by decide) rfl (fun ls hl => ?_)
                    refine lv_goto (tgt := 36) hx hb dX5_land_169 (by decide) ?_
                    exact ih _ _ h _ _ _ (lv_sub hl [3, 0] rfl) hM
                  · replace h := (if_pos c21).symm.trans h
                    refine lv_iconst (v := (1 : Int32)) hx hb dX5_land_157 (by decide) ?_
                    refine lv_goto (tgt := 162) hx hb dX5_land_158 (by decide) ?_
                    obtain ⟨x23, hx23, h⟩ := Option.bind_eq_some_iff.mp h
                    refine m_callV (As := [.int (1 : Int32)]) (st1 := [.int x23.1]) hx hb (hml.trans hl.1.symm) hown hts hKv hXs hXk hM (kX5_takes l D cI cZ ad hX0 (1 : Int32) x18.2 _ hx23) (cwV 1 hts gX5_land_X5_takes rfl rfl rfl (by decide +kernel) ⟨Nat.le_of_ble_eq_true rfl, Nat.le_of_ble_eq_true rfl⟩) (by decide) at_X5 rfl rfl rfl rfl (Nat.le_of_ble_eq_true rfl) dX5_land_162 ⟨Nat.zero_le _, Nat.zero_le _⟩ (fun H locs hM => ?_)
                    refine lv_pop hx hb dX5_land_165 rfl ?_
                    refine lv_iinc (v := (v1 + 1)) (lv' := [(1, .int (v1 + 1)), (3, .int x18.1), (2, .int (0 : Int32)), (0, .ref (ad 0))]) hx hb dX5_land_166 hl (k := 3) rfl rfl (by decide) rfl (fun ls hl => ?_)
                    refine lv_goto (tgt := 36) hx hb dX5_land_169 (by decide) ?_
                    exact ih _ _ h _ _ _ (lv_sub hl [3, 0] rfl) hM
                · replace h := (if_neg c20).symm.trans h
                  refine lv_aload_n hx hb dX5_land_143 rfl (lv_at hl 2 rfl) ?_
                  refine lv_iload_n hx hb dX5_land_144 rfl (lv_at hl 0 rfl) ?_
                  obtain ⟨x24, hx24, h⟩ := Option.bind_eq_some_iff.mp h
                  refine m_callV (As := [.int x18.1]) (st1 := []) hx hb (hml.trans hl.1.symm) hown hts hKv hXs hXk hM (kX5_readsItem l D cI cZ ad hX0 x18.1 x18.2 _ hx24) (cwV 1 hts gX5_land_X5_readsItem rfl rfl rfl (by decide +kernel) ⟨Nat.le_of_ble_eq_true rfl, Nat.le_of_ble_eq_true rfl⟩) (by decide) at_X5 rfl rfl rfl rfl (Nat.le_of_ble_eq_true rfl) dX5_land_145 ⟨Nat.zero_le _, Nat.zero_le _⟩ (fun H locs hM => ?_)
                  refine lv_aload_n hx hb dX5_land_148 rfl (lv_at hl 2 rfl) ?_
                  refine lv_aload_n hx hb dX5_land_149 rfl (lv_at hl 2 rfl) ?_
                  refine m_get hx hb hts hown hKv hM (fun _ h => List.mem_cons_of_mem _ (List.mem_append_right _ (h))) (by decide) at_X5 rfl 5 (by decide) k0 (v := .int (x24.1 0 5)) rfl dX5_land_150 ?_
                  refine lv_iconst (v := (3 : Int32)) hx hb dX5_land_153 (by decide) ?_
                  refine lv_icmp_ne (tgt := 161) hx hb dX5_land_154 (by decide) (fun c25 => ?_) (fun c25 => ?_)
                  · replace h := (if_neg c25).symm.trans h
                    refine lv_iconst (v := (0 : Int32)) hx hb dX5_land_161 (by decide) ?_
                    obtain ⟨x26, hx26, h⟩ := Option.bind_eq_some_iff.mp h
                    refine m_callV (As := [.int (0 : Int32)]) (st1 := [.int x26.1]) hx hb (hml.trans hl.1.symm) hown hts hKv hXs hXk hM (kX5_takes l D cI cZ ad hX0 (0 : Int32) x24 _ hx26) (cwV 1 hts gX5_land_X5_takes rfl rfl rfl (by decide +kernel) ⟨Nat.le_of_ble_eq_true rfl, Nat.le_of_ble_eq_true rfl⟩) (by decide) at_X5 rfl rfl rfl rfl (Nat.le_of_ble_eq_true rfl) dX5_land_162 ⟨Nat.zero_le _, Nat.zero_le _⟩ (fun H locs hM => ?_)
                    refine lv_pop hx hb dX5_land_165 rfl ?_
                    refine lv_iinc (v := (v1 + 1)) (lv' := [(1, .int (v1 + 1)), (3, .int x18.1), (2, .int (0 : Int32)), (0, .ref (ad 0))]) hx hb dX5_land_166 hl (k := 3) rfl rfl (by decide) rfl (fun ls hl => ?_)
                    refine lv_goto (tgt := 36) hx hb dX5_land_169 (by decide) ?_
                    exact ih _ _ h _ _ _ (lv_sub hl [3, 0] rfl) hM
                  · replace h := (if_pos c25).symm.trans h
                    refine lv_iconst (v := (1 : Int32)) hx hb dX5_land_157 (by decide) ?_
                    refine lv_goto (tgt := 162) hx hb dX5_land_158 (by decide) ?_
                    obtain ⟨x27, hx27, h⟩ := Option.bind_eq_some_iff.mp h
                    refine m_callV (As := [.int (1 : Int32)]) (st1 := [.int x27.1]) hx hb (hml.trans hl.1.symm) hown hts hKv hXs hXk hM (kX5_takes l D cI cZ ad hX0 (1 : Int32) x24 _ hx27) (cwV 1 hts gX5_land_X5_takes rfl rfl rfl (by decide +kernel) ⟨Nat.le_of_ble_eq_true rfl, Nat.le_of_ble_eq_true rfl⟩) (by decide) at_X5 rfl rfl rfl rfl (Nat.le_of_ble_eq_true rfl) dX5_land_162 ⟨Nat.zero_le _, Nat.zero_le _⟩ (fun H locs hM => ?_)
                    refine lv_pop hx hb dX5_land_165 rfl ?_
                    refine lv_iinc (v := (v1 + 1)) (lv' := [(1, .int (v1 + 1)), (3, .int x18.1), (2, .int (0 : Int32)), (0, .ref (ad 0))]) hx hb dX5_land_166 hl (k := 3) rfl rfl (by decide) rfl (fun ls hl => ?_)
                    refine lv_goto (tgt := 36) hx hb dX5_land_169 (by decide) ?_
                    exact ih _ _ h _ _ _ (lv_sub hl [3, 0] rfl) hM
            · replace h := (if_neg c6).symm.trans h
              refine lv_iconst (v := (1 : Int32)) hx hb dX5_land_108 (by decide) ?_
              refine lv_goto (tgt := 113) hx hb dX5_land_109 (by decide) ?_
              refine lv_istore_n (lv' := [(2, .int (1 : Int32)), (0, .ref (ad 0)), (1, .int v1)]) hx hb dX5_land_113 rfl hl (by decide) rfl (fun ls hl => ?_)
              refine lv_aload_n hx hb dX5_land_114 rfl (lv_at hl 1 rfl) ?_
              refine lv_aload_n hx hb dX5_land_115 rfl (lv_at hl 1 rfl) ?_
              refine m_get hx hb hts hown hKv hM (fun _ h => List.mem_cons_of_mem _ (List.mem_append_right _ (h))) (by decide) at_X5 rfl 5 (by decide) k0 (v := .int (M.1 0 5)) rfl dX5_land_116 ?_
              refine lv_iconst (v := (1 : Int32)) hx hb dX5_land_119 (by decide) ?_
              refine lv_icmp_ne (tgt := 131) hx hb dX5_land_120 (by decide) (fun c28 => ?_) (fun c28 => ?_)
              · replace h := (if_neg c28).symm.trans h
                refine lv_iconst (v := (0 : Int32)) hx hb dX5_land_131 (by decide) ?_
                obtain ⟨x29, hx29, h⟩ := Option.bind_eq_some_iff.mp h
                refine m_callV (As := [.int (0 : Int32)]) (st1 := [.int x29.1]) hx hb (hml.trans hl.1.symm) hown hts hKv hXs hXk hM (kX5_takes l D cI cZ ad hX0 (0 : Int32) M _ hx29) (cwV 1 hts gX5_land_X5_takes rfl rfl rfl (by decide +kernel) ⟨Nat.le_of_ble_eq_true rfl, Nat.le_of_ble_eq_true rfl⟩) (by decide) at_X5 rfl rfl rfl rfl (Nat.le_of_ble_eq_true rfl) dX5_land_132 ⟨Nat.zero_le _, Nat.zero_le _⟩ (fun H locs hM => ?_)
                refine lv_istore_n (lv' := [(3, .int x29.1), (2, .int (1 : Int32)), (0, .ref (ad 0)), (1, .int v1)]) hx hb dX5_land_135 rfl hl (by decide) rfl (fun ls hl => ?_)
                refine lv_aload_n hx hb dX5_land_136 rfl (lv_at hl 2 rfl) ?_
                obtain ⟨x30, hx30, h⟩ := Option.bind_eq_some_iff.mp h
                refine m_callV (As := []) (st1 := [.int x30]) hx hb (hml.trans hl.1.symm) hown hts hKv hXs hXk hM (kX5_isWell l D cI cZ ad hX0  x29.2 _ hx30) (cwV 0 hts gX5_land_X5_isWell rfl rfl rfl (by decide +kernel) ⟨Nat.le_of_ble_eq_true rfl, Nat.le_of_ble_eq_true rfl⟩) (by decide) at_X5 rfl rfl rfl rfl (Nat.le_of_ble_eq_true rfl) dX5_land_137 ⟨Nat.zero_le _, Nat.zero_le _⟩ (fun H locs hM => ?_)
                refine lv_if_eq (tgt := 148) hx hb dX5_land_140 (by decide) (fun c31 => ?_) (fun c31 => ?_)
                · replace h := (if_pos c31).symm.trans h
                  refine lv_aload_n hx hb dX5_land_148 rfl (lv_at hl 2 rfl) ?_
                  refine lv_aload_n hx hb dX5_land_149 rfl (lv_at hl 2 rfl) ?_
                  refine m_get hx hb hts hown hKv hM (fun _ h => List.mem_cons_of_mem _ (List.mem_append_right _ (h))) (by decide) at_X5 rfl 5 (by decide) k0 (v := .int (x29.2.1 0 5)) rfl dX5_land_150 ?_
                  refine lv_iconst (v := (3 : Int32)) hx hb dX5_land_153 (by decide) ?_
                  refine lv_icmp_ne (tgt := 161) hx hb dX5_land_154 (by decide) (fun c32 => ?_) (fun c32 => ?_)
                  · replace h := (if_neg c32).symm.trans h
                    refine lv_iconst (v := (0 : Int32)) hx hb dX5_land_161 (by decide) ?_
                    obtain ⟨x33, hx33, h⟩ := Option.bind_eq_some_iff.mp h
                    refine m_callV (As := [.int (0 : Int32)]) (st1 := [.int x33.1]) hx hb (hml.trans hl.1.symm) hown hts hKv hXs hXk hM (kX5_takes l D cI cZ ad hX0 (0 : Int32) x29.2 _ hx33) (cwV 1 hts gX5_land_X5_takes rfl rfl rfl (by decide +kernel) ⟨Nat.le_of_ble_eq_true rfl, Nat.le_of_ble_eq_true rfl⟩) (by decide) at_X5 rfl rfl rfl rfl (Nat.le_of_ble_eq_true rfl) dX5_land_162 ⟨Nat.zero_le _, Nat.zero_le _⟩ (fun H locs hM => ?_)
                    refine lv_pop hx hb dX5_land_165 rfl ?_
                    refine lv_iinc (v := (v1 + 1)) (lv' := [(1, .int (v1 + 1)), (3, .int x29.1), (2, .int (1 : Int32)), (0, .ref (ad 0))]) hx hb dX5_land_166 hl (k := 3) rfl rfl (by decide) rfl (fun ls hl => ?_)
                    refine lv_goto (tgt := 36) hx hb dX5_land_169 (by decide) ?_
                    exact ih _ _ h _ _ _ (lv_sub hl [3, 0] rfl) hM
                  · replace h := (if_pos c32).symm.trans h
                    refine lv_iconst (v := (1 : Int32)) hx hb dX5_land_157 (by decide) ?_
                    refine lv_goto (tgt := 162) hx hb dX5_land_158 (by decide) ?_
                    obtain ⟨x34, hx34, h⟩ := Option.bind_eq_some_iff.mp h
                    refine m_callV (As := [.int (1 : Int32)]) (st1 := [.int x34.1]) hx hb (hml.trans hl.1.symm) hown hts hKv hXs hXk hM (kX5_takes l D cI cZ ad hX0 (1 : Int32) x29.2 _ hx34) (cwV 1 hts gX5_land_X5_takes rfl rfl rfl (by decide +kernel) ⟨Nat.le_of_ble_eq_true rfl, Nat.le_of_ble_eq_true rfl⟩) (by decide) at_X5 rfl rfl rfl rfl (Nat.le_of_ble_eq_true rfl) dX5_land_162 ⟨Nat.zero_le _, Nat.zero_le _⟩ (fun H locs hM => ?_)
                    refine lv_pop hx hb dX5_land_165 rfl ?_
                    refine lv_iinc (v := (v1 + 1)) (lv' := [(1, .int (v1 + 1)), (3, .int x29.1), (2, .int (1 : Int32)), (0, .ref (ad 0))]) hx hb dX5_land_166 hl (k := 3) rfl rfl (by decide) rfl (fun ls hl => ?_)
                    refine lv_goto (tgt := 36) hx hb dX5_land_169 (by decide) ?_
                    exact ih _ _ h _ _ _ (lv_sub hl [3, 0] rfl) hM
                · replace h := (if_neg c31).symm.trans h
                  refine lv_aload_n hx hb dX5_land_143 rfl (lv_at hl 2 rfl) ?_
                  refine lv_iload_n hx hb dX5_land_144 rfl (lv_at hl 0 rfl) ?_
                  obtain ⟨x35, hx35, h⟩ := Option.bind_eq_some_iff.mp h
                  refine m_callV (As := [.int x29.1]) (st1 := []) hx hb (hml.trans hl.1.symm) hown hts hKv hXs hXk hM (kX5_readsItem l D cI cZ ad hX0 x29.1 x29.2 _ hx35) (cwV 1 hts gX5_land_X5_readsItem rfl rfl rfl (by decide +kernel) ⟨Nat.le_of_ble_eq_true rfl, Nat.le_of_ble_eq_true rfl⟩) (by decide) at_X5 rfl rfl rfl rfl (Nat.le_of_ble_eq_true rfl) dX5_land_145 ⟨Nat.zero_le _, Nat.zero_le _⟩ (fun H locs hM => ?_)
                  refine lv_aload_n hx hb dX5_land_148 rfl (lv_at hl 2 rfl) ?_
                  refine lv_aload_n hx hb dX5_land_149 rfl (lv_at hl 2 rfl) ?_
                  refine m_get hx hb hts hown hKv hM (fun _ h => List.mem_cons_of_mem _ (List.mem_append_right _ (h))) (by decide) at_X5 rfl 5 (by decide) k0 (v := .int (x35.1 0 5)) rfl dX5_land_150 ?_
                  refine lv_iconst (v := (3 : Int32)) hx hb dX5_land_153 (by decide) ?_
                  refine lv_icmp_ne (tgt := 161) hx hb dX5_land_154 (by decide) (fun c36 => ?_) (fun c36 => ?_)
                  · replace h := (if_neg c36).symm.trans h
                    refine lv_iconst (v := (0 : Int32)) hx hb dX5_land_161 (by decide) ?_
                    obtain ⟨x37, hx37, h⟩ := Option.bind_eq_some_iff.mp h
                    refine m_callV (As := [.int (0 : Int32)]) (st1 := [.int x37.1]) hx hb (hml.trans hl.1.symm) hown hts hKv hXs hXk hM (kX5_takes l D cI cZ ad hX0 (0 : Int32) x35 _ hx37) (cwV 1 hts gX5_land_X5_takes rfl rfl rfl (by decide +kernel) ⟨Nat.le_of_ble_eq_true rfl, Nat.le_of_ble_eq_true rfl⟩) (by decide) at_X5 rfl rfl rfl rfl (Nat.le_of_ble_eq_true rfl) dX5_land_162 ⟨Nat.zero_le _, Nat.zero_le _⟩ (fun H locs hM => ?_)
                    refine lv_pop hx hb dX5_land_165 rfl ?_
                    refine lv_iinc (v := (v1 + 1)) (lv' := [(1, .int (v1 + 1)), (3, .int x29.1), (2, .int (1 : Int32)), (0, .ref (ad 0))]) hx hb dX5_land_166 hl (k := 3) rfl rfl (by decide) rfl (fun ls hl => ?_)
                    refine lv_goto (tgt := 36) hx hb dX5_land_169 (by decide) ?_
                    exact ih _ _ h _ _ _ (lv_sub hl [3, 0] rfl) hM
                  · replace h := (if_pos c36).symm.trans h
                    refine lv_iconst (v := (1 : Int32)) hx hb dX5_land_157 (by decide) ?_
                    refine lv_goto (tgt := 162) hx hb dX5_land_158 (by decide) ?_
                    obtain ⟨x38, hx38, h⟩ := Option.bind_eq_some_iff.mp h
                    refine m_callV (As := [.int (1 : Int32)]) (st1 := [.int x38.1]) hx hb (hml.trans hl.1.symm) hown hts hKv hXs hXk hM (kX5_takes l D cI cZ ad hX0 (1 : Int32) x35 _ hx38) (cwV 1 hts gX5_land_X5_takes rfl rfl rfl (by decide +kernel) ⟨Nat.le_of_ble_eq_true rfl, Nat.le_of_ble_eq_true rfl⟩) (by decide) at_X5 rfl rfl rfl rfl (Nat.le_of_ble_eq_true rfl) dX5_land_162 ⟨Nat.zero_le _, Nat.zero_le _⟩ (fun H locs hM => ?_)
                    refine lv_pop hx hb dX5_land_165 rfl ?_
                    refine lv_iinc (v := (v1 + 1)) (lv' := [(1, .int (v1 + 1)), (3, .int x29.1), (2, .int (1 : Int32)), (0, .ref (ad 0))]) hx hb dX5_land_166 hl (k := 3) rfl rfl (by decide) rfl (fun ls hl => ?_)
                    refine lv_goto (tgt := 36) hx hb dX5_land_169 (by decide) ?_
                    exact ih _ _ h _ _ _ (lv_sub hl [3, 0] rfl) hM
              · replace h := (if_pos c28).symm.trans h
                refine lv_iload_n hx hb dX5_land_123 rfl (lv_at hl 0 rfl) ?_
                refine lv_if_eq (tgt := 131) hx hb dX5_land_124 (by decide) (fun c => absurd c (by decide)) (fun _ => ?_)
                refine lv_iconst (v := (1 : Int32)) hx hb dX5_land_127 (by decide) ?_
                refine lv_goto (tgt := 132) hx hb dX5_land_128 (by decide) ?_
                obtain ⟨x39, hx39, h⟩ := Option.bind_eq_some_iff.mp h
                refine m_callV (As := [.int (1 : Int32)]) (st1 := [.int x39.1]) hx hb (hml.trans hl.1.symm) hown hts hKv hXs hXk hM (kX5_takes l D cI cZ ad hX0 (1 : Int32) M _ hx39) (cwV 1 hts gX5_land_X5_takes rfl rfl rfl (by decide +kernel) ⟨Nat.le_of_ble_eq_true rfl, Nat.le_of_ble_eq_true rfl⟩) (by decide) at_X5 rfl rfl rfl rfl (Nat.le_of_ble_eq_true rfl) dX5_land_132 ⟨Nat.zero_le _, Nat.zero_le _⟩ (fun H locs hM => ?_)
                refine lv_istore_n (lv' := [(3, .int x39.1), (2, .int (1 : Int32)), (0, .ref (ad 0)), (1, .int v1)]) hx hb dX5_land_135 rfl hl (by decide) rfl (fun ls hl => ?_)
                refine lv_aload_n hx hb dX5_land_136 rfl (lv_at hl 2 rfl) ?_
                obtain ⟨x40, hx40, h⟩ := Option.bind_eq_some_iff.mp h
                refine m_callV (As := []) (st1 := [.int x40]) hx hb (hml.trans hl.1.symm) hown hts hKv hXs hXk hM (kX5_isWell l D cI cZ ad hX0  x39.2 _ hx40) (cwV 0 hts gX5_land_X5_isWell rfl rfl rfl (by decide +kernel) ⟨Nat.le_of_ble_eq_true rfl, Nat.le_of_ble_eq_true rfl⟩) (by decide) at_X5 rfl rfl rfl rfl (Nat.le_of_ble_eq_true rfl) dX5_land_137 ⟨Nat.zero_le _, Nat.zero_le _⟩ (fun H locs hM => ?_)
                refine lv_if_eq (tgt := 148) hx hb dX5_land_140 (by decide) (fun c41 => ?_) (fun c41 => ?_)
                · replace h := (if_pos c41).symm.trans h
                  refine lv_aload_n hx hb dX5_land_148 rfl (lv_at hl 2 rfl) ?_
                  refine lv_aload_n hx hb dX5_land_149 rfl (lv_at hl 2 rfl) ?_
                  refine m_get hx hb hts hown hKv hM (fun _ h => List.mem_cons_of_mem _ (List.mem_append_right _ (h))) (by decide) at_X5 rfl 5 (by decide) k0 (v := .int (x39.2.1 0 5)) rfl dX5_land_150 ?_
                  refine lv_iconst (v := (3 : Int32)) hx hb dX5_land_153 (by decide) ?_
                  refine lv_icmp_ne (tgt := 161) hx hb dX5_land_154 (by decide) (fun c42 => ?_) (fun c42 => ?_)
                  · replace h := (if_neg c42).symm.trans h
                    refine lv_iconst (v := (0 : Int32)) hx hb dX5_land_161 (by decide) ?_
                    obtain ⟨x43, hx43, h⟩ := Option.bind_eq_some_iff.mp h
                    refine m_callV (As := [.int (0 : Int32)]) (st1 := [.int x43.1]) hx hb (hml.trans hl.1.symm) hown hts hKv hXs hXk hM (kX5_takes l D cI cZ ad hX0 (0 : Int32) x39.2 _ hx43) (cwV 1 hts gX5_land_X5_takes rfl rfl rfl (by decide +kernel) ⟨Nat.le_of_ble_eq_true rfl, Nat.le_of_ble_eq_true rfl⟩) (by decide) at_X5 rfl rfl rfl rfl (Nat.le_of_ble_eq_true rfl) dX5_land_162 ⟨Nat.zero_le _, Nat.zero_le _⟩ (fun H locs hM => ?_)
                    refine lv_pop hx hb dX5_land_165 rfl ?_
                    refine lv_iinc (v := (v1 + 1)) (lv' := [(1, .int (v1 + 1)), (3, .int x39.1), (2, .int (1 : Int32)), (0, .ref (ad 0))]) hx hb dX5_land_166 hl (k := 3) rfl rfl (by decide) rfl (fun ls hl => ?_)
                    refine lv_goto (tgt := 36) hx hb dX5_land_169 (by decide) ?_
                    exact ih _ _ h _ _ _ (lv_sub hl [3, 0] rfl) hM
                  · replace h := (if_pos c42).symm.trans h
                    refine lv_iconst (v := (1 : Int32)) hx hb dX5_land_157 (by decide) ?_
                    refine lv_goto (tgt := 162) hx hb dX5_land_158 (by decide) ?_
                    obtain ⟨x44, hx44, h⟩ := Option.bind_eq_some_iff.mp h
                    refine m_callV (As := [.int (1 : Int32)]) (st1 := [.int x44.1]) hx hb (hml.trans hl.1.symm) hown hts hKv hXs hXk hM (kX5_takes l D cI cZ ad hX0 (1 : Int32) x39.2 _ hx44) (cwV 1 hts gX5_land_X5_takes rfl rfl rfl (by decide +kernel) ⟨Nat.le_of_ble_eq_true rfl, Nat.le_of_ble_eq_true rfl⟩) (by decide) at_X5 rfl rfl rfl rfl (Nat.le_of_ble_eq_true rfl) dX5_land_162 ⟨Nat.zero_le _, Nat.zero_le _⟩ (fun H locs hM => ?_)
                    refine lv_pop hx hb dX5_land_165 rfl ?_
                    refine lv_iinc (v := (v1 + 1)) (lv' := [(1, .int (v1 + 1)), (3, .int x39.1), (2, .int (1 : Int32)), (0, .ref (ad 0))]) hx hb dX5_land_166 hl (k := 3) rfl rfl (by decide) rfl (fun ls hl => ?_)
                    refine lv_goto (tgt := 36) hx hb dX5_land_169 (by decide) ?_
                    exact ih _ _ h _ _ _ (lv_sub hl [3, 0] rfl) hM
                · replace h := (if_neg c41).symm.trans h
                  refine lv_aload_n hx hb dX5_land_143 rfl (lv_at hl 2 rfl) ?_
                  refine lv_iload_n hx hb dX5_land_144 rfl (lv_at hl 0 rfl) ?_
                  obtain ⟨x45, hx45, h⟩ := Option.bind_eq_some_iff.mp h
                  refine m_callV (As := [.int x39.1]) (st1 := []) hx hb (hml.trans hl.1.symm) hown hts hKv hXs hXk hM (kX5_readsItem l D cI cZ ad hX0 x39.1 x39.2 _ hx45) (cwV 1 hts gX5_land_X5_readsItem rfl rfl rfl (by decide +kernel) ⟨Nat.le_of_ble_eq_true rfl, Nat.le_of_ble_eq_true rfl⟩) (by decide) at_X5 rfl rfl rfl rfl (Nat.le_of_ble_eq_true rfl) dX5_land_145 ⟨Nat.zero_le _, Nat.zero_le _⟩ (fun H locs hM => ?_)
                  refine lv_aload_n hx hb dX5_land_148 rfl (lv_at hl 2 rfl) ?_
                  refine lv_aload_n hx hb dX5_land_149 rfl (lv_at hl 2 rfl) ?_
                  refine m_get hx hb hts hown hKv hM (fun _ h => List.mem_cons_of_mem _ (List.mem_append_right _ (h))) (by decide) at_X5 rfl 5 (by decide) k0 (v := .int (x45.1 0 5)) rfl dX5_land_150 ?_
                  refine lv_iconst (v := (3 : Int32)) hx hb dX5_land_153 (by decide) ?_
                  refine lv_icmp_ne (tgt := 161) hx hb dX5_land_154 (by decide) (fun c46 => ?_) (fun c46 => ?_)
                  · replace h := (if_neg c46).symm.trans h
                    refine lv_iconst (v := (0 : Int32)) hx hb dX5_land_161 (by decide) ?_
                    obtain ⟨x47, hx47, h⟩ := Option.bind_eq_some_iff.mp h
                    refine m_callV (As := [.int (0 : Int32)]) (st1 := [.int x47.1]) hx hb (hml.trans hl.1.symm) hown hts hKv hXs hXk hM (kX5_takes l D cI cZ ad hX0 (0 : Int32) x45 _ hx47) (cwV 1 hts gX5_land_X5_takes rfl rfl rfl (by decide +kernel) ⟨Nat.le_of_ble_eq_true rfl, Nat.le_of_ble_eq_true rfl⟩) (by decide) at_X5 rfl rfl rfl rfl (Nat.le_of_ble_eq_true rfl) dX5_land_162 ⟨Nat.zero_le _, Nat.zero_le _⟩ (fun H locs hM => ?_)
                    refine lv_pop hx hb dX5_land_165 rfl ?_
                    refine lv_iinc (v := (v1 + 1)) (lv' := [(1, .int (v1 + 1)), (3, .int x39.1), (2, .int (1 : Int32)), (0, .ref (ad 0))]) hx hb dX5_land_166 hl (k := 3) rfl rfl (by decide) rfl (fun ls hl => ?_)
                    refine lv_goto (tgt := 36) hx hb dX5_land_169 (by decide) ?_
                    exact ih _ _ h _ _ _ (lv_sub hl [3, 0] rfl) hM
                  · replace h := (if_pos c46).symm.trans h
                    refine lv_iconst (v := (1 : Int32)) hx hb dX5_land_157 (by decide) ?_
                    refine lv_goto (tgt := 162) hx hb dX5_land_158 (by decide) ?_
                    obtain ⟨x48, hx48, h⟩ := Option.bind_eq_some_iff.mp h
                    refine m_callV (As := [.int (1 : Int32)]) (st1 := [.int x48.1]) hx hb (hml.trans hl.1.symm) hown hts hKv hXs hXk hM (kX5_takes l D cI cZ ad hX0 (1 : Int32) x45 _ hx48) (cwV 1 hts gX5_land_X5_takes rfl rfl rfl (by decide +kernel) ⟨Nat.le_of_ble_eq_true rfl, Nat.le_of_ble_eq_true rfl⟩) (by decide) at_X5 rfl rfl rfl rfl (Nat.le_of_ble_eq_true rfl) dX5_land_162 ⟨Nat.zero_le _, Nat.zero_le _⟩ (fun H locs hM => ?_)
                    refine lv_pop hx hb dX5_land_165 rfl ?_
                    refine lv_iinc (v := (v1 + 1)) (lv' := [(1, .int (v1 + 1)), (3, .int x39.1), (2, .int (1 : Int32)), (0, .ref (ad 0))]) hx hb dX5_land_166 hl (k := 3) rfl rfl (by decide) rfl (fun ls hl => ?_)
                    refine lv_goto (tgt := 36) hx hb dX5_land_169 (by decide) ?_
                    exact ih _ _ h _ _ _ (lv_sub hl [3, 0] rfl) hM
          · replace h := (if_pos c5).symm.trans h
            refine lv_aload_n hx hb dX5_land_82 rfl (lv_at hl 0 rfl) ?_
            refine m_get hx hb hts hown hKv hM (fun _ h => List.mem_cons_of_mem _ (List.mem_append_right _ (h))) (by decide) at_X5 rfl 17 (by decide) k3 (v := .int (M.1 0 17)) rfl dX5_land_83 ?_
            refine lv_bipush (v := (10 : Int32)) hx hb dX5_land_86 (by decide) ?_
            refine lv_icmp_ge (tgt := 95) hx hb dX5_land_88 (by decide) (fun c49 => ?_) (fun c49 => ?_)
            · replace h := (if_pos c49).symm.trans h
              refine lv_iconst (v := (0 : Int32)) hx hb dX5_land_95 (by decide) ?_
              refine lv_goto (tgt := 113) hx hb dX5_land_96 (by decide) ?_
              refine lv_istore_n (lv' := [(2, .int (0 : Int32)), (0, .ref (ad 0)), (1, .int v1)]) hx hb dX5_land_113 rfl hl (by decide) rfl (fun ls hl => ?_)
              refine lv_aload_n hx hb dX5_land_114 rfl (lv_at hl 1 rfl) ?_
              refine lv_aload_n hx hb dX5_land_115 rfl (lv_at hl 1 rfl) ?_
              refine m_get hx hb hts hown hKv hM (fun _ h => List.mem_cons_of_mem _ (List.mem_append_right _ (h))) (by decide) at_X5 rfl 5 (by decide) k0 (v := .int (M.1 0 5)) rfl dX5_land_116 ?_
              refine lv_iconst (v := (1 : Int32)) hx hb dX5_land_119 (by decide) ?_
              refine lv_icmp_ne (tgt := 131) hx hb dX5_land_120 (by decide) (fun c50 => ?_) (fun c50 => ?_)
              · replace h := (if_neg c50).symm.trans h
                refine lv_iconst (v := (0 : Int32)) hx hb dX5_land_131 (by decide) ?_
                obtain ⟨x51, hx51, h⟩ := Option.bind_eq_some_iff.mp h
                refine m_callV (As := [.int (0 : Int32)]) (st1 := [.int x51.1]) hx hb (hml.trans hl.1.symm) hown hts hKv hXs hXk hM (kX5_takes l D cI cZ ad hX0 (0 : Int32) M _ hx51) (cwV 1 hts gX5_land_X5_takes rfl rfl rfl (by decide +kernel) ⟨Nat.le_of_ble_eq_true rfl, Nat.le_of_ble_eq_true rfl⟩) (by decide) at_X5 rfl rfl rfl rfl (Nat.le_of_ble_eq_true rfl) dX5_land_132 ⟨Nat.zero_le _, Nat.zero_le _⟩ (fun H locs hM => ?_)
                refine lv_istore_n (lv' := [(3, .int x51.1), (2, .int (0 : Int32)), (0, .ref (ad 0)), (1, .int v1)]) hx hb dX5_land_135 rfl hl (by decide) rfl (fun ls hl => ?_)
                refine lv_aload_n hx hb dX5_land_136 rfl (lv_at hl 2 rfl) ?_
                obtain ⟨x52, hx52, h⟩ := Option.bind_eq_some_iff.mp h
                refine m_callV (As := []) (st1 := [.int x52]) hx hb (hml.trans hl.1.symm) hown hts hKv hXs hXk hM (kX5_isWell l D cI cZ ad hX0  x51.2 _ hx52) (cwV 0 hts gX5_land_X5_isWell rfl rfl rfl (by decide +kernel) ⟨Nat.le_of_ble_eq_true rfl, Nat.le_of_ble_eq_true rfl⟩) (by decide) at_X5 rfl rfl rfl rfl (Nat.le_of_ble_eq_true rfl) dX5_land_137 ⟨Nat.zero_le _, Nat.zero_le _⟩ (fun H locs hM => ?_)
                refine lv_if_eq (tgt := 148) hx hb dX5_land_140 (by decide) (fun c53 => ?_) (fun c53 => ?_)
                · replace h := (if_pos c53).symm.trans h
                  refine lv_aload_n hx hb dX5_land_148 rfl (lv_at hl 2 rfl) ?_
                  refine lv_aload_n hx hb dX5_land_149 rfl (lv_at hl 2 rfl) ?_
                  refine m_get hx hb hts hown hKv hM (fun _ h => List.mem_cons_of_mem _ (List.mem_append_right _ (h))) (by decide) at_X5 rfl 5 (by decide) k0 (v := .int (x51.2.1 0 5)) rfl dX5_land_150 ?_
                  refine lv_iconst (v := (3 : Int32)) hx hb dX5_land_153 (by decide) ?_
                  refine lv_icmp_ne (tgt := 161) hx hb dX5_land_154 (by decide) (fun c54 => ?_) (fun c54 => ?_)
                  · replace h := (if_neg c54).symm.trans h
                    refine lv_iconst (v := (0 : Int32)) hx hb dX5_land_161 (by decide) ?_
                    obtain ⟨x55, hx55, h⟩ := Option.bind_eq_some_iff.mp h
                    refine m_callV (As := [.int (0 : Int32)]) (st1 := [.int x55.1]) hx hb (hml.trans hl.1.symm) hown hts hKv hXs hXk hM (kX5_takes l D cI cZ ad hX0 (0 : Int32) x51.2 _ hx55) (cwV 1 hts gX5_land_X5_takes rfl rfl rfl (by decide +kernel) ⟨Nat.le_of_ble_eq_true rfl, Nat.le_of_ble_eq_true rfl⟩) (by decide) at_X5 rfl rfl rfl rfl (Nat.le_of_ble_eq_true rfl) dX5_land_162 ⟨Nat.zero_le _, Nat.zero_le _⟩ (fun H locs hM => ?_)
                    refine lv_pop hx hb dX5_land_165 rfl ?_
                    refine lv_iinc (v := (v1 + 1)) (lv' := [(1, .int (v1 + 1)), (3, .int x51.1), (2, .int (0 : Int32)), (0, .ref (ad 0))]) hx hb dX5_land_166 hl (k := 3) rfl rfl (by decide) rfl (fun ls hl => ?_)
                    refine lv_goto (tgt := 36) hx hb dX5_land_169 (by decide) ?_
                    exact ih _ _ h _ _ _ (lv_sub hl [3, 0] rfl) hM
                  · replace h := (if_pos c54).symm.trans h
                    refine lv_iconst (v := (1 : Int32)) hx hb dX5_land_157 (by decide) ?_
                    refine lv_goto (tgt := 162) hx hb dX5_land_158 (by decide) ?_
                    obtain ⟨x56, hx56, h⟩ := Option.bind_eq_some_iff.mp h
                    refine m_callV (As := [.int (1 : Int32)]) (st1 := [.int x56.1]) hx hb (hml.trans hl.1.symm) hown hts hKv hXs hXk hM (kX5_takes l D cI cZ ad hX0 (1 : Int32) x51.2 _ hx56) (cwV 1 hts gX5_land_X5_takes rfl rfl rfl (by decide +kernel) ⟨Nat.le_of_ble_eq_true rfl, Nat.le_of_ble_eq_true rfl⟩) (by decide) at_X5 rfl rfl rfl rfl (Nat.le_of_ble_eq_true rfl) dX5_land_162 ⟨Nat.zero_le _, Nat.zero_le _⟩ (fun H locs hM => ?_)
                    refine lv_pop hx hb dX5_land_165 rfl ?_
                    refine lv_iinc (v := (v1 + 1)) (lv' := [(1, .int (v1 + 1)), (3, .int x51.1), (2, .int (0 : Int32)), (0, .ref (ad 0))]) hx hb dX5_land_166 hl (k := 3) rfl rfl (by decide) rfl (fun ls hl => ?_)
                    refine lv_goto (tgt := 36) hx hb dX5_land_169 (by decide) ?_
                    exact ih _ _ h _ _ _ (lv_sub hl [3, 0] rfl) hM
                · replace h := (if_neg c53).symm.trans h
                  refine lv_aload_n hx hb dX5_land_143 rfl (lv_at hl 2 rfl) ?_
                  refine lv_iload_n hx hb dX5_land_144 rfl (lv_at hl 0 rfl) ?_
                  obtain ⟨x57, hx57, h⟩ := Option.bind_eq_some_iff.mp h
                  refine m_callV (As := [.int x51.1]) (st1 := []) hx hb (hml.trans hl.1.symm) hown hts hKv hXs hXk hM (kX5_readsItem l D cI cZ ad hX0 x51.1 x51.2 _ hx57) (cwV 1 hts gX5_land_X5_readsItem rfl rfl rfl (by decide +kernel) ⟨Nat.le_of_ble_eq_true rfl, Nat.le_of_ble_eq_true rfl⟩) (by decide) at_X5 rfl rfl rfl rfl (Nat.le_of_ble_eq_true rfl) dX5_land_145 ⟨Nat.zero_le _, Nat.zero_le _⟩ (fun H locs hM => ?_)
                  refine lv_aload_n hx hb dX5_land_148 rfl (lv_at hl 2 rfl) ?_
                  refine lv_aload_n hx hb dX5_land_149 rfl (lv_at hl 2 rfl) ?_
                  refine m_get hx hb hts hown hKv hM (fun _ h => List.mem_cons_of_mem _ (List.mem_append_right _ (h))) (by decide) at_X5 rfl 5 (by decide) k0 (v := .int (x57.1 0 5)) rfl dX5_land_150 ?_
                  refine lv_iconst (v := (3 : Int32)) hx hb dX5_land_153 (by decide) ?_
                  refine lv_icmp_ne (tgt := 161) hx hb dX5_land_154 (by decide) (fun c58 => ?_) (fun c58 => ?_)
                  · replace h := (if_neg c58).symm.trans h
                    refine lv_iconst (v := (0 : Int32)) hx hb dX5_land_161 (by decide) ?_
                    obtain ⟨x59, hx59, h⟩ := Option.bind_eq_some_iff.mp h
                    refine m_callV (As := [.int (0 : Int32)]) (st1 := [.int x59.1]) hx hb (hml.trans hl.1.symm) hown hts hKv hXs hXk hM (kX5_takes l D cI cZ ad hX0 (0 : Int32) x57 _ hx59) (cwV 1 hts gX5_land_X5_takes rfl rfl rfl (by decide +kernel) ⟨Nat.le_of_ble_eq_true rfl, Nat.le_of_ble_eq_true rfl⟩) (by decide) at_X5 rfl rfl rfl rfl (Nat.le_of_ble_eq_true rfl) dX5_land_162 ⟨Nat.zero_le _, Nat.zero_le _⟩ (fun H locs hM => ?_)
                    refine lv_pop hx hb dX5_land_165 rfl ?_
                    refine lv_iinc (v := (v1 + 1)) (lv' := [(1, .int (v1 + 1)), (3, .int x51.1), (2, .int (0 : Int32)), (0, .ref (ad 0))]) hx hb dX5_land_166 hl (k := 3) rfl rfl (by decide) rfl (fun ls hl => ?_)
                    refine lv_goto (tgt := 36) hx hb dX5_land_169 (by decide) ?_
                    exact ih _ _ h _ _ _ (lv_sub hl [3, 0] rfl) hM
                  · replace h := (if_pos c58).symm.trans h
                    refine lv_iconst (v := (1 : Int32)) hx hb dX5_land_157 (by decide) ?_
                    refine lv_goto (tgt := 162) hx hb dX5_land_158 (by decide) ?_
                    obtain ⟨x60, hx60, h⟩ := Option.bind_eq_some_iff.mp h
                    refine m_callV (As := [.int (1 : Int32)]) (st1 := [.int x60.1]) hx hb (hml.trans hl.1.symm) hown hts hKv hXs hXk hM (kX5_takes l D cI cZ ad hX0 (1 : Int32) x57 _ hx60) (cwV 1 hts gX5_land_X5_takes rfl rfl rfl (by decide +kernel) ⟨Nat.le_of_ble_eq_true rfl, Nat.le_of_ble_eq_true rfl⟩) (by decide) at_X5 rfl rfl rfl rfl (Nat.le_of_ble_eq_true rfl) dX5_land_162 ⟨Nat.zero_le _, Nat.zero_le _⟩ (fun H locs hM => ?_)
                    refine lv_pop hx hb dX5_land_165 rfl ?_
                    refine lv_iinc (v := (v1 + 1)) (lv' := [(1, .int (v1 + 1)), (3, .int x51.1), (2, .int (0 : Int32)), (0, .ref (ad 0))]) hx hb dX5_land_166 hl (k := 3) rfl rfl (by decide) rfl (fun ls hl => ?_)
                    refine lv_goto (tgt := 36) hx hb dX5_land_169 (by decide) ?_
                    exact ih _ _ h _ _ _ (lv_sub hl [3, 0] rfl) hM
              · replace h := (if_pos c50).symm.trans h
                refine lv_iload_n hx hb dX5_land_123 rfl (lv_at hl 0 rfl) ?_
                refine lv_if_eq (tgt := 131) hx hb dX5_land_124 (by decide) (fun _ => ?_) (fun c => absurd c (by decide))
                refine lv_iconst (v := (0 : Int32)) hx hb dX5_land_131 (by decide) ?_
                obtain ⟨x61, hx61, h⟩ := Option.bind_eq_some_iff.mp h
                refine m_callV (As := [.int (0 : Int32)]) (st1 := [.int x61.1]) hx hb (hml.trans hl.1.symm) hown hts hKv hXs hXk hM (kX5_takes l D cI cZ ad hX0 (0 : Int32) M _ hx61) (cwV 1 hts gX5_land_X5_takes rfl rfl rfl (by decide +kernel) ⟨Nat.le_of_ble_eq_true rfl, Nat.le_of_ble_eq_true rfl⟩) (by decide) at_X5 rfl rfl rfl rfl (Nat.le_of_ble_eq_true rfl) dX5_land_132 ⟨Nat.zero_le _, Nat.zero_le _⟩ (fun H locs hM => ?_)
                refine lv_istore_n (lv' := [(3, .int x61.1), (2, .int (0 : Int32)), (0, .ref (ad 0)), (1, .int v1)]) hx hb dX5_land_135 rfl hl (by decide) rfl (fun ls hl => ?_)
                refine lv_aload_n hx hb dX5_land_136 rfl (lv_at hl 2 rfl) ?_
                obtain ⟨x62, hx62, h⟩ := Option.bind_eq_some_iff.mp h
                refine m_callV (As := []) (st1 := [.int x62]) hx hb (hml.trans hl.1.symm) hown hts hKv hXs hXk hM (kX5_isWell l D cI cZ ad hX0  x61.2 _ hx62) (cwV 0 hts gX5_land_X5_isWell rfl rfl rfl (by decide +kernel) ⟨Nat.le_of_ble_eq_true rfl, Nat.le_of_ble_eq_true rfl⟩) (by decide) at_X5 rfl rfl rfl rfl (Nat.le_of_ble_eq_true rfl) dX5_land_137 ⟨Nat.zero_le _, Nat.zero_le _⟩ (fun H locs hM => ?_)
                refine lv_if_eq (tgt := 148) hx hb dX5_land_140 (by decide) (fun c63 => ?_) (fun c63 => ?_)
                · replace h := (if_pos c63).symm.trans h
                  refine lv_aload_n hx hb dX5_land_148 rfl (lv_at hl 2 rfl) ?_
                  refine lv_aload_n hx hb dX5_land_149 rfl (lv_at hl 2 rfl) ?_
                  refine m_get hx hb hts hown hKv hM (fun _ h => List.mem_cons_of_mem _ (List.mem_append_right _ (h))) (by decide) at_X5 rfl 5 (by decide) k0 (v := .int (x61.2.1 0 5)) rfl dX5_land_150 ?_
                  refine lv_iconst (v := (3 : Int32)) hx hb dX5_land_153 (by decide) ?_
                  refine lv_icmp_ne (tgt := 161) hx hb dX5_land_154 (by decide) (fun c64 => ?_) (fun c64 => ?_)
                  · replace h := (if_neg c64).symm.trans h
                    refine lv_iconst (v := (0 : Int32)) hx hb dX5_land_161 (by decide) ?_
                    obtain ⟨x65, hx65, h⟩ := Option.bind_eq_some_iff.mp h
                    refine m_callV (As := [.int (0 : Int32)]) (st1 := [.int x65.1]) hx hb (hml.trans hl.1.symm) hown hts hKv hXs hXk hM (kX5_takes l D cI cZ ad hX0 (0 : Int32) x61.2 _ hx65) (cwV 1 hts gX5_land_X5_takes rfl rfl rfl (by decide +kernel) ⟨Nat.le_of_ble_eq_true rfl, Nat.le_of_ble_eq_true rfl⟩) (by decide) at_X5 rfl rfl rfl rfl (Nat.le_of_ble_eq_true rfl) dX5_land_162 ⟨Nat.zero_le _, Nat.zero_le _⟩ (fun H locs hM => ?_)
                    refine lv_pop hx hb dX5_land_165 rfl ?_
                    refine lv_iinc (v := (v1 + 1)) (lv' := [(1, .int (v1 + 1)), (3, .int x61.1), (2, .int (0 : Int32)), (0, .ref (ad 0))]) hx hb dX5_land_166 hl (k := 3) rfl rfl (by decide) rfl (fun ls hl => ?_)
                    refine lv_goto (tgt := 36) hx hb dX5_land_169 (by decide) ?_
                    exact ih _ _ h _ _ _ (lv_sub hl [3, 0] rfl) hM
                  · replace h := (if_pos c64).symm.trans h
                    refine lv_iconst (v := (1 : Int32)) hx hb dX5_land_157 (by decide) ?_
                    refine lv_goto (tgt := 162) hx hb dX5_land_158 (by decide) ?_
                    obtain ⟨x66, hx66, h⟩ := Option.bind_eq_some_iff.mp h
                    refine m_callV (As := [.int (1 : Int32)]) (st1 := [.int x66.1]) hx hb (hml.trans hl.1.symm) hown hts hKv hXs hXk hM (kX5_takes l D cI cZ ad hX0 (1 : Int32) x61.2 _ hx66) (cwV 1 hts gX5_land_X5_takes rfl rfl rfl (by decide +kernel) ⟨Nat.le_of_ble_eq_true rfl, Nat.le_of_ble_eq_true rfl⟩) (by decide) at_X5 rfl rfl rfl rfl (Nat.le_of_ble_eq_true rfl) dX5_land_162 ⟨Nat.zero_le _, Nat.zero_le _⟩ (fun H locs hM => ?_)
                    refine lv_pop hx hb dX5_land_165 rfl ?_
                    refine lv_iinc (v := (v1 + 1)) (lv' := [(1, .int (v1 + 1)), (3, .int x61.1), (2, .int (0 : Int32)), (0, .ref (ad 0))]) hx hb dX5_land_166 hl (k := 3) rfl rfl (by decide) rfl (fun ls hl => ?_)
                    refine lv_goto (tgt := 36) hx hb dX5_land_169 (by decide) ?_
                    exact ih _ _ h _ _ _ (lv_sub hl [3, 0] rfl) hM
                · replace h := (if_neg c63).symm.trans h
                  refine lv_aload_n hx hb dX5_land_143 rfl (lv_at hl 2 rfl) ?_
                  refine lv_iload_n hx hb dX5_land_144 rfl (lv_at hl 0 rfl) ?_
                  obtain ⟨x67, hx67, h⟩ := Option.bind_eq_some_iff.mp h
                  refine m_callV (As := [.int x61.1]) (st1 := []) hx hb (hml.trans hl.1.symm) hown hts hKv hXs hXk hM (kX5_readsItem l D cI cZ ad hX0 x61.1 x61.2 _ hx67) (cwV 1 hts gX5_land_X5_readsItem rfl rfl rfl (by decide +kernel) ⟨Nat.le_of_ble_eq_true rfl, Nat.le_of_ble_eq_true rfl⟩) (by decide) at_X5 rfl rfl rfl rfl (Nat.le_of_ble_eq_true rfl) dX5_land_145 ⟨Nat.zero_le _, Nat.zero_le _⟩ (fun H locs hM => ?_)
                  refine lv_aload_n hx hb dX5_land_148 rfl (lv_at hl 2 rfl) ?_
                  refine lv_aload_n hx hb dX5_land_149 rfl (lv_at hl 2 rfl) ?_
                  refine m_get hx hb hts hown hKv hM (fun _ h => List.mem_cons_of_mem _ (List.mem_append_right _ (h))) (by decide) at_X5 rfl 5 (by decide) k0 (v := .int (x67.1 0 5)) rfl dX5_land_150 ?_
                  refine lv_iconst (v := (3 : Int32)) hx hb dX5_land_153 (by decide) ?_
                  refine lv_icmp_ne (tgt := 161) hx hb dX5_land_154 (by decide) (fun c68 => ?_) (fun c68 => ?_)
                  · replace h := (if_neg c68).symm.trans h
                    refine lv_iconst (v := (0 : Int32)) hx hb dX5_land_161 (by decide) ?_
                    obtain ⟨x69, hx69, h⟩ := Option.bind_eq_some_iff.mp h
                    refine m_callV (As := [.int (0 : Int32)]) (st1 := [.int x69.1]) hx hb (hml.trans hl.1.symm) hown hts hKv hXs hXk hM (kX5_takes l D cI cZ ad hX0 (0 : Int32) x67 _ hx69) (cwV 1 hts gX5_land_X5_takes rfl rfl rfl (by decide +kernel) ⟨Nat.le_of_ble_eq_true rfl, Nat.le_of_ble_eq_true rfl⟩) (by decide) at_X5 rfl rfl rfl rfl (Nat.le_of_ble_eq_true rfl) dX5_land_162 ⟨Nat.zero_le _, Nat.zero_le _⟩ (fun H locs hM => ?_)
                    refine lv_pop hx hb dX5_land_165 rfl ?_
                    refine lv_iinc (v := (v1 + 1)) (lv' := [(1, .int (v1 + 1)), (3, .int x61.1), (2, .int (0 : Int32)), (0, .ref (ad 0))]) hx hb dX5_land_166 hl (k := 3) rfl rfl (by decide) rfl (fun ls hl => ?_)
                    refine lv_goto (tgt := 36) hx hb dX5_land_169 (by decide) ?_
                    exact ih _ _ h _ _ _ (lv_sub hl [3, 0] rfl) hM
                  · replace h := (if_pos c68).symm.trans h
                    refine lv_iconst (v := (1 : Int32)) hx hb dX5_land_157 (by decide) ?_
                    refine lv_goto (tgt := 162) hx hb dX5_land_158 (by decide) ?_
                    obtain ⟨x70, hx70, h⟩ := Option.bind_eq_some_iff.mp h
                    refine m_callV (As := [.int (1 : Int32)]) (st1 := [.int x70.1]) hx hb (hml.trans hl.1.symm) hown hts hKv hXs hXk hM (kX5_takes l D cI cZ ad hX0 (1 : Int32) x67 _ hx70) (cwV 1 hts gX5_land_X5_takes rfl rfl rfl (by decide +kernel) ⟨Nat.le_of_ble_eq_true rfl, Nat.le_of_ble_eq_true rfl⟩) (by decide) at_X5 rfl rfl rfl rfl (Nat.le_of_ble_eq_true rfl) dX5_land_162 ⟨Nat.zero_le _, Nat.zero_le _⟩ (fun H locs hM => ?_)
                    refine lv_pop hx hb dX5_land_165 rfl ?_
                    refine lv_iinc (v := (v1 + 1)) (lv' := [(1, .int (v1 + 1)), (3, .int x61.1), (2, .int (0 : Int32)), (0, .ref (ad 0))]) hx hb dX5_land_166 hl (k := 3) rfl rfl (by decide) rfl (fun ls hl => ?_)
                    refine lv_goto (tgt := 36) hx hb dX5_land_169 (by decide) ?_
                    exact ih _ _ h _ _ _ (lv_sub hl [3, 0] rfl) hM
            · replace h := (if_neg c49).symm.trans h
              refine lv_iconst (v := (1 : Int32)) hx hb dX5_land_91 (by decide) ?_
              refine lv_goto (tgt := 113) hx hb dX5_land_92 (by decide) ?_
              refine lv_istore_n (lv' := [(2, .int (1 : Int32)), (0, .ref (ad 0)), (1, .int v1)]) hx hb dX5_land_113 rfl hl (by decide) rfl (fun ls hl => ?_)
              refine lv_aload_n hx hb dX5_land_114 rfl (lv_at hl 1 rfl) ?_
              refine lv_aload_n hx hb dX5_land_115 rfl (lv_at hl 1 rfl) ?_
              refine m_get hx hb hts hown hKv hM (fun _ h => List.mem_cons_of_mem _ (List.mem_append_right _ (h))) (by decide) at_X5 rfl 5 (by decide) k0 (v := .int (M.1 0 5)) rfl dX5_land_116 ?_
              refine lv_iconst (v := (1 : Int32)) hx hb dX5_land_119 (by decide) ?_
              refine lv_icmp_ne (tgt := 131) hx hb dX5_land_120 (by decide) (fun c71 => ?_) (fun c71 => ?_)
              · replace h := (if_neg c71).symm.trans h
                refine lv_iconst (v := (0 : Int32)) hx hb dX5_land_131 (by decide) ?_
                obtain ⟨x72, hx72, h⟩ := Option.bind_eq_some_iff.mp h
                refine m_callV (As := [.int (0 : Int32)]) (st1 := [.int x72.1]) hx hb (hml.trans hl.1.symm) hown hts hKv hXs hXk hM (kX5_takes l D cI cZ ad hX0 (0 : Int32) M _ hx72) (cwV 1 hts gX5_land_X5_takes rfl rfl rfl (by decide +kernel) ⟨Nat.le_of_ble_eq_true rfl, Nat.le_of_ble_eq_true rfl⟩) (by decide) at_X5 rfl rfl rfl rfl (Nat.le_of_ble_eq_true rfl) dX5_land_132 ⟨Nat.zero_le _, Nat.zero_le _⟩ (fun H locs hM => ?_)
                refine lv_istore_n (lv' := [(3, .int x72.1), (2, .int (1 : Int32)), (0, .ref (ad 0)), (1, .int v1)]) hx hb dX5_land_135 rfl hl (by decide) rfl (fun ls hl => ?_)
                refine lv_aload_n hx hb dX5_land_136 rfl (lv_at hl 2 rfl) ?_
                obtain ⟨x73, hx73, h⟩ := Option.bind_eq_some_iff.mp h
                refine m_callV (As := []) (st1 := [.int x73]) hx hb (hml.trans hl.1.symm) hown hts hKv hXs hXk hM (kX5_isWell l D cI cZ ad hX0  x72.2 _ hx73) (cwV 0 hts gX5_land_X5_isWell rfl rfl rfl (by decide +kernel) ⟨Nat.le_of_ble_eq_true rfl, Nat.le_of_ble_eq_true rfl⟩) (by decide) at_X5 rfl rfl rfl rfl (Nat.le_of_ble_eq_true rfl) dX5_land_137 ⟨Nat.zero_le _, Nat.zero_le _⟩ (fun H locs hM => ?_)
                refine lv_if_eq (tgt := 148) hx hb dX5_land_140 (by decide) (fun c74 => ?_) (fun c74 => ?_)
                · replace h := (if_pos c74).symm.trans h
                  refine lv_aload_n hx hb dX5_land_148 rfl (lv_at hl 2 rfl) ?_
                  refine lv_aload_n hx hb dX5_land_149 rfl (lv_at hl 2 rfl) ?_
                  refine m_get hx hb hts hown hKv hM (fun _ h => List.mem_cons_of_mem _ (List.mem_append_right _ (h))) (by decide) at_X5 rfl 5 (by decide) k0 (v := .int (x72.2.1 0 5)) rfl dX5_land_150 ?_
                  refine lv_iconst (v := (3 : Int32)) hx hb dX5_land_153 (by decide) ?_
                  refine lv_icmp_ne (tgt := 161) hx hb dX5_land_154 (by decide) (fun c75 => ?_) (fun c75 => ?_)
                  · replace h := (if_neg c75).symm.trans h
                    refine lv_iconst (v := (0 : Int32)) hx hb dX5_land_161 (by decide) ?_
                    obtain ⟨x76, hx76, h⟩ := Option.bind_eq_some_iff.mp h
                    refine m_callV (As := [.int (0 : Int32)]) (st1 := [.int x76.1]) hx hb (hml.trans hl.1.symm) hown hts hKv hXs hXk hM (kX5_takes l D cI cZ ad hX0 (0 : Int32) x72.2 _ hx76) (cwV 1 hts gX5_land_X5_takes rfl rfl rfl (by decide +kernel) ⟨Nat.le_of_ble_eq_true rfl, Nat.le_of_ble_eq_true rfl⟩) (by decide) at_X5 rfl rfl rfl rfl (Nat.le_of_ble_eq_true rfl) dX5_land_162 ⟨Nat.zero_le _, Nat.zero_le _⟩ (fun H locs hM => ?_)
                    refine lv_pop hx hb dX5_land_165 rfl ?_
                    refine lv_iinc (v := (v1 + 1)) (lv' := [(1, .int (v1 + 1)), (3, .int x72.1), (2, .int (1 : Int32)), (0, .ref (ad 0))]) hx hb dX5_land_166 hl (k := 3) rfl rfl (by decide) rfl (fun ls hl => ?_)
                    refine lv_goto (tgt := 36) hx hb dX5_land_169 (by decide) ?_
                    exact ih _ _ h _ _ _ (lv_sub hl [3, 0] rfl) hM
                  · replace h := (if_pos c75).symm.trans h
                    refine lv_iconst (v := (1 : Int32)) hx hb dX5_land_157 (by decide) ?_
                    refine lv_goto (tgt := 162) hx hb dX5_land_158 (by decide) ?_
                    obtain ⟨x77, hx77, h⟩ := Option.bind_eq_some_iff.mp h
                    refine m_callV (As := [.int (1 : Int32)]) (st1 := [.int x77.1]) hx hb (hml.trans hl.1.symm) hown hts hKv hXs hXk hM (kX5_takes l D cI cZ ad hX0 (1 : Int32) x72.2 _ hx77) (cwV 1 hts gX5_land_X5_takes rfl rfl rfl (by decide +kernel) ⟨Nat.le_of_ble_eq_true rfl, Nat.le_of_ble_eq_true rfl⟩) (by decide) at_X5 rfl rfl rfl rfl (Nat.le_of_ble_eq_true rfl) dX5_land_162 ⟨Nat.zero_le _, Nat.zero_le _⟩ (fun H locs hM => ?_)
                    refine lv_pop hx hb dX5_land_165 rfl ?_
                    refine lv_iinc (v := (v1 + 1)) (lv' := [(1, .int (v1 + 1)), (3, .int x72.1), (2, .int (1 : Int32)), (0, .ref (ad 0))]) hx hb dX5_land_166 hl (k := 3) rfl rfl (by decide) rfl (fun ls hl => ?_)
                    refine lv_goto (tgt := 36) hx hb dX5_land_169 (by decide) ?_
                    exact ih _ _ h _ _ _ (lv_sub hl [3, 0] rfl) hM
                · replace h := (if_neg c74).symm.trans h
                  refine lv_aload_n hx hb dX5_land_143 rfl (lv_at hl 2 rfl) ?_
                  refine lv_iload_n hx hb dX5_land_144 rfl (lv_at hl 0 rfl) ?_
                  obtain ⟨x78, hx78, h⟩ := Option.bind_eq_some_iff.mp h
                  refine m_callV (As := [.int x72.1]) (st1 := []) hx hb (hml.trans hl.1.symm) hown hts hKv hXs hXk hM (kX5_readsItem l D cI cZ ad hX0 x72.1 x72.2 _ hx78) (cwV 1 hts gX5_land_X5_readsItem rfl rfl rfl (by decide +kernel) ⟨Nat.le_of_ble_eq_true rfl, Nat.le_of_ble_eq_true rfl⟩) (by decide) at_X5 rfl rfl rfl rfl (Nat.le_of_ble_eq_true rfl) dX5_land_145 ⟨Nat.zero_le _, Nat.zero_le _⟩ (fun H locs hM => ?_)
                  refine lv_aload_n hx hb dX5_land_148 rfl (lv_at hl 2 rfl) ?_
                  refine lv_aload_n hx hb dX5_land_149 rfl (lv_at hl 2 rfl) ?_
                  refine m_get hx hb hts hown hKv hM (fun _ h => List.mem_cons_of_mem _ (List.mem_append_right _ (h))) (by decide) at_X5 rfl 5 (by decide) k0 (v := .int (x78.1 0 5)) rfl dX5_land_150 ?_
                  refine lv_iconst (v := (3 : Int32)) hx hb dX5_land_153 (by decide) ?_
                  refine lv_icmp_ne (tgt := 161) hx hb dX5_land_154 (by decide) (fun c79 => ?_) (fun c79 => ?_)
                  · replace h := (if_neg c79).symm.trans h
                    refine lv_iconst (v := (0 : Int32)) hx hb dX5_land_161 (by decide) ?_
                    obtain ⟨x80, hx80, h⟩ := Option.bind_eq_some_iff.mp h
                    refine m_callV (As := [.int (0 : Int32)]) (st1 := [.int x80.1]) hx hb (hml.trans hl.1.symm) hown hts hKv hXs hXk hM (kX5_takes l D cI cZ ad hX0 (0 : Int32) x78 _ hx80) (cwV 1 hts gX5_land_X5_takes rfl rfl rfl (by decide +kernel) ⟨Nat.le_of_ble_eq_true rfl, Nat.le_of_ble_eq_true rfl⟩) (by decide) at_X5 rfl rfl rfl rfl (Nat.le_of_ble_eq_true rfl) dX5_land_162 ⟨Nat.zero_le _, Nat.zero_le _⟩ (fun H locs hM => ?_)
                    refine lv_pop hx hb dX5_land_165 rfl ?_
                    refine lv_iinc (v := (v1 + 1)) (lv' := [(1, .int (v1 + 1)), (3, .int x72.1), (2, .int (1 : Int32)), (0, .ref (ad 0))]) hx hb dX5_land_166 hl (k := 3) rfl rfl (by decide) rfl (fun ls hl => ?_)
                    refine lv_goto (tgt := 36) hx hb dX5_land_169 (by decide) ?_
                    exact ih _ _ h _ _ _ (lv_sub hl [3, 0] rfl) hM
                  · replace h := (if_pos c79).symm.trans h
                    refine lv_iconst (v := (1 : Int32)) hx hb dX5_land_157 (by decide) ?_
                    refine lv_goto (tgt := 162) hx hb dX5_land_158 (by decide) ?_
                    obtain ⟨x81, hx81, h⟩ := Option.bind_eq_some_iff.mp h
                    refine m_callV (As := [.int (1 : Int32)]) (st1 := [.int x81.1]) hx hb (hml.trans hl.1.symm) hown hts hKv hXs hXk hM (kX5_takes l D cI cZ ad hX0 (1 : Int32) x78 _ hx81) (cwV 1 hts gX5_land_X5_takes rfl rfl rfl (by decide +kernel) ⟨Nat.le_of_ble_eq_true rfl, Nat.le_of_ble_eq_true rfl⟩) (by decide) at_X5 rfl rfl rfl rfl (Nat.le_of_ble_eq_true rfl) dX5_land_162 ⟨Nat.zero_le _, Nat.zero_le _⟩ (fun H locs hM => ?_)
                    refine lv_pop hx hb dX5_land_165 rfl ?_
                    refine lv_iinc (v := (v1 + 1)) (lv' := [(1, .int (v1 + 1)), (3, .int x72.1), (2, .int (1 : Int32)), (0, .ref (ad 0))]) hx hb dX5_land_166 hl (k := 3) rfl rfl (by decide) rfl (fun ls hl => ?_)
                    refine lv_goto (tgt := 36) hx hb dX5_land_169 (by decide) ?_
                    exact ih _ _ h _ _ _ (lv_sub hl [3, 0] rfl) hM
              · replace h := (if_pos c71).symm.trans h
                refine lv_iload_n hx hb dX5_land_123 rfl (lv_at hl 0 rfl) ?_
                refine lv_if_eq (tgt := 131) hx hb dX5_land_124 (by decide) (fun c => absurd c (by decide)) (fun _ => ?_)
                refine lv_iconst (v := (1 : Int32)) hx hb dX5_land_127 (by decide) ?_
                refine lv_goto (tgt := 132) hx hb dX5_land_128 (by decide) ?_
                obtain ⟨x82, hx82, h⟩ := Option.bind_eq_some_iff.mp h
                refine m_callV (As := [.int (1 : Int32)]) (st1 := [.int x82.1]) hx hb (hml.trans hl.1.symm) hown hts hKv hXs hXk hM (kX5_takes l D cI cZ ad hX0 (1 : Int32) M _ hx82) (cwV 1 hts gX5_land_X5_takes rfl rfl rfl (by decide +kernel) ⟨Nat.le_of_ble_eq_true rfl, Nat.le_of_ble_eq_true rfl⟩) (by decide) at_X5 rfl rfl rfl rfl (Nat.le_of_ble_eq_true rfl) dX5_land_132 ⟨Nat.zero_le _, Nat.zero_le _⟩ (fun H locs hM => ?_)
                refine lv_istore_n (lv' := [(3, .int x82.1), (2, .int (1 : Int32)), (0, .ref (ad 0)), (1, .int v1)]) hx hb dX5_land_135 rfl hl (by decide) rfl (fun ls hl => ?_)
                refine lv_aload_n hx hb dX5_land_136 rfl (lv_at hl 2 rfl) ?_
                obtain ⟨x83, hx83, h⟩ := Option.bind_eq_some_iff.mp h
                refine m_callV (As := []) (st1 := [.int x83]) hx hb (hml.trans hl.1.symm) hown hts hKv hXs hXk hM (kX5_isWell l D cI cZ ad hX0  x82.2 _ hx83) (cwV 0 hts gX5_land_X5_isWell rfl rfl rfl (by decide +kernel) ⟨Nat.le_of_ble_eq_true rfl, Nat.le_of_ble_eq_true rfl⟩) (by decide) at_X5 rfl rfl rfl rfl (Nat.le_of_ble_eq_true rfl) dX5_land_137 ⟨Nat.zero_le _, Nat.zero_le _⟩ (fun H locs hM => ?_)
                refine lv_if_eq (tgt := 148) hx hb dX5_land_140 (by decide) (fun c84 => ?_) (fun c84 => ?_)
                · replace h := (if_pos c84).symm.trans h
                  refine lv_aload_n hx hb dX5_land_148 rfl (lv_at hl 2 rfl) ?_
                  refine lv_aload_n hx hb dX5_land_149 rfl (lv_at hl 2 rfl) ?_
                  refine m_get hx hb hts hown hKv hM (fun _ h => List.mem_cons_of_mem _ (List.mem_append_right _ (h))) (by decide) at_X5 rfl 5 (by decide) k0 (v := .int (x82.2.1 0 5)) rfl dX5_land_150 ?_
                  refine lv_iconst (v := (3 : Int32)) hx hb dX5_land_153 (by decide) ?_
                  refine lv_icmp_ne (tgt := 161) hx hb dX5_land_154 (by decide) (fun c85 => ?_) (fun c85 => ?_)
                  · replace h := (if_neg c85).symm.trans h
                    refine lv_iconst (v := (0 : Int32)) hx hb dX5_land_161 (by decide) ?_
                    obtain ⟨x86, hx86, h⟩ := Option.bind_eq_some_iff.mp h
                    refine m_callV (As := [.int (0 : Int32)]) (st1 := [.int x86.1]) hx hb (hml.trans hl.1.symm) hown hts hKv hXs hXk hM (kX5_takes l D cI cZ ad hX0 (0 : Int32) x82.2 _ hx86) (cwV 1 hts gX5_land_X5_takes rfl rfl rfl (by decide +kernel) ⟨Nat.le_of_ble_eq_true rfl, Nat.le_of_ble_eq_true rfl⟩) (by decide) at_X5 rfl rfl rfl rfl (Nat.le_of_ble_eq_true rfl) dX5_land_162 ⟨Nat.zero_le _, Nat.zero_le _⟩ (fun H locs hM => ?_)
                    refine lv_pop hx hb dX5_land_165 rfl ?_
                    refine lv_iinc (v := (v1 + 1)) (lv' := [(1, .int (v1 + 1)), (3, .int x82.1), (2, .int (1 : Int32)), (0, .ref (ad 0))]) hx hb dX5_land_166 hl (k := 3) rfl rfl (by decide) rfl (fun ls hl => ?_)
                    refine lv_goto (tgt := 36) hx hb dX5_land_169 (by decide) ?_
                    exact ih _ _ h _ _ _ (lv_sub hl [3, 0] rfl) hM
                  · replace h := (if_pos c85).symm.trans h
                    refine lv_iconst (v := (1 : Int32)) hx hb dX5_land_157 (by decide) ?_
                    refine lv_goto (tgt := 162) hx hb dX5_land_158 (by decide) ?_
                    obtain ⟨x87, hx87, h⟩ := Option.bind_eq_some_iff.mp h
                    refine m_callV (As := [.int (1 : Int32)]) (st1 := [.int x87.1]) hx hb (hml.trans hl.1.symm) hown hts hKv hXs hXk hM (kX5_takes l D cI cZ ad hX0 (1 : Int32) x82.2 _ hx87) (cwV 1 hts gX5_land_X5_takes rfl rfl rfl (by decide +kernel) ⟨Nat.le_of_ble_eq_true rfl, Nat.le_of_ble_eq_true rfl⟩) (by decide) at_X5 rfl rfl rfl rfl (Nat.le_of_ble_eq_true rfl) dX5_land_162 ⟨Nat.zero_le _, Nat.zero_le _⟩ (fun H locs hM => ?_)
                    refine lv_pop hx hb dX5_land_165 rfl ?_
                    refine lv_iinc (v := (v1 + 1)) (lv' := [(1, .int (v1 + 1)), (3, .int x82.1), (2, .int (1 : Int32)), (0, .ref (ad 0))]) hx hb dX5_land_166 hl (k := 3) rfl rfl (by decide) rfl (fun ls hl => ?_)
                    refine lv_goto (tgt := 36) hx hb dX5_land_169 (by decide) ?_
                    exact ih _ _ h _ _ _ (lv_sub hl [3, 0] rfl) hM
                · replace h := (if_neg c84).symm.trans h
                  refine lv_aload_n hx hb dX5_land_143 rfl (lv_at hl 2 rfl) ?_
                  refine lv_iload_n hx hb dX5_land_144 rfl (lv_at hl 0 rfl) ?_
                  obtain ⟨x88, hx88, h⟩ := Option.bind_eq_some_iff.mp h
                  refine m_callV (As := [.int x82.1]) (st1 := []) hx hb (hml.trans hl.1.symm) hown hts hKv hXs hXk hM (kX5_readsItem l D cI cZ ad hX0 x82.1 x82.2 _ hx88) (cwV 1 hts gX5_land_X5_readsItem rfl rfl rfl (by decide +kernel) ⟨Nat.le_of_ble_eq_true rfl, Nat.le_of_ble_eq_true rfl⟩) (by decide) at_X5 rfl rfl rfl rfl (Nat.le_of_ble_eq_true rfl) dX5_land_145 ⟨Nat.zero_le _, Nat.zero_le _⟩ (fun H locs hM => ?_)
                  refine lv_aload_n hx hb dX5_land_148 rfl (lv_at hl 2 rfl) ?_
                  refine lv_aload_n hx hb dX5_land_149 rfl (lv_at hl 2 rfl) ?_
                  refine m_get hx hb hts hown hKv hM (fun _ h => List.mem_cons_of_mem _ (List.mem_append_right _ (h))) (by decide) at_X5 rfl 5 (by decide) k0 (v := .int (x88.1 0 5)) rfl dX5_land_150 ?_
                  refine lv_iconst (v := (3 : Int32)) hx hb dX5_land_153 (by decide) ?_
                  refine lv_icmp_ne (tgt := 161) hx hb dX5_land_154 (by decide) (fun c89 => ?_) (fun c89 => ?_)
                  · replace h := (if_neg c89).symm.trans h
                    refine lv_iconst (v := (0 : Int32)) hx hb dX5_land_161 (by decide) ?_
                    obtain ⟨x90, hx90, h⟩ := Option.bind_eq_some_iff.mp h
                    refine m_callV (As := [.int (0 : Int32)]) (st1 := [.int x90.1]) hx hb (hml.trans hl.1.symm) hown hts hKv hXs hXk hM (kX5_takes l D cI cZ ad hX0 (0 : Int32) x88 _ hx90) (cwV 1 hts gX5_land_X5_takes rfl rfl rfl (by decide +kernel) ⟨Nat.le_of_ble_eq_true rfl, Nat.le_of_ble_eq_true rfl⟩) (by decide) at_X5 rfl rfl rfl rfl (Nat.le_of_ble_eq_true rfl) dX5_land_162 ⟨Nat.zero_le _, Nat.zero_le _⟩ (fun H locs hM => ?_)
                    refine lv_pop hx hb dX5_land_165 rfl ?_
                    refine lv_iinc (v := (v1 + 1)) (lv' := [(1, .int (v1 + 1)), (3, .int x82.1), (2, .int (1 : Int32)), (0, .ref (ad 0))]) hx hb dX5_land_166 hl (k := 3) rfl rfl (by decide) rfl (fun ls hl => ?_)
                    refine lv_goto (tgt := 36) hx hb dX5_land_169 (by decide) ?_
                    exact ih _ _ h _ _ _ (lv_sub hl [3, 0] rfl) hM
                  · replace h := (if_pos c89).symm.trans h
                    refine lv_iconst (v := (1 : Int32)) hx hb dX5_land_157 (by decide) ?_
                    refine lv_goto (tgt := 162) hx hb dX5_land_158 (by decide) ?_
                    obtain ⟨x91, hx91, h⟩ := Option.bind_eq_some_iff.mp h
                    refine m_callV (As := [.int (1 : Int32)]) (st1 := [.int x91.1]) hx hb (hml.trans hl.1.symm) hown hts hKv hXs hXk hM (kX5_takes l D cI cZ ad hX0 (1 : Int32) x88 _ hx91) (cwV 1 hts gX5_land_X5_takes rfl rfl rfl (by decide +kernel) ⟨Nat.le_of_ble_eq_true rfl, Nat.le_of_ble_eq_true rfl⟩) (by decide) at_X5 rfl rfl rfl rfl (Nat.le_of_ble_eq_true rfl) dX5_land_162 ⟨Nat.zero_le _, Nat.zero_le _⟩ (fun H locs hM => ?_)
                    refine lv_pop hx hb dX5_land_165 rfl ?_
                    refine lv_iinc (v := (v1 + 1)) (lv' := [(1, .int (v1 + 1)), (3, .int x82.1), (2, .int (1 : Int32)), (0, .ref (ad 0))]) hx hb dX5_land_166 hl (k := 3) rfl rfl (by decide) rfl (fun ls hl => ?_)
                    refine lv_goto (tgt := 36) hx hb dX5_land_169 (by decide) ?_
                    exact ih _ _ h _ _ _ (lv_sub hl [3, 0] rfl) hM
        · replace h := (if_pos c4).symm.trans h
          refine lv_aload_n hx hb dX5_land_57 rfl (lv_at hl 0 rfl) ?_
          refine m_get hx hb hts hown hKv hM (fun _ h => List.mem_cons_of_mem _ (List.mem_append_right _ (h))) (by decide) at_X5 rfl 16 (by decide) k4 (v := .int (M.1 0 16)) rfl dX5_land_58 ?_
          refine lv_bipush (v := (6 : Int32)) hx hb dX5_land_61 (by decide) ?_
          refine lv_icmp_ge (tgt := 70) hx hb dX5_land_63 (by decide) (fun c92 => ?_) (fun c92 => ?_)
          · replace h := (if_pos c92).symm.trans h
            refine lv_iconst (v := (0 : Int32)) hx hb dX5_land_70 (by decide) ?_
            refine lv_goto (tgt := 113) hx hb dX5_land_71 (by decide) ?_
            refine lv_istore_n (lv' := [(2, .int (0 : Int32)), (0, .ref (ad 0)), (1, .int v1)]) hx hb dX5_land_113 rfl hl (by decide) rfl (fun ls hl => ?_)
            refine lv_aload_n hx hb dX5_land_114 rfl (lv_at hl 1 rfl) ?_
            refine lv_aload_n hx hb dX5_land_115 rfl (lv_at hl 1 rfl) ?_
            refine m_get hx hb hts hown hKv hM (fun _ h => List.mem_cons_of_mem _ (List.mem_append_right _ (h))) (by decide) at_X5 rfl 5 (by decide) k0 (v := .int (M.1 0 5)) rfl dX5_land_116 ?_
            refine lv_iconst (v := (1 : Int32)) hx hb dX5_land_119 (by decide) ?_
            refine lv_icmp_ne (tgt := 131) hx hb dX5_land_120 (by decide) (fun c93 => ?_) (fun c93 => ?_)
            · replace h := (if_neg c93).symm.trans h
              refine lv_iconst (v := (0 : Int32)) hx hb dX5_land_131 (by decide) ?_
              obtain ⟨x94, hx94, h⟩ := Option.bind_eq_some_iff.mp h
              refine m_callV (As := [.int (0 : Int32)]) (st1 := [.int x94.1]) hx hb (hml.trans hl.1.symm) hown hts hKv hXs hXk hM (kX5_takes l D cI cZ ad hX0 (0 : Int32) M _ hx94) (cwV 1 hts gX5_land_X5_takes rfl rfl rfl (by decide +kernel) ⟨Nat.le_of_ble_eq_true rfl, Nat.le_of_ble_eq_true rfl⟩) (by decide) at_X5 rfl rfl rfl rfl (Nat.le_of_ble_eq_true rfl) dX5_land_132 ⟨Nat.zero_le _, Nat.zero_le _⟩ (fun H locs hM => ?_)
              refine lv_istore_n (lv' := [(3, .int x94.1), (2, .int (0 : Int32)), (0, .ref (ad 0)), (1, .int v1)]) hx hb dX5_land_135 rfl hl (by decide) rfl (fun ls hl => ?_)
              refine lv_aload_n hx hb dX5_land_136 rfl (lv_at hl 2 rfl) ?_
              obtain ⟨x95, hx95, h⟩ := Option.bind_eq_some_iff.mp h
              refine m_callV (As := []) (st1 := [.int x95]) hx hb (hml.trans hl.1.symm) hown hts hKv hXs hXk hM (kX5_isWell l D cI cZ ad hX0  x94.2 _ hx95) (cwV 0 hts gX5_land_X5_isWell rfl rfl rfl (by decide +kernel) ⟨Nat.le_of_ble_eq_true rfl, Nat.le_of_ble_eq_true rfl⟩) (by decide) at_X5 rfl rfl rfl rfl (Nat.le_of_ble_eq_true rfl) dX5_land_137 ⟨Nat.zero_le _, Nat.zero_le _⟩ (fun H locs hM => ?_)
              refine lv_if_eq (tgt := 148) hx hb dX5_land_140 (by decide) (fun c96 => ?_) (fun c96 => ?_)
              · replace h := (if_pos c96).symm.trans h
                refine lv_aload_n hx hb dX5_land_148 rfl (lv_at hl 2 rfl) ?_
                refine lv_aload_n hx hb dX5_land_149 rfl (lv_at hl 2 rfl) ?_
                refine m_get hx hb hts hown hKv hM (fun _ h => List.mem_cons_of_mem _ (List.mem_append_right _ (h))) (by decide) at_X5 rfl 5 (by decide) k0 (v := .int (x94.2.1 0 5)) rfl dX5_land_150 ?_
                refine lv_iconst (v := (3 : Int32)) hx hb dX5_land_153 (by decide) ?_
                refine lv_icmp_ne (tgt := 161) hx hb dX5_land_154 (by decide) (fun c97 => ?_) (fun c97 => ?_)
                · replace h := (if_neg c97).symm.trans h
                  refine lv_iconst (v := (0 : Int32)) hx hb dX5_land_161 (by decide) ?_
                  obtain ⟨x98, hx98, h⟩ := Option.bind_eq_some_iff.mp h
                  refine m_callV (As := [.int (0 : Int32)]) (st1 := [.int x98.1]) hx hb (hml.trans hl.1.symm) hown hts hKv hXs hXk hM (kX5_takes l D cI cZ ad hX0 (0 : Int32) x94.2 _ hx98) (cwV 1 hts gX5_land_X5_takes rfl rfl rfl (by decide +kernel) ⟨Nat.le_of_ble_eq_true rfl, Nat.le_of_ble_eq_true rfl⟩) (by decide) at_X5 rfl rfl rfl rfl (Nat.le_of_ble_eq_true rfl) dX5_land_162 ⟨Nat.zero_le _, Nat.zero_le _⟩ (fun H locs hM => ?_)
                  refine lv_pop hx hb dX5_land_165 rfl ?_
                  refine lv_iinc (v := (v1 + 1)) (lv' := [(1, .int (v1 + 1)), (3, .int x94.1), (2, .int (0 : Int32)), (0, .ref (ad 0))]) hx hb dX5_land_166 hl (k := 3) rfl rfl (by decide) rfl (fun ls hl => ?_)
                  refine lv_goto (tgt := 36) hx hb dX5_land_169 (by decide) ?_
                  exact ih _ _ h _ _ _ (lv_sub hl [3, 0] rfl) hM
                · replace h := (if_pos c97).symm.trans h
                  refine lv_iconst (v := (1 : Int32)) hx hb dX5_land_157 (by decide) ?_
                  refine lv_goto (tgt := 162) hx hb dX5_land_158 (by decide) ?_
                  obtain ⟨x99, hx99, h⟩ := Option.bind_eq_some_iff.mp h
                  refine m_callV (As := [.int (1 : Int32)]) (st1 := [.int x99.1]) hx hb (hml.trans hl.1.symm) hown hts hKv hXs hXk hM (kX5_takes l D cI cZ ad hX0 (1 : Int32) x94.2 _ hx99) (cwV 1 hts gX5_land_X5_takes rfl rfl rfl (by decide +kernel) ⟨Nat.le_of_ble_eq_true rfl, Nat.le_of_ble_eq_true rfl⟩) (by decide) at_X5 rfl rfl rfl rfl (Nat.le_of_ble_eq_true rfl) dX5_land_162 ⟨Nat.zero_le _, Nat.zero_le _⟩ (fun H locs hM => ?_)
                  refine lv_pop hx hb dX5_land_165 rfl ?_
                  refine lv_iinc (v := (v1 + 1)) (lv' := [(1, .int (v1 + 1)), (3, .int x94.1), (2, .int (0 : Int32)), (0, .ref (ad 0))]) hx hb dX5_land_166 hl (k := 3) rfl rfl (by decide) rfl (fun ls hl => ?_)
                  refine lv_goto (tgt := 36) hx hb dX5_land_169 (by decide) ?_
                  exact ih _ _ h _ _ _ (lv_sub hl [3, 0] rfl) hM
              · replace h := (if_neg c96).symm.trans h
                refine lv_aload_n hx hb dX5_land_143 rfl (lv_at hl 2 rfl) ?_
                refine lv_iload_n hx hb dX5_land_144 rfl (lv_at hl 0 rfl) ?_
                obtain ⟨x100, hx100, h⟩ := Option.bind_eq_some_iff.mp h
                refine m_callV (As := [.int x94.1]) (st1 := []) hx hb (hml.trans hl.1.symm) hown hts hKv hXs hXk hM (kX5_readsItem l D cI cZ ad hX0 x94.1 x94.2 _ hx100) (cwV 1 hts gX5_land_X5_readsItem rfl rfl rfl (by decide +kernel) ⟨Nat.le_of_ble_eq_true rfl, Nat.le_of_ble_eq_true rfl⟩) (by decide) at_X5 rfl rfl rfl rfl (Nat.le_of_ble_eq_true rfl) dX5_land_145 ⟨Nat.zero_le _, Nat.zero_le _⟩ (fun H locs hM => ?_)
                refine lv_aload_n hx hb dX5_land_148 rfl (lv_at hl 2 rfl) ?_
                refine lv_aload_n hx hb dX5_land_149 rfl (lv_at hl 2 rfl) ?_
                refine m_get hx hb hts hown hKv hM (fun _ h => List.mem_cons_of_mem _ (List.mem_append_right _ (h))) (by decide) at_X5 rfl 5 (by decide) k0 (v := .int (x100.1 0 5)) rfl dX5_land_150 ?_
                refine lv_iconst (v := (3 : Int32)) hx hb dX5_land_153 (by decide) ?_
                refine lv_icmp_ne (tgt := 161) hx hb dX5_land_154 (by decide) (fun c101 => ?_) (fun c101 => ?_)
                · replace h := (if_neg c101).symm.trans h
                  refine lv_iconst (v := (0 : Int32)) hx hb dX5_land_161 (by decide) ?_
                  obtain ⟨x102, hx102, h⟩ := Option.bind_eq_some_iff.mp h
                  refine m_callV (As := [.int (0 : Int32)]) (st1 := [.int x102.1]) hx hb (hml.trans hl.1.symm) hown hts hKv hXs hXk hM (kX5_takes l D cI cZ ad hX0 (0 : Int32) x100 _ hx102) (cwV 1 hts gX5_land_X5_takes rfl rfl rfl (by decide +kernel) ⟨Nat.le_of_ble_eq_true rfl, Nat.le_of_ble_eq_true rfl⟩) (by decide) at_X5 rfl rfl rfl rfl (Nat.le_of_ble_eq_true rfl) dX5_land_162 ⟨Nat.zero_le _, Nat.zero_le _⟩ (fun H locs hM => ?_)
                  refine lv_pop hx hb dX5_land_165 rfl ?_
                  refine lv_iinc (v := (v1 + 1)) (lv' := [(1, .int (v1 + 1)), (3, .int x94.1), (2, .int (0 : Int32)), (0, .ref (ad 0))]) hx hb dX5_land_166 hl (k := 3) rfl rfl (by decide) rfl (fun ls hl => ?_)
                  refine lv_goto (tgt := 36) hx hb dX5_land_169 (by decide) ?_
                  exact ih _ _ h _ _ _ (lv_sub hl [3, 0] rfl) hM
                · replace h := (if_pos c101).symm.trans h
                  refine lv_iconst (v := (1 : Int32)) hx hb dX5_land_157 (by decide) ?_
                  refine lv_goto (tgt := 162) hx hb dX5_land_158 (by decide) ?_
                  obtain ⟨x103, hx103, h⟩ := Option.bind_eq_some_iff.mp h
                  refine m_callV (As := [.int (1 : Int32)]) (st1 := [.int x103.1]) hx hb (hml.trans hl.1.symm) hown hts hKv hXs hXk hM (kX5_takes l D cI cZ ad hX0 (1 : Int32) x100 _ hx103) (cwV 1 hts gX5_land_X5_takes rfl rfl rfl (by decide +kernel) ⟨Nat.le_of_ble_eq_true rfl, Nat.le_of_ble_eq_true rfl⟩) (by decide) at_X5 rfl rfl rfl rfl (Nat.le_of_ble_eq_true rfl) dX5_land_162 ⟨Nat.zero_le _, Nat.zero_le _⟩ (fun H locs hM => ?_)
                  refine lv_pop hx hb dX5_land_165 rfl ?_
                  refine lv_iinc (v := (v1 + 1)) (lv' := [(1, .int (v1 + 1)), (3, .int x94.1), (2, .int (0 : Int32)), (0, .ref (ad 0))]) hx hb dX5_land_166 hl (k := 3) rfl rfl (by decide) rfl (fun ls hl => ?_)
                  refine lv_goto (tgt := 36) hx hb dX5_land_169 (by decide) ?_
                  exact ih _ _ h _ _ _ (lv_sub hl [3, 0] rfl) hM
            · replace h := (if_pos c93).symm.trans h
              refine lv_iload_n hx hb dX5_land_123 rfl (lv_at hl 0 rfl) ?_
              refine lv_if_eq (tgt := 131) hx hb dX5_land_124 (by decide) (fun _ => ?_) (fun c => absurd c (by decide))
              refine lv_iconst (v := (0 : Int32)) hx hb dX5_land_131 (by decide) ?_
              obtain ⟨x104, hx104, h⟩ := Option.bind_eq_some_iff.mp h
              refine m_callV (As := [.int (0 : Int32)]) (st1 := [.int x104.1]) hx hb (hml.trans hl.1.symm) hown hts hKv hXs hXk hM (kX5_takes l D cI cZ ad hX0 (0 : Int32) M _ hx104) (cwV 1 hts gX5_land_X5_takes rfl rfl rfl (by decide +kernel) ⟨Nat.le_of_ble_eq_true rfl, Nat.le_of_ble_eq_true rfl⟩) (by decide) at_X5 rfl rfl rfl rfl (Nat.le_of_ble_eq_true rfl) dX5_land_132 ⟨Nat.zero_le _, Nat.zero_le _⟩ (fun H locs hM => ?_)
              refine lv_istore_n (lv' := [(3, .int x104.1), (2, .int (0 : Int32)), (0, .ref (ad 0)), (1, .int v1)]) hx hb dX5_land_135 rfl hl (by decide) rfl (fun ls hl => ?_)
              refine lv_aload_n hx hb dX5_land_136 rfl (lv_at hl 2 rfl) ?_
              obtain ⟨x105, hx105, h⟩ := Option.bind_eq_some_iff.mp h
              refine m_callV (As := []) (st1 := [.int x105]) hx hb (hml.trans hl.1.symm) hown hts hKv hXs hXk hM (kX5_isWell l D cI cZ ad hX0  x104.2 _ hx105) (cwV 0 hts gX5_land_X5_isWell rfl rfl rfl (by decide +kernel) ⟨Nat.le_of_ble_eq_true rfl, Nat.le_of_ble_eq_true rfl⟩) (by decide) at_X5 rfl rfl rfl rfl (Nat.le_of_ble_eq_true rfl) dX5_land_137 ⟨Nat.zero_le _, Nat.zero_le _⟩ (fun H locs hM => ?_)
              refine lv_if_eq (tgt := 148) hx hb dX5_land_140 (by decide) (fun c106 => ?_) (fun c106 => ?_)
              · replace h := (if_pos c106).symm.trans h
                refine lv_aload_n hx hb dX5_land_148 rfl (lv_at hl 2 rfl) ?_
                refine lv_aload_n hx hb dX5_land_149 rfl (lv_at hl 2 rfl) ?_
                refine m_get hx hb hts hown hKv hM (fun _ h => List.mem_cons_of_mem _ (List.mem_append_right _ (h))) (by decide) at_X5 rfl 5 (by decide) k0 (v := .int (x104.2.1 0 5)) rfl dX5_land_150 ?_
                refine lv_iconst (v := (3 : Int32)) hx hb dX5_land_153 (by decide) ?_
                refine lv_icmp_ne (tgt := 161) hx hb dX5_land_154 (by decide) (fun c107 => ?_) (fun c107 => ?_)
                · replace h := (if_neg c107).symm.trans h
                  refine lv_iconst (v := (0 : Int32)) hx hb dX5_land_161 (by decide) ?_
                  obtain ⟨x108, hx108, h⟩ := Option.bind_eq_some_iff.mp h
                  refine m_callV (As := [.int (0 : Int32)]) (st1 := [.int x108.1]) hx hb (hml.trans hl.1.symm) hown hts hKv hXs hXk hM (kX5_takes l D cI cZ ad hX0 (0 : Int32) x104.2 _ hx108) (cwV 1 hts gX5_land_X5_takes rfl rfl rfl (by decide +kernel) ⟨Nat.le_of_ble_eq_true rfl, Nat.le_of_ble_eq_true rfl⟩) (by decide) at_X5 rfl rfl rfl rfl (Nat.le_of_ble_eq_true rfl) dX5_land_162 ⟨Nat.zero_le _, Nat.zero_le _⟩ (fun H locs hM => ?_)
                  refine lv_pop hx hb dX5_land_165 rfl ?_
                  refine lv_iinc (v := (v1 + 1)) (lv' := [(1, .int (v1 + 1)), (3, .int x104.1), (2, .int (0 : Int32)), (0, .ref (ad 0))]) hx hb dX5_land_166 hl (k := 3) rfl rfl (by decide) rfl (fun ls hl => ?_)
                  refine lv_goto (tgt := 36) hx hb dX5_land_169 (by decide) ?_
                  exact ih _ _ h _ _ _ (lv_sub hl [3, 0] rfl) hM
                · replace h := (if_pos c107).symm.trans h
                  refine lv_iconst (v := (1 : Int32)) hx hb dX5_land_157 (by decide) ?_
                  refine lv_goto (tgt := 162) hx hb dX5_land_158 (by decide) ?_
                  obtain ⟨x109, hx109, h⟩ := Option.bind_eq_some_iff.mp h
                  refine m_callV (As := [.int (1 : Int32)]) (st1 := [.int x109.1]) hx hb (hml.trans hl.1.symm) hown hts hKv hXs hXk hM (kX5_takes l D cI cZ ad hX0 (1 : Int32) x104.2 _ hx109) (cwV 1 hts gX5_land_X5_takes rfl rfl rfl (by decide +kernel) ⟨Nat.le_of_ble_eq_true rfl, Nat.le_of_ble_eq_true rfl⟩) (by decide) at_X5 rfl rfl rfl rfl (Nat.le_of_ble_eq_true rfl) dX5_land_162 ⟨Nat.zero_le _, Nat.zero_le _⟩ (fun H locs hM => ?_)
                  refine lv_pop hx hb dX5_land_165 rfl ?_
                  refine lv_iinc (v := (v1 + 1)) (lv' := [(1, .int (v1 + 1)), (3, .int x104.1), (2, .int (0 : Int32)), (0, .ref (ad 0))]) hx hb dX5_land_166 hl (k := 3) rfl rfl (by decide) rfl (fun ls hl => ?_)
                  refine lv_goto (tgt := 36) hx hb dX5_land_169 (by decide) ?_
                  exact ih _ _ h _ _ _ (lv_sub hl [3, 0] rfl) hM
              · replace h := (if_neg c106).symm.trans h
                refine lv_aload_n hx hb dX5_land_143 rfl (lv_at hl 2 rfl) ?_
                refine lv_iload_n hx hb dX5_land_144 rfl (lv_at hl 0 rfl) ?_
                obtain ⟨x110, hx110, h⟩ := Option.bind_eq_some_iff.mp h
                refine m_callV (As := [.int x104.1]) (st1 := []) hx hb (hml.trans hl.1.symm) hown hts hKv hXs hXk hM (kX5_readsItem l D cI cZ ad hX0 x104.1 x104.2 _ hx110) (cwV 1 hts gX5_land_X5_readsItem rfl rfl rfl (by decide +kernel) ⟨Nat.le_of_ble_eq_true rfl, Nat.le_of_ble_eq_true rfl⟩) (by decide) at_X5 rfl rfl rfl rfl (Nat.le_of_ble_eq_true rfl) dX5_land_145 ⟨Nat.zero_le _, Nat.zero_le _⟩ (fun H locs hM => ?_)
                refine lv_aload_n hx hb dX5_land_148 rfl (lv_at hl 2 rfl) ?_
                refine lv_aload_n hx hb dX5_land_149 rfl (lv_at hl 2 rfl) ?_
                refine m_get hx hb hts hown hKv hM (fun _ h => List.mem_cons_of_mem _ (List.mem_append_right _ (h))) (by decide) at_X5 rfl 5 (by decide) k0 (v := .int (x110.1 0 5)) rfl dX5_land_150 ?_
                refine lv_iconst (v := (3 : Int32)) hx hb dX5_land_153 (by decide) ?_
                refine lv_icmp_ne (tgt := 161) hx hb dX5_land_154 (by decide) (fun c111 => ?_) (fun c111 => ?_)
                · replace h := (if_neg c111).symm.trans h
                  refine lv_iconst (v := (0 : Int32)) hx hb dX5_land_161 (by decide) ?_
                  obtain ⟨x112, hx112, h⟩ := Option.bind_eq_some_iff.mp h
                  refine m_callV (As := [.int (0 : Int32)]) (st1 := [.int x112.1]) hx hb (hml.trans hl.1.symm) hown hts hKv hXs hXk hM (kX5_takes l D cI cZ ad hX0 (0 : Int32) x110 _ hx112) (cwV 1 hts gX5_land_X5_takes rfl rfl rfl (by decide +kernel) ⟨Nat.le_of_ble_eq_true rfl, Nat.le_of_ble_eq_true rfl⟩) (by decide) at_X5 rfl rfl rfl rfl (Nat.le_of_ble_eq_true rfl) dX5_land_162 ⟨Nat.zero_le _, Nat.zero_le _⟩ (fun H locs hM => ?_)
                  refine lv_pop hx hb dX5_land_165 rfl ?_
                  refine lv_iinc (v := (v1 + 1)) (lv' := [(1, .int (v1 + 1)), (3, .int x104.1), (2, .int (0 : Int32)), (0, .ref (ad 0))]) hx hb dX5_land_166 hl (k := 3) rfl rfl (by decide) rfl (fun ls hl => ?_)
                  refine lv_goto (tgt := 36) hx hb dX5_land_169 (by decide) ?_
                  exact ih _ _ h _ _ _ (lv_sub hl [3, 0] rfl) hM
                · replace h := (if_pos c111).symm.trans h
                  refine lv_iconst (v := (1 : Int32)) hx hb dX5_land_157 (by decide) ?_
                  refine lv_goto (tgt := 162) hx hb dX5_land_158 (by decide) ?_
                  obtain ⟨x113, hx113, h⟩ := Option.bind_eq_some_iff.mp h
                  refine m_callV (As := [.int (1 : Int32)]) (st1 := [.int x113.1]) hx hb (hml.trans hl.1.symm) hown hts hKv hXs hXk hM (kX5_takes l D cI cZ ad hX0 (1 : Int32) x110 _ hx113) (cwV 1 hts gX5_land_X5_takes rfl rfl rfl (by decide +kernel) ⟨Nat.le_of_ble_eq_true rfl, Nat.le_of_ble_eq_true rfl⟩) (by decide) at_X5 rfl rfl rfl rfl (Nat.le_of_ble_eq_true rfl) dX5_land_162 ⟨Nat.zero_le _, Nat.zero_le _⟩ (fun H locs hM => ?_)
                  refine lv_pop hx hb dX5_land_165 rfl ?_
                  refine lv_iinc (v := (v1 + 1)) (lv' := [(1, .int (v1 + 1)), (3, .int x104.1), (2, .int (0 : Int32)), (0, .ref (ad 0))]) hx hb dX5_land_166 hl (k := 3) rfl rfl (by decide) rfl (fun ls hl => ?_)
                  refine lv_goto (tgt := 36) hx hb dX5_land_169 (by decide) ?_
                  exact ih _ _ h _ _ _ (lv_sub hl [3, 0] rfl) hM
          · replace h := (if_neg c92).symm.trans h
            refine lv_iconst (v := (1 : Int32)) hx hb dX5_land_66 (by decide) ?_
            refine lv_goto (tgt := 113) hx hb dX5_land_67 (by decide) ?_
            refine lv_istore_n (lv' := [(2, .int (1 : Int32)), (0, .ref (ad 0)), (1, .int v1)]) hx hb dX5_land_113 rfl hl (by decide) rfl (fun ls hl => ?_)
            refine lv_aload_n hx hb dX5_land_114 rfl (lv_at hl 1 rfl) ?_
            refine lv_aload_n hx hb dX5_land_115 rfl (lv_at hl 1 rfl) ?_
            refine m_get hx hb hts hown hKv hM (fun _ h => List.mem_cons_of_mem _ (List.mem_append_right _ (h))) (by decide) at_X5 rfl 5 (by decide) k0 (v := .int (M.1 0 5)) rfl dX5_land_116 ?_
            refine lv_iconst (v := (1 : Int32)) hx hb dX5_land_119 (by decide) ?_
            refine lv_icmp_ne (tgt := 131) hx hb dX5_land_120 (by decide) (fun c114 => ?_) (fun c114 => ?_)
            · replace h := (if_neg c114).symm.trans h
              refine lv_iconst (v := (0 : Int32)) hx hb dX5_land_131 (by decide) ?_
              obtain ⟨x115, hx115, h⟩ := Option.bind_eq_some_iff.mp h
              refine m_callV (As := [.int (0 : Int32)]) (st1 := [.int x115.1]) hx hb (hml.trans hl.1.symm) hown hts hKv hXs hXk hM (kX5_takes l D cI cZ ad hX0 (0 : Int32) M _ hx115) (cwV 1 hts gX5_land_X5_takes rfl rfl rfl (by decide +kernel) ⟨Nat.le_of_ble_eq_true rfl, Nat.le_of_ble_eq_true rfl⟩) (by decide) at_X5 rfl rfl rfl rfl (Nat.le_of_ble_eq_true rfl) dX5_land_132 ⟨Nat.zero_le _, Nat.zero_le _⟩ (fun H locs hM => ?_)
              refine lv_istore_n (lv' := [(3, .int x115.1), (2, .int (1 : Int32)), (0, .ref (ad 0)), (1, .int v1)]) hx hb dX5_land_135 rfl hl (by decide) rfl (fun ls hl => ?_)
              refine lv_aload_n hx hb dX5_land_136 rfl (lv_at hl 2 rfl) ?_
              obtain ⟨x116, hx116, h⟩ := Option.bind_eq_some_iff.mp h
              refine m_callV (As := []) (st1 := [.int x116]) hx hb (hml.trans hl.1.symm) hown hts hKv hXs hXk hM (kX5_isWell l D cI cZ ad hX0  x115.2 _ hx116) (cwV 0 hts gX5_land_X5_isWell rfl rfl rfl (by decide +kernel) ⟨Nat.le_of_ble_eq_true rfl, Nat.le_of_ble_eq_true rfl⟩) (by decide) at_X5 rfl rfl rfl rfl (Nat.le_of_ble_eq_true rfl) dX5_land_137 ⟨Nat.zero_le _, Nat.zero_le _⟩ (fun H locs hM => ?_)
              refine lv_if_eq (tgt := 148) hx hb dX5_land_140 (by decide) (fun c117 => ?_) (fun c117 => ?_)
              · replace h := (if_pos c117).symm.trans h
                refine lv_aload_n hx hb dX5_land_148 rfl (lv_at hl 2 rfl) ?_
                refine lv_aload_n hx hb dX5_land_149 rfl (lv_at hl 2 rfl) ?_
                refine m_get hx hb hts hown hKv hM (fun _ h => List.mem_cons_of_mem _ (List.mem_append_right _ (h))) (by decide) at_X5 rfl 5 (by decide) k0 (v := .int (x115.2.1 0 5)) rfl dX5_land_150 ?_
                refine lv_iconst (v := (3 : Int32)) hx hb dX5_land_153 (by decide) ?_
                refine lv_icmp_ne (tgt := 161) hx hb dX5_land_154 (by decide) (fun c118 => ?_) (fun c118 => ?_)
                · replace h := (if_neg c118).symm.trans h
                  refine lv_iconst (v := (0 : Int32)) hx hb dX5_land_161 (by decide) ?_
                  obtain ⟨x119, hx119, h⟩ := Option.bind_eq_some_iff.mp h
                  refine m_callV (As := [.int (0 : Int32)]) (st1 := [.int x119.1]) hx hb (hml.trans hl.1.symm) hown hts hKv hXs hXk hM (kX5_takes l D cI cZ ad hX0 (0 : Int32) x115.2 _ hx119) (cwV 1 hts gX5_land_X5_takes rfl rfl rfl (by decide +kernel) ⟨Nat.le_of_ble_eq_true rfl, Nat.le_of_ble_eq_true rfl⟩) (by decide) at_X5 rfl rfl rfl rfl (Nat.le_of_ble_eq_true rfl) dX5_land_162 ⟨Nat.zero_le _, Nat.zero_le _⟩ (fun H locs hM => ?_)
                  refine lv_pop hx hb dX5_land_165 rfl ?_
                  refine lv_iinc (v := (v1 + 1)) (lv' := [(1, .int (v1 + 1)), (3, .int x115.1), (2, .int (1 : Int32)), (0, .ref (ad 0))]) hx hb dX5_land_166 hl (k := 3) rfl rfl (by decide) rfl (fun ls hl => ?_)
                  refine lv_goto (tgt := 36) hx hb dX5_land_169 (by decide) ?_
                  exact ih _ _ h _ _ _ (lv_sub hl [3, 0] rfl) hM
                · replace h := (if_pos c118).symm.trans h
                  refine lv_iconst (v := (1 : Int32)) hx hb dX5_land_157 (by decide) ?_
                  refine lv_goto (tgt := 162) hx hb dX5_land_158 (by decide) ?_
                  obtain ⟨x120, hx120, h⟩ := Option.bind_eq_some_iff.mp h
                  refine m_callV (As := [.int (1 : Int32)]) (st1 := [.int x120.1]) hx hb (hml.trans hl.1.symm) hown hts hKv hXs hXk hM (kX5_takes l D cI cZ ad hX0 (1 : Int32) x115.2 _ hx120) (cwV 1 hts gX5_land_X5_takes rfl rfl rfl (by decide +kernel) ⟨Nat.le_of_ble_eq_true rfl, Nat.le_of_ble_eq_true rfl⟩) (by decide) at_X5 rfl rfl rfl rfl (Nat.le_of_ble_eq_true rfl) dX5_land_162 ⟨Nat.zero_le _, Nat.zero_le _⟩ (fun H locs hM => ?_)
                  refine lv_pop hx hb dX5_land_165 rfl ?_
                  refine lv_iinc (v := (v1 + 1)) (lv' := [(1, .int (v1 + 1)), (3, .int x115.1), (2, .int (1 : Int32)), (0, .ref (ad 0))]) hx hb dX5_land_166 hl (k := 3) rfl rfl (by decide) rfl (fun ls hl => ?_)
                  refine lv_goto (tgt := 36) hx hb dX5_land_169 (by decide) ?_
                  exact ih _ _ h _ _ _ (lv_sub hl [3, 0] rfl) hM
              · replace h := (if_neg c117).symm.trans h
                refine lv_aload_n hx hb dX5_land_143 rfl (lv_at hl 2 rfl) ?_
                refine lv_iload_n hx hb dX5_land_144 rfl (lv_at hl 0 rfl) ?_
                obtain ⟨x121, hx121, h⟩ := Option.bind_eq_some_iff.mp h
                refine m_callV (As := [.int x115.1]) (st1 := []) hx hb (hml.trans hl.1.symm) hown hts hKv hXs hXk hM (kX5_readsItem l D cI cZ ad hX0 x115.1 x115.2 _ hx121) (cwV 1 hts gX5_land_X5_readsItem rfl rfl rfl (by decide +kernel) ⟨Nat.le_of_ble_eq_true rfl, Nat.le_of_ble_eq_true rfl⟩) (by decide) at_X5 rfl rfl rfl rfl (Nat.le_of_ble_eq_true rfl) dX5_land_145 ⟨Nat.zero_le _, Nat.zero_le _⟩ (fun H locs hM => ?_)
                refine lv_aload_n hx hb dX5_land_148 rfl (lv_at hl 2 rfl) ?_
                refine lv_aload_n hx hb dX5_land_149 rfl (lv_at hl 2 rfl) ?_
                refine m_get hx hb hts hown hKv hM (fun _ h => List.mem_cons_of_mem _ (List.mem_append_right _ (h))) (by decide) at_X5 rfl 5 (by decide) k0 (v := .int (x121.1 0 5)) rfl dX5_land_150 ?_
                refine lv_iconst (v := (3 : Int32)) hx hb dX5_land_153 (by decide) ?_
                refine lv_icmp_ne (tgt := 161) hx hb dX5_land_154 (by decide) (fun c122 => ?_) (fun c122 => ?_)
                · replace h := (if_neg c122).symm.trans h
                  refine lv_iconst (v := (0 : Int32)) hx hb dX5_land_161 (by decide) ?_
                  obtain ⟨x123, hx123, h⟩ := Option.bind_eq_some_iff.mp h
                  refine m_callV (As := [.int (0 : Int32)]) (st1 := [.int x123.1]) hx hb (hml.trans hl.1.symm) hown hts hKv hXs hXk hM (kX5_takes l D cI cZ ad hX0 (0 : Int32) x121 _ hx123) (cwV 1 hts gX5_land_X5_takes rfl rfl rfl (by decide +kernel) ⟨Nat.le_of_ble_eq_true rfl, Nat.le_of_ble_eq_true rfl⟩) (by decide) at_X5 rfl rfl rfl rfl (Nat.le_of_ble_eq_true rfl) dX5_land_162 ⟨Nat.zero_le _, Nat.zero_le _⟩ (fun H locs hM => ?_)
                  refine lv_pop hx hb dX5_land_165 rfl ?_
                  refine lv_iinc (v := (v1 + 1)) (lv' := [(1, .int (v1 + 1)), (3, .int x115.1), (2, .int (1 : Int32)), (0, .ref (ad 0))]) hx hb dX5_land_166 hl (k := 3) rfl rfl (by decide) rfl (fun ls hl => ?_)
                  refine lv_goto (tgt := 36) hx hb dX5_land_169 (by decide) ?_
                  exact ih _ _ h _ _ _ (lv_sub hl [3, 0] rfl) hM
                · replace h := (if_pos c122).symm.trans h
                  refine lv_iconst (v := (1 : Int32)) hx hb dX5_land_157 (by decide) ?_
                  refine lv_goto (tgt := 162) hx hb dX5_land_158 (by decide) ?_
                  obtain ⟨x124, hx124, h⟩ := Option.bind_eq_some_iff.mp h
                  refine m_callV (As := [.int (1 : Int32)]) (st1 := [.int x124.1]) hx hb (hml.trans hl.1.symm) hown hts hKv hXs hXk hM (kX5_takes l D cI cZ ad hX0 (1 : Int32) x121 _ hx124) (cwV 1 hts gX5_land_X5_takes rfl rfl rfl (by decide +kernel) ⟨Nat.le_of_ble_eq_true rfl, Nat.le_of_ble_eq_true rfl⟩) (by decide) at_X5 rfl rfl rfl rfl (Nat.le_of_ble_eq_true rfl) dX5_land_162 ⟨Nat.zero_le _, Nat.zero_le _⟩ (fun H locs hM => ?_)
                  refine lv_pop hx hb dX5_land_165 rfl ?_
                  refine lv_iinc (v := (v1 + 1)) (lv' := [(1, .int (v1 + 1)), (3, .int x115.1), (2, .int (1 : Int32)), (0, .ref (ad 0))]) hx hb dX5_land_166 hl (k := 3) rfl rfl (by decide) rfl (fun ls hl => ?_)
                  refine lv_goto (tgt := 36) hx hb dX5_land_169 (by decide) ?_
                  exact ih _ _ h _ _ _ (lv_sub hl [3, 0] rfl) hM
            · replace h := (if_pos c114).symm.trans h
              refine lv_iload_n hx hb dX5_land_123 rfl (lv_at hl 0 rfl) ?_
              refine lv_if_eq (tgt := 131) hx hb dX5_land_124 (by decide) (fun c => absurd c (by decide)) (fun _ => ?_)
              refine lv_iconst (v := (1 : Int32)) hx hb dX5_land_127 (by decide) ?_
              refine lv_goto (tgt := 132) hx hb dX5_land_128 (by decide) ?_
              obtain ⟨x125, hx125, h⟩ := Option.bind_eq_some_iff.mp h
              refine m_callV (As := [.int (1 : Int32)]) (st1 := [.int x125.1]) hx hb (hml.trans hl.1.symm) hown hts hKv hXs hXk hM (kX5_takes l D cI cZ ad hX0 (1 : Int32) M _ hx125) (cwV 1 hts gX5_land_X5_takes rfl rfl rfl (by decide +kernel) ⟨Nat.le_of_ble_eq_true rfl, Nat.le_of_ble_eq_true rfl⟩) (by decide) at_X5 rfl rfl rfl rfl (Nat.le_of_ble_eq_true rfl) dX5_land_132 ⟨Nat.zero_le _, Nat.zero_le _⟩ (fun H locs hM => ?_)
              refine lv_istore_n (lv' := [(3, .int x125.1), (2, .int (1 : Int32)), (0, .ref (ad 0)), (1, .int v1)]) hx hb dX5_land_135 rfl hl (by decide) rfl (fun ls hl => ?_)
              refine lv_aload_n hx hb dX5_land_136 rfl (lv_at hl 2 rfl) ?_
              obtain ⟨x126, hx126, h⟩ := Option.bind_eq_some_iff.mp h
              refine m_callV (As := []) (st1 := [.int x126]) hx hb (hml.trans hl.1.symm) hown hts hKv hXs hXk hM (kX5_isWell l D cI cZ ad hX0  x125.2 _ hx126) (cwV 0 hts gX5_land_X5_isWell rfl rfl rfl (by decide +kernel) ⟨Nat.le_of_ble_eq_true rfl, Nat.le_of_ble_eq_true rfl⟩) (by decide) at_X5 rfl rfl rfl rfl (Nat.le_of_ble_eq_true rfl) dX5_land_137 ⟨Nat.zero_le _, Nat.zero_le _⟩ (fun H locs hM => ?_)
              refine lv_if_eq (tgt := 148) hx hb dX5_land_140 (by decide) (fun c127 => ?_) (fun c127 => ?_)
              · replace h := (if_pos c127).symm.trans h
                refine lv_aload_n hx hb dX5_land_148 rfl (lv_at hl 2 rfl) ?_
                refine lv_aload_n hx hb dX5_land_149 rfl (lv_at hl 2 rfl) ?_
                refine m_get hx hb hts hown hKv hM (fun _ h => List.mem_cons_of_mem _ (List.mem_append_right _ (h))) (by decide) at_X5 rfl 5 (by decide) k0 (v := .int (x125.2.1 0 5)) rfl dX5_land_150 ?_
                refine lv_iconst (v := (3 : Int32)) hx hb dX5_land_153 (by decide) ?_
                refine lv_icmp_ne (tgt := 161) hx hb dX5_land_154 (by decide) (fun c128 => ?_) (fun c128 => ?_)
                · replace h := (if_neg c128).symm.trans h
                  refine lv_iconst (v := (0 : Int32)) hx hb dX5_land_161 (by decide) ?_
                  obtain ⟨x129, hx129, h⟩ := Option.bind_eq_some_iff.mp h
                  refine m_callV (As := [.int (0 : Int32)]) (st1 := [.int x129.1]) hx hb (hml.trans hl.1.symm) hown hts hKv hXs hXk hM (kX5_takes l D cI cZ ad hX0 (0 : Int32) x125.2 _ hx129) (cwV 1 hts gX5_land_X5_takes rfl rfl rfl (by decide +kernel) ⟨Nat.le_of_ble_eq_true rfl, Nat.le_of_ble_eq_true rfl⟩) (by decide) at_X5 rfl rfl rfl rfl (Nat.le_of_ble_eq_true rfl) dX5_land_162 ⟨Nat.zero_le _, Nat.zero_le _⟩ (fun H locs hM => ?_)
                  refine lv_pop hx hb dX5_land_165 rfl ?_
                  refine lv_iinc (v := (v1 + 1)) (lv' := [(1, .int (v1 + 1)), (3, .int x125.1), (2, .int (1 : Int32)), (0, .ref (ad 0))]) hx hb dX5_land_166 hl (k := 3) rfl rfl (by decide) rfl (fun ls hl => ?_)
                  refine lv_goto (tgt := 36) hx hb dX5_land_169 (by decide) ?_
                  exact ih _ _ h _ _ _ (lv_sub hl [3, 0] rfl) hM
                · replace h := (if_pos c128).symm.trans h
                  refine lv_iconst (v := (1 : Int32)) hx hb dX5_land_157 (by decide) ?_
                  refine lv_goto (tgt := 162) hx hb dX5_land_158 (by decide) ?_
                  obtain ⟨x130, hx130, h⟩ := Option.bind_eq_some_iff.mp h
                  refine m_callV (As := [.int (1 : Int32)]) (st1 := [.int x130.1]) hx hb (hml.trans hl.1.symm) hown hts hKv hXs hXk hM (kX5_takes l D cI cZ ad hX0 (1 : Int32) x125.2 _ hx130) (cwV 1 hts gX5_land_X5_takes rfl rfl rfl (by decide +kernel) ⟨Nat.le_of_ble_eq_true rfl, Nat.le_of_ble_eq_true rfl⟩) (by decide) at_X5 rfl rfl rfl rfl (Nat.le_of_ble_eq_true rfl) dX5_land_162 ⟨Nat.zero_le _, Nat.zero_le _⟩ (fun H locs hM => ?_)
                  refine lv_pop hx hb dX5_land_165 rfl ?_
                  refine lv_iinc (v := (v1 + 1)) (lv' := [(1, .int (v1 + 1)), (3, .int x125.1), (2, .int (1 : Int32)), (0, .ref (ad 0))]) hx hb dX5_land_166 hl (k := 3) rfl rfl (by decide) rfl (fun ls hl => ?_)
                  refine lv_goto (tgt := 36) hx hb dX5_land_169 (by decide) ?_
                  exact ih _ _ h _ _ _ (lv_sub hl [3, 0] rfl) hM
              · replace h := (if_neg c127).symm.trans h
                refine lv_aload_n hx hb dX5_land_143 rfl (lv_at hl 2 rfl) ?_
                refine lv_iload_n hx hb dX5_land_144 rfl (lv_at hl 0 rfl) ?_
                obtain ⟨x131, hx131, h⟩ := Option.bind_eq_some_iff.mp h
                refine m_callV (As := [.int x125.1]) (st1 := []) hx hb (hml.trans hl.1.symm) hown hts hKv hXs hXk hM (kX5_readsItem l D cI cZ ad hX0 x125.1 x125.2 _ hx131) (cwV 1 hts gX5_land_X5_readsItem rfl rfl rfl (by decide +kernel) ⟨Nat.le_of_ble_eq_true rfl, Nat.le_of_ble_eq_true rfl⟩) (by decide) at_X5 rfl rfl rfl rfl (Nat.le_of_ble_eq_true rfl) dX5_land_145 ⟨Nat.zero_le _, Nat.zero_le _⟩ (fun H locs hM => ?_)
                refine lv_aload_n hx hb dX5_land_148 rfl (lv_at hl 2 rfl) ?_
                refine lv_aload_n hx hb dX5_land_149 rfl (lv_at hl 2 rfl) ?_
                refine m_get hx hb hts hown hKv hM (fun _ h => List.mem_cons_of_mem _ (List.mem_append_right _ (h))) (by decide) at_X5 rfl 5 (by decide) k0 (v := .int (x131.1 0 5)) rfl dX5_land_150 ?_
                refine lv_iconst (v := (3 : Int32)) hx hb dX5_land_153 (by decide) ?_
                refine lv_icmp_ne (tgt := 161) hx hb dX5_land_154 (by decide) (fun c132 => ?_) (fun c132 => ?_)
                · replace h := (if_neg c132).symm.trans h
                  refine lv_iconst (v := (0 : Int32)) hx hb dX5_land_161 (by decide) ?_
                  obtain ⟨x133, hx133, h⟩ := Option.bind_eq_some_iff.mp h
                  refine m_callV (As := [.int (0 : Int32)]) (st1 := [.int x133.1]) hx hb (hml.trans hl.1.symm) hown hts hKv hXs hXk hM (kX5_takes l D cI cZ ad hX0 (0 : Int32) x131 _ hx133) (cwV 1 hts gX5_land_X5_takes rfl rfl rfl (by decide +kernel) ⟨Nat.le_of_ble_eq_true rfl, Nat.le_of_ble_eq_true rfl⟩) (by decide) at_X5 rfl rfl rfl rfl (Nat.le_of_ble_eq_true rfl) dX5_land_162 ⟨Nat.zero_le _, Nat.zero_le _⟩ (fun H locs hM => ?_)
                  refine lv_pop hx hb dX5_land_165 rfl ?_
                  refine lv_iinc (v := (v1 + 1)) (lv' := [(1, .int (v1 + 1)), (3, .int x125.1), (2, .int (1 : Int32)), (0, .ref (ad 0))]) hx hb dX5_land_166 hl (k := 3) rfl rfl (by decide) rfl (fun ls hl => ?_)
                  refine lv_goto (tgt := 36) hx hb dX5_land_169 (by decide) ?_
                  exact ih _ _ h _ _ _ (lv_sub hl [3, 0] rfl) hM
                · replace h := (if_pos c132).symm.trans h
                  refine lv_iconst (v := (1 : Int32)) hx hb dX5_land_157 (by decide) ?_
                  refine lv_goto (tgt := 162) hx hb dX5_land_158 (by decide) ?_
                  obtain ⟨x134, hx134, h⟩ := Option.bind_eq_some_iff.mp h
                  refine m_callV (As := [.int (1 : Int32)]) (st1 := [.int x134.1]) hx hb (hml.trans hl.1.symm) hown hts hKv hXs hXk hM (kX5_takes l D cI cZ ad hX0 (1 : Int32) x131 _ hx134) (cwV 1 hts gX5_land_X5_takes rfl rfl rfl (by decide +kernel) ⟨Nat.le_of_ble_eq_true rfl, Nat.le_of_ble_eq_true rfl⟩) (by decide) at_X5 rfl rfl rfl rfl (Nat.le_of_ble_eq_true rfl) dX5_land_162 ⟨Nat.zero_le _, Nat.zero_le _⟩ (fun H locs hM => ?_)
                  refine lv_pop hx hb dX5_land_165 rfl ?_
                  refine lv_iinc (v := (v1 + 1)) (lv' := [(1, .int (v1 + 1)), (3, .int x125.1), (2, .int (1 : Int32)), (0, .ref (ad 0))]) hx hb dX5_land_166 hl (k := 3) rfl rfl (by decide) rfl (fun ls hl => ?_)
                  refine lv_goto (tgt := 36) hx hb dX5_land_169 (by decide) ?_
                  exact ih _ _ h _ _ _ (lv_sub hl [3, 0] rfl) hM
set_option maxHeartbeats 4000000 in
set_option maxRecDepth 100000 in
theorem wX5_land_213 {p : Program} {l : Launch} {e : Env} {s : State} {m : MethodId} {args : Array Value} {below : List Frame} {meth : Method} {c : Code} {D : va_G} {cI cZ : ClassId} {ad : Nat → Nat} {X : State → Prop} (Z : mZ p s m args meth c cX5_land 4 (some .int) wsX5_land RX5 D [(cI, .int), (cZ, .boolean)] X) (hX0 : mX ad 14 X)   (u1 : Int32)  {K : Mem → Option (Int32 × Mem)} (res : (Int32 × Mem)) (hKc : ∀  (M1 : Mem), K  M1 = some res → ∀ (H : Heap) (locs : List Loc) (ls : Array Slot), lv_has ls 4 [(0, .ref (ad 0)), (1, .int u1)] → mH D ad 14 (Em ad cI cZ M1) s.heap H locs → W p l e { frames := 6, cells := 0, slots := 0, locals := 136 } s m args below meth c H locs 0 0 (MQ below (mQ D ad 14 (some (.int res.1)) (Em ad cI cZ res.2)) args s 0 0 (mA ad 14)) (F0 m 240 ls [])) :
    ∀ (n : Nat) (v2 : Int32) (M : Mem), fX5_land_213 u1 K n v2 M = some res → ∀ (H : Heap) (locs : List Loc) (ls : Array Slot), lv_has ls 4 [(0, .ref (ad 0)), (1, .int u1), (2, .int v2)] → mH D ad 14 (Em ad cI cZ M) s.heap H locs → W p l e { frames := 6, cells := 0, slots := 0, locals := 136 } s m args below meth c H locs 0 0 (MQ below (mQ D ad 14 (some (.int res.1)) (Em ad cI cZ res.2)) args s 0 0 (mA ad 14)) (F0 m 213 ls []) := by
  obtain ⟨hx, hb, hml, hr, hlocks, hts, hown, hKv, hXs⟩ := id Z
  have hXk := hX0
  have k0 := hts (Cond.fieldLink RX5 13 "NoonWalkerModel" "bid" "[I") (List.mem_of_getElem? (i := 12) rfl)
  intro n
  induction n with
  | zero => intro _ _ h; exact absurd h (by unfold fX5_land_213; exact fun h => by cases h)
  | succ n ih =>
    intro v2 M h H locs ls hl hM
    rw [fX5_land_213] at h
    refine lv_iload_n hx hb dX5_land_213 rfl (lv_at hl 2 rfl) ?_
    refine lv_bipush (v := (6 : Int32)) hx hb dX5_land_214 (by decide) ?_
    refine lv_icmp_ge (tgt := 240) hx hb dX5_land_216 (by decide) (fun c1 => ?_) (fun c1 => ?_)
    · replace h := (if_pos c1).symm.trans h
      exact hKc _ h _ _ _ (lv_sub hl [0, 1] rfl) hM
    · replace h := (if_neg c1).symm.trans h
      refine lv_aload_n hx hb dX5_land_219 rfl (lv_at hl 0 rfl) ?_
      refine m_get hx hb hts hown hKv hM (fun _ h => List.mem_cons_of_mem _ (List.mem_append_right _ (h))) (by decide) at_X5 rfl 9 (by decide) k0 (v := .ref (ad 2)) rfl dX5_land_220 ?_
      refine lv_iload_n hx hb dX5_land_223 rfl (lv_at hl 2 rfl) ?_
      refine lv_aload_n hx hb dX5_land_224 rfl (lv_at hl 0 rfl) ?_
      refine m_get hx hb hts hown hKv hM (fun _ h => List.mem_cons_of_mem _ (List.mem_append_right _ (h))) (by decide) at_X5 rfl 9 (by decide) k0 (v := .ref (ad 2)) rfl dX5_land_225 ?_
      refine lv_bipush (v := (6 : Int32)) hx hb dX5_land_228 (by decide) ?_
      refine lv_iload_n hx hb dX5_land_230 rfl (lv_at hl 2 rfl) ?_
      refine lv_iadd hx hb dX5_land_231 ?_
      obtain ⟨x2, hx2, h⟩ := Option.bind_eq_some_iff.mp h
      refine m_iald hx hb hKv hM (by decide) at_X5_2 0 rfl hx2 dX5_land_232 ?_
      obtain ⟨M3, hM3, h⟩ := Option.bind_eq_some_iff.mp h
      refine m_iast hx hb hKv hM (by decide) at_X5_2 0 rfl (sta_some hM3).1 (pa_X5_2 (sta_some hM3).2) dX5_land_233 (fun H locs hM => ?_)
      refine lv_iinc (v := (v2 + 1)) (lv' := [(2, .int (v2 + 1)), (0, .ref (ad 0)), (1, .int u1)]) hx hb dX5_land_234 hl (k := 2) rfl rfl (by decide) rfl (fun ls hl => ?_)
      refine lv_goto (tgt := 213) hx hb dX5_land_237 (by decide) ?_
      exact ih _ _ h _ _ _ (lv_sub hl [1, 2, 0] rfl) hM
set_option maxHeartbeats 4000000 in
set_option maxRecDepth 100000 in
theorem wX5_land_242 {p : Program} {l : Launch} {e : Env} {s : State} {m : MethodId} {args : Array Value} {below : List Frame} {meth : Method} {c : Code} {D : va_G} {cI cZ : ClassId} {ad : Nat → Nat} {X : State → Prop} (Z : mZ p s m args meth c cX5_land 4 (some .int) wsX5_land RX5 D [(cI, .int), (cZ, .boolean)] X) (hX0 : mX ad 14 X)   (u1 : Int32)  {K : Mem → Option (Int32 × Mem)} (res : (Int32 × Mem)) (hKc : ∀  (M1 : Mem), K  M1 = some res → ∀ (H : Heap) (locs : List Loc) (ls : Array Slot), lv_has ls 4 [(0, .ref (ad 0)), (1, .int u1)] → mH D ad 14 (Em ad cI cZ M1) s.heap H locs → W p l e { frames := 6, cells := 0, slots := 0, locals := 136 } s m args below meth c H locs 0 0 (MQ below (mQ D ad 14 (some (.int res.1)) (Em ad cI cZ res.2)) args s 0 0 (mA ad 14)) (F0 m 269 ls [])) :
    ∀ (n : Nat) (v2 : Int32) (M : Mem), fX5_land_242 u1 K n v2 M = some res → ∀ (H : Heap) (locs : List Loc) (ls : Array Slot), lv_has ls 4 [(0, .ref (ad 0)), (1, .int u1), (2, .int v2)] → mH D ad 14 (Em ad cI cZ M) s.heap H locs → W p l e { frames := 6, cells := 0, slots := 0, locals := 136 } s m args below meth c H locs 0 0 (MQ below (mQ D ad 14 (some (.int res.1)) (Em ad cI cZ res.2)) args s 0 0 (mA ad 14)) (F0 m 242 ls []) := by
  obtain ⟨hx, hb, hml, hr, hlocks, hts, hown, hKv, hXs⟩ := id Z
  have hXk := hX0
  have k0 := hts (Cond.fieldLink RX5 16 "NoonWalkerModel" "road" "[I") (List.mem_of_getElem? (i := 13) rfl)
  intro n
  induction n with
  | zero => intro _ _ h; exact absurd h (by unfold fX5_land_242; exact fun h => by cases h)
  | succ n ih =>
    intro v2 M h H locs ls hl hM
    rw [fX5_land_242] at h
    refine lv_iload_n hx hb dX5_land_242 rfl (lv_at hl 2 rfl) ?_
    refine lv_bipush (v := (30 : Int32)) hx hb dX5_land_243 (by decide) ?_
    refine lv_icmp_ge (tgt := 269) hx hb dX5_land_245 (by decide) (fun c1 => ?_) (fun c1 => ?_)
    · replace h := (if_pos c1).symm.trans h
      exact hKc _ h _ _ _ (lv_sub hl [0, 1] rfl) hM
    · replace h := (if_neg c1).symm.trans h
      refine lv_aload_n hx hb dX5_land_248 rfl (lv_at hl 0 rfl) ?_
      refine m_get hx hb hts hown hKv hM (fun _ h => List.mem_cons_of_mem _ (List.mem_append_right _ (h))) (by decide) at_X5 rfl 10 (by decide) k0 (v := .ref (ad 3)) rfl dX5_land_249 ?_
      refine lv_iload_n hx hb dX5_land_252 rfl (lv_at hl 2 rfl) ?_
      refine lv_aload_n hx hb dX5_land_253 rfl (lv_at hl 0 rfl) ?_
      refine m_get hx hb hts hown hKv hM (fun _ h => List.mem_cons_of_mem _ (List.mem_append_right _ (h))) (by decide) at_X5 rfl 10 (by decide) k0 (v := .ref (ad 3)) rfl dX5_land_254 ?_
      refine lv_bipush (v := (30 : Int32)) hx hb dX5_land_257 (by decide) ?_
      refine lv_iload_n hx hb dX5_land_259 rfl (lv_at hl 2 rfl) ?_
      refine lv_iadd hx hb dX5_land_260 ?_
      obtain ⟨x2, hx2, h⟩ := Option.bind_eq_some_iff.mp h
      refine m_iald hx hb hKv hM (by decide) at_X5_3 0 rfl hx2 dX5_land_261 ?_
      obtain ⟨M3, hM3, h⟩ := Option.bind_eq_some_iff.mp h
      refine m_iast hx hb hKv hM (by decide) at_X5_3 0 rfl (sta_some hM3).1 (pa_X5_3 (sta_some hM3).2) dX5_land_262 (fun H locs hM => ?_)
      refine lv_iinc (v := (v2 + 1)) (lv' := [(2, .int (v2 + 1)), (0, .ref (ad 0)), (1, .int u1)]) hx hb dX5_land_263 hl (k := 2) rfl rfl (by decide) rfl (fun ls hl => ?_)
      refine lv_goto (tgt := 242) hx hb dX5_land_266 (by decide) ?_
      exact ih _ _ h _ _ _ (lv_sub hl [1, 2, 0] rfl) hM
set_option maxHeartbeats 4000000 in
set_option maxRecDepth 100000 in
theorem wX5_land_271 {p : Program} {l : Launch} {e : Env} {s : State} {m : MethodId} {args : Array Value} {below : List Frame} {meth : Method} {c : Code} {D : va_G} {cI cZ : ClassId} {ad : Nat → Nat} {X : State → Prop} (Z : mZ p s m args meth c cX5_land 4 (some .int) wsX5_land RX5 D [(cI, .int), (cZ, .boolean)] X) (hX0 : mX ad 14 X)   (u1 : Int32)  {K : Mem → Option (Int32 × Mem)} (res : (Int32 × Mem)) (hKc : ∀  (M1 : Mem), K  M1 = some res → ∀ (H : Heap) (locs : List Loc) (ls : Array Slot), lv_has ls 4 [(0, .ref (ad 0)), (1, .int u1)] → mH D ad 14 (Em ad cI cZ M1) s.heap H locs → W p l e { frames := 6, cells := 0, slots := 0, locals := 136 } s m args below meth c H locs 0 0 (MQ below (mQ D ad 14 (some (.int res.1)) (Em ad cI cZ res.2)) args s 0 0 (mA ad 14)) (F0 m 313 ls [])) :
    ∀ (n : Nat) (v2 : Int32) (M : Mem), fX5_land_271 u1 K n v2 M = some res → ∀ (H : Heap) (locs : List Loc) (ls : Array Slot), lv_has ls 4 [(0, .ref (ad 0)), (1, .int u1), (2, .int v2)] → mH D ad 14 (Em ad cI cZ M) s.heap H locs → W p l e { frames := 6, cells := 0, slots := 0, locals := 136 } s m args below meth c H locs 0 0 (MQ below (mQ D ad 14 (some (.int res.1)) (Em ad cI cZ res.2)) args s 0 0 (mA ad 14)) (F0 m 271 ls []) := by
  obtain ⟨hx, hb, hml, hr, hlocks, hts, hown, hKv, hXs⟩ := id Z
  have hXk := hX0
  have k0 := hts (Cond.fieldLink RX5 19 "NoonWalkerModel" "haltAt" "[I") (List.mem_of_getElem? (i := 14) rfl)
  have k1 := hts (Cond.fieldLink RX5 22 "NoonWalkerModel" "rest" "[I") (List.mem_of_getElem? (i := 15) rfl)
  intro n
  induction n with
  | zero => intro _ _ h; exact absurd h (by unfold fX5_land_271; exact fun h => by cases h)
  | succ n ih =>
    intro v2 M h H locs ls hl hM
    rw [fX5_land_271] at h
    refine lv_iload_n hx hb dX5_land_271 rfl (lv_at hl 2 rfl) ?_
    refine lv_bipush (v := (10 : Int32)) hx hb dX5_land_272 (by decide) ?_
    refine lv_icmp_ge (tgt := 313) hx hb dX5_land_274 (by decide) (fun c1 => ?_) (fun c1 => ?_)
    · replace h := (if_pos c1).symm.trans h
      exact hKc _ h _ _ _ (lv_sub hl [0, 1] rfl) hM
    · replace h := (if_neg c1).symm.trans h
      refine lv_aload_n hx hb dX5_land_277 rfl (lv_at hl 0 rfl) ?_
      refine m_get hx hb hts hown hKv hM (fun _ h => List.mem_cons_of_mem _ (List.mem_append_right _ (h))) (by decide) at_X5 rfl 11 (by decide) k0 (v := .ref (ad 4)) rfl dX5_land_278 ?_
      refine lv_iload_n hx hb dX5_land_281 rfl (lv_at hl 2 rfl) ?_
      refine lv_aload_n hx hb dX5_land_282 rfl (lv_at hl 0 rfl) ?_
      refine m_get hx hb hts hown hKv hM (fun _ h => List.mem_cons_of_mem _ (List.mem_append_right _ (h))) (by decide) at_X5 rfl 11 (by decide) k0 (v := .ref (ad 4)) rfl dX5_land_283 ?_
      refine lv_bipush (v := (10 : Int32)) hx hb dX5_land_286 (by decide) ?_
      refine lv_iload_n hx hb dX5_land_288 rfl (lv_at hl 2 rfl) ?_
      refine lv_iadd hx hb dX5_land_289 ?_
      obtain ⟨x2, hx2, h⟩ := Option.bind_eq_some_iff.mp h
      refine m_iald hx hb hKv hM (by decide) at_X5_4 0 rfl hx2 dX5_land_290 ?_
      obtain ⟨M3, hM3, h⟩ := Option.bind_eq_some_iff.mp h
      refine m_iast hx hb hKv hM (by decide) at_X5_4 0 rfl (sta_some hM3).1 (pa_X5_4 (sta_some hM3).2) dX5_land_291 (fun H locs hM => ?_)
      refine lv_aload_n hx hb dX5_land_292 rfl (lv_at hl 0 rfl) ?_
      refine m_get hx hb hts hown hKv hM (fun _ h => List.mem_cons_of_mem _ (List.mem_append_right _ (h))) (by decide) at_X5 rfl 12 (by decide) k1 (v := .ref (ad 5)) rfl dX5_land_293 ?_
      refine lv_iload_n hx hb dX5_land_296 rfl (lv_at hl 2 rfl) ?_
      refine lv_aload_n hx hb dX5_land_297 rfl (lv_at hl 0 rfl) ?_
      refine m_get hx hb hts hown hKv hM (fun _ h => List.mem_cons_of_mem _ (List.mem_append_right _ (h))) (by decide) at_X5 rfl 12 (by decide) k1 (v := .ref (ad 5)) rfl dX5_land_298 ?_
      refine lv_bipush (v := (10 : Int32)) hx hb dX5_land_301 (by decide) ?_
      refine lv_iload_n hx hb dX5_land_303 rfl (lv_at hl 2 rfl) ?_
      refine lv_iadd hx hb dX5_land_304 ?_
      obtain ⟨x4, hx4, h⟩ := Option.bind_eq_some_iff.mp h
      refine m_iald hx hb hKv hM (by decide) at_X5_5 0 rfl hx4 dX5_land_305 ?_
      obtain ⟨M5, hM5, h⟩ := Option.bind_eq_some_iff.mp h
      refine m_iast hx hb hKv hM (by decide) at_X5_5 0 rfl (sta_some hM5).1 (pa_X5_5 (sta_some hM5).2) dX5_land_306 (fun H locs hM => ?_)
      refine lv_iinc (v := (v2 + 1)) (lv' := [(2, .int (v2 + 1)), (0, .ref (ad 0)), (1, .int u1)]) hx hb dX5_land_307 hl (k := 2) rfl rfl (by decide) rfl (fun ls hl => ?_)
      refine lv_goto (tgt := 271) hx hb dX5_land_310 (by decide) ?_
      exact ih _ _ h _ _ _ (lv_sub hl [1, 2, 0] rfl) hM
set_option maxHeartbeats 4000000 in
set_option maxRecDepth 100000 in
theorem kX5_land (l : Launch) (D : va_G) (cI cZ : ClassId) (ad : Nat → Nat) {X : State → Prop} (hX0 : mX ad 14 X)  (M : Mem) (res : (Int32 × Mem)) (h : fX5_land M = some res) : mC l yX5_land wsX5_land { frames := 6, cells := 0, slots := 0, locals := 136 } D [(cI, .int), (cZ, .boolean)] ad 14 X [.ref (ad 0)] (Em ad cI cZ M) (some (.int res.1)) (Em ad cI cZ res.2) := by
  refine m_ofW (cc := cX5_land) (maxL := 4) (ret := (some .int)) (by decide) rfl (Nat.le_of_ble_eq_true rfl) ?_
  intro p e s m args below meth c hx hb hml hr hlocks hts hown hKv hXs ls hl hM
  have hXk := hX0
  have Z : mZ p s m args meth c cX5_land 4 (some .int) wsX5_land RX5 D [(cI, .int), (cZ, .boolean)] X := ⟨hx, hb, hml, hr, hlocks, hts, hown, hKv, hXs⟩
  replace hown : s.vm.findClass RX5 = some m.cls := hown
  have hl : lv_has ls 4 [(0, .ref (ad 0))] := hl
  have k0 := hts (Cond.fieldLink RX5 53 "NoonWalkerModel" "thrown" "I") (List.mem_of_getElem? (i := 1) rfl)
  have k1 := hts (Cond.fieldLink RX5 96 "NoonWalkerModel" "fault" "I") (List.mem_of_getElem? (i := 2) rfl)
  have k2 := hts (Cond.fieldLink RX5 76 "NoonWalkerModel" "next" "I") (List.mem_of_getElem? (i := 3) rfl)
  have k3 := hts (Cond.fieldLink RX5 110 "NoonWalkerModel" "draftTowns" "I") (List.mem_of_getElem? (i := 4) rfl)
  have k4 := hts (Cond.fieldLink RX5 117 "NoonWalkerModel" "draftRoads" "I") (List.mem_of_getElem? (i := 5) rfl)
  have k5 := hts (Cond.fieldLink RX5 120 "NoonWalkerModel" "draftHalts" "I") (List.mem_of_getElem? (i := 6) rfl)
  have k6 := hts (Cond.fieldLink RX5 131 "NoonWalkerModel" "towns" "I") (List.mem_of_getElem? (i := 9) rfl)
  have k7 := hts (Cond.fieldLink RX5 134 "NoonWalkerModel" "roads" "I") (List.mem_of_getElem? (i := 10) rfl)
  have k8 := hts (Cond.fieldLink RX5 137 "NoonWalkerModel" "halts" "I") (List.mem_of_getElem? (i := 11) rfl)
  have k9 := hts (Cond.fieldLink RX5 61 "NoonWalkerModel" "typed" "I") (List.mem_of_getElem? (i := 16) rfl)
  have k10 := hts (Cond.fieldLink RX5 40 "NoonWalkerModel" "isKept" "[Z") (List.mem_of_getElem? (i := 17) rfl)
  have k11 := hts (Cond.fieldLink RX5 34 "NoonWalkerModel" "s" "[I") (List.mem_of_getElem? (i := 18) rfl)
  unfold fX5_land at h
  refine lv_aload_n hx hb dX5_land_0 rfl (lv_at hl 0 rfl) ?_
  refine lv_iconst (v := (0 : Int32)) hx hb dX5_land_1 (by decide) ?_
  obtain ⟨M1, hM1, h⟩ := Option.bind_eq_some_iff.mp h
  refine m_put hx hb hts hown hKv hM (fun _ h => List.mem_cons_of_mem _ (List.mem_append_right _ (h))) tyX5 tyX5_ok nmX5 (by decide) at_X5 rfl 0 (by decide) k0 rfl rfl rfl (Nat.le_of_ble_eq_true rfl) (pt_X5_0 (Option.some.inj hM1)) dX5_land_2 (fun H locs hM => ?_)
  refine lv_aload_n hx hb dX5_land_5 rfl (lv_at hl 0 rfl) ?_
  refine lv_iconst (v := (-1 : Int32)) hx hb dX5_land_6 (by decide) ?_
  obtain ⟨M2, hM2, h⟩ := Option.bind_eq_some_iff.mp h
  refine m_put hx hb hts hown hKv hM (fun _ h => List.mem_cons_of_mem _ (List.mem_append_right _ (h))) tyX5 tyX5_ok nmX5 (by decide) at_X5 rfl 8 (by decide) k1 rfl rfl rfl (Nat.le_of_ble_eq_true rfl) (pt_X5_8 (Option.some.inj hM2)) dX5_land_7 (fun H locs hM => ?_)
  refine lv_aload_n hx hb dX5_land_10 rfl (lv_at hl 0 rfl) ?_
  refine lv_iconst (v := (0 : Int32)) hx hb dX5_land_11 (by decide) ?_
  obtain ⟨M3, hM3, h⟩ := Option.bind_eq_some_iff.mp h
  refine m_put hx hb hts hown hKv hM (fun _ h => List.mem_cons_of_mem _ (List.mem_append_right _ (h))) tyX5 tyX5_ok nmX5 (by decide) at_X5 rfl 4 (by decide) k2 rfl rfl rfl (Nat.le_of_ble_eq_true rfl) (pt_X5_4 (Option.some.inj hM3)) dX5_land_12 (fun H locs hM => ?_)
  refine lv_iconst (v := (0 : Int32)) hx hb dX5_land_15 (by decide) ?_
  refine lv_istore_n (lv' := [(1, .int (0 : Int32)), (0, .ref (ad 0))]) hx hb dX5_land_16 rfl hl (by decide) rfl (fun ls hl => ?_)
  refine lv_aload_n hx hb dX5_land_17 rfl (lv_at hl 1 rfl) ?_
  refine lv_iconst (v := (0 : Int32)) hx hb dX5_land_18 (by decide) ?_
  obtain ⟨M4, hM4, h⟩ := Option.bind_eq_some_iff.mp h
  refine m_put hx hb hts hown hKv hM (fun _ h => List.mem_cons_of_mem _ (List.mem_append_right _ (h))) tyX5 tyX5_ok nmX5 (by decide) at_X5 rfl 16 (by decide) k3 rfl rfl rfl (Nat.le_of_ble_eq_true rfl) (pt_X5_16 (Option.some.inj hM4)) dX5_land_19 (fun H locs hM => ?_)
  refine lv_aload_n hx hb dX5_land_22 rfl (lv_at hl 1 rfl) ?_
  refine lv_iconst (v := (0 : Int32)) hx hb dX5_land_23 (by decide) ?_
  obtain ⟨M5, hM5, h⟩ := Option.bind_eq_some_iff.mp h
  refine m_put hx hb hts hown hKv hM (fun _ h => List.mem_cons_of_mem _ (List.mem_append_right _ (h))) tyX5 tyX5_ok nmX5 (by decide) at_X5 rfl 17 (by decide) k4 rfl rfl rfl (Nat.le_of_ble_eq_true rfl) (pt_X5_17 (Option.some.inj hM5)) dX5_land_24 (fun H locs hM => ?_)
  refine lv_aload_n hx hb dX5_land_27 rfl (lv_at hl 1 rfl) ?_
  refine lv_iconst (v := (0 : Int32)) hx hb dX5_land_28 (by decide) ?_
  obtain ⟨M6, hM6, h⟩ := Option.bind_eq_some_iff.mp h
  refine m_put hx hb hts hown hKv hM (fun _ h => List.mem_cons_of_mem _ (List.mem_append_right _ (h))) tyX5 tyX5_ok nmX5 (by decide) at_X5 rfl 18 (by decide) k5 rfl rfl rfl (Nat.le_of_ble_eq_true rfl) (pt_X5_18 (Option.some.inj hM6)) dX5_land_29 (fun H locs hM => ?_)
  refine lv_aload_n hx hb dX5_land_32 rfl (lv_at hl 1 rfl) ?_
  obtain ⟨x7, hx7, h⟩ := Option.bind_eq_some_iff.mp h
  refine m_callV (As := []) (st1 := []) hx hb (hml.trans hl.1.symm) hown hts hKv hXs hXk hM (kX5_advances l D cI cZ ad hX0  M6 _ hx7) (cwV 0 hts gX5_land_X5_advances rfl rfl rfl (by decide +kernel) ⟨Nat.le_of_ble_eq_true rfl, Nat.le_of_ble_eq_true rfl⟩) (by decide) at_X5 rfl rfl rfl rfl (Nat.le_of_ble_eq_true rfl) dX5_land_33 ⟨Nat.zero_le _, Nat.zero_le _⟩ (fun H locs hM => ?_)
  refine wX5_land_36 Z hX0 _ (fun y8 M9 h H locs ls hl hM => ?_) _ _ _ h _ _ _ (lv_sub hl [1, 0] rfl) hM
  refine lv_aload_n hx hb dX5_land_172 rfl (lv_at hl 0 rfl) ?_
  obtain ⟨x10, hx10, h⟩ := Option.bind_eq_some_iff.mp h
  refine m_callV (As := []) (st1 := [.int x10]) hx hb (hml.trans hl.1.symm) hown hts hKv hXs hXk hM (kX5_isWell l D cI cZ ad hX0  M9 _ hx10) (cwV 0 hts gX5_land_X5_isWell rfl rfl rfl (by decide +kernel) ⟨Nat.le_of_ble_eq_true rfl, Nat.le_of_ble_eq_true rfl⟩) (by decide) at_X5 rfl rfl rfl rfl (Nat.le_of_ble_eq_true rfl) dX5_land_173 ⟨Nat.zero_le _, Nat.zero_le _⟩ (fun H locs hM => ?_)
  refine lv_if_ne (tgt := 187) hx hb dX5_land_176 (by decide) (fun c11 => ?_) (fun c11 => ?_)
  · replace h := (if_neg c11).symm.trans h
    refine lv_aload_n hx hb dX5_land_187 rfl (lv_at hl 0 rfl) ?_
    refine lv_aload_n hx hb dX5_land_188 rfl (lv_at hl 0 rfl) ?_
    refine m_get hx hb hts hown hKv hM (fun _ h => List.mem_cons_of_mem _ (List.mem_append_right _ (h))) (by decide) at_X5 rfl 16 (by decide) k3 (v := .int (M9.1 0 16)) rfl dX5_land_189 ?_
    obtain ⟨M12, hM12, h⟩ := Option.bind_eq_some_iff.mp h
    refine m_put hx hb hts hown hKv hM (fun _ h => List.mem_cons_of_mem _ (List.mem_append_right _ (h))) tyX5 tyX5_ok nmX5 (by decide) at_X5 rfl 13 (by decide) k6 rfl rfl rfl (Nat.le_of_ble_eq_true rfl) (pt_X5_13 (Option.some.inj hM12)) dX5_land_192 (fun H locs hM => ?_)
    refine lv_aload_n hx hb dX5_land_195 rfl (lv_at hl 0 rfl) ?_
    refine lv_aload_n hx hb dX5_land_196 rfl (lv_at hl 0 rfl) ?_
    refine m_get hx hb hts hown hKv hM (fun _ h => List.mem_cons_of_mem _ (List.mem_append_right _ (h))) (by decide) at_X5 rfl 17 (by decide) k4 (v := .int (M12.1 0 17)) rfl dX5_land_197 ?_
    obtain ⟨M13, hM13, h⟩ := Option.bind_eq_some_iff.mp h
    refine m_put hx hb hts hown hKv hM (fun _ h => List.mem_cons_of_mem _ (List.mem_append_right _ (h))) tyX5 tyX5_ok nmX5 (by decide) at_X5 rfl 14 (by decide) k7 rfl rfl rfl (Nat.le_of_ble_eq_true rfl) (pt_X5_14 (Option.some.inj hM13)) dX5_land_200 (fun H locs hM => ?_)
    refine lv_aload_n hx hb dX5_land_203 rfl (lv_at hl 0 rfl) ?_
    refine lv_aload_n hx hb dX5_land_204 rfl (lv_at hl 0 rfl) ?_
    refine m_get hx hb hts hown hKv hM (fun _ h => List.mem_cons_of_mem _ (List.mem_append_right _ (h))) (by decide) at_X5 rfl 18 (by decide) k5 (v := .int (M13.1 0 18)) rfl dX5_land_205 ?_
    obtain ⟨M14, hM14, h⟩ := Option.bind_eq_some_iff.mp h
    refine m_put hx hb hts hown hKv hM (fun _ h => List.mem_cons_of_mem _ (List.mem_append_right _ (h))) tyX5 tyX5_ok nmX5 (by decide) at_X5 rfl 15 (by decide) k8 rfl rfl rfl (Nat.le_of_ble_eq_true rfl) (pt_X5_15 (Option.some.inj hM14)) dX5_land_208 (fun H locs hM => ?_)
    refine lv_iconst (v := (0 : Int32)) hx hb dX5_land_211 (by decide) ?_
    refine lv_istore_n (lv' := [(2, .int (0 : Int32)), (0, .ref (ad 0)), (1, .int y8)]) hx hb dX5_land_212 rfl hl (by decide) rfl (fun ls hl => ?_)
    refine wX5_land_213 Z hX0 y8 _ (fun M15 h H locs ls hl hM => ?_) _ _ _ h _ _ _ (lv_sub hl [1, 2, 0] rfl) hM
    refine lv_iconst (v := (0 : Int32)) hx hb dX5_land_240 (by decide) ?_
    refine lv_istore_n (lv' := [(2, .int (0 : Int32)), (0, .ref (ad 0)), (1, .int y8)]) hx hb dX5_land_241 rfl hl (by decide) rfl (fun ls hl => ?_)
    refine wX5_land_242 Z hX0 y8 _ (fun M16 h H locs ls hl hM => ?_) _ _ _ h _ _ _ (lv_sub hl [1, 2, 0] rfl) hM
    refine lv_iconst (v := (0 : Int32)) hx hb dX5_land_269 (by decide) ?_
    refine lv_istore_n (lv' := [(2, .int (0 : Int32)), (0, .ref (ad 0)), (1, .int y8)]) hx hb dX5_land_270 rfl hl (by decide) rfl (fun ls hl => ?_)
    refine wX5_land_271 Z hX0 y8 _ (fun M17 h H locs ls hl hM => ?_) _ _ _ h _ _ _ (lv_sub hl [1, 2, 0] rfl) hM
    refine lv_aload_n hx hb dX5_land_313 rfl (lv_at hl 0 rfl) ?_
    refine lv_iconst (v := (0 : Int32)) hx hb dX5_land_314 (by decide) ?_
    obtain ⟨M18, hM18, h⟩ := Option.bind_eq_some_iff.mp h
    refine m_put hx hb hts hown hKv hM (fun _ h => List.mem_cons_of_mem _ (List.mem_append_right _ (h))) tyX5 tyX5_ok nmX5 (by decide) at_X5 rfl 3 (by decide) k9 rfl rfl rfl (Nat.le_of_ble_eq_true rfl) (pt_X5_3 (Option.some.inj hM18)) dX5_land_315 (fun H locs hM => ?_)
    refine lv_aload_n hx hb dX5_land_318 rfl (lv_at hl 0 rfl) ?_
    refine m_get hx hb hts hown hKv hM (fun _ h => List.mem_cons_of_mem _ (List.mem_append_right _ (h))) (by decide) at_X5 rfl 24 (by decide) k10 (v := .ref (ad 11)) rfl dX5_land_319 ?_
    refine lv_iconst (v := (0 : Int32)) hx hb dX5_land_322 (by decide) ?_
    refine lv_iconst (v := (0 : Int32)) hx hb dX5_land_323 (by decide) ?_
    obtain ⟨M19, hM19, h⟩ := Option.bind_eq_some_iff.mp h
    refine m_zast hx hb hKv hM (by decide) at_X5_11 1 rfl rfl (sta_some hM19).1 (pa_X5_11 (sta_some hM19).2) dX5_land_324 (fun H locs hM => ?_)
    refine lv_aload_n hx hb dX5_land_325 rfl (lv_at hl 0 rfl) ?_
    refine m_get hx hb hts hown hKv hM (fun _ h => List.mem_cons_of_mem _ (List.mem_append_right _ (h))) (by decide) at_X5 rfl 24 (by decide) k10 (v := .ref (ad 11)) rfl dX5_land_326 ?_
    refine lv_iconst (v := (1 : Int32)) hx hb dX5_land_329 (by decide) ?_
    refine lv_iconst (v := (0 : Int32)) hx hb dX5_land_330 (by decide) ?_
    obtain ⟨M20, hM20, h⟩ := Option.bind_eq_some_iff.mp h
    refine m_zast hx hb hKv hM (by decide) at_X5_11 1 rfl rfl (sta_some hM20).1 (pa_X5_11 (sta_some hM20).2) dX5_land_331 (fun H locs hM => ?_)
    refine lv_aload_n hx hb dX5_land_332 rfl (lv_at hl 0 rfl) ?_
    refine m_get hx hb hts hown hKv hM (fun _ h => List.mem_cons_of_mem _ (List.mem_append_right _ (h))) (by decide) at_X5 rfl 22 (by decide) k11 (v := .ref (ad 9)) rfl dX5_land_333 ?_
    refine lv_iconst (v := (0 : Int32)) hx hb dX5_land_336 (by decide) ?_
    refine lv_iconst (v := (0 : Int32)) hx hb dX5_land_337 (by decide) ?_
    obtain ⟨M21, hM21, h⟩ := Option.bind_eq_some_iff.mp h
    refine m_iast hx hb hKv hM (by decide) at_X5_9 0 rfl (sta_some hM21).1 (pa_X5_9 (sta_some hM21).2) dX5_land_338 (fun H locs hM => ?_)
    refine lv_aload_n hx hb dX5_land_339 rfl (lv_at hl 0 rfl) ?_
    refine m_get hx hb hts hown hKv hM (fun _ h => List.mem_cons_of_mem _ (List.mem_append_right _ (h))) (by decide) at_X5 rfl 22 (by decide) k11 (v := .ref (ad 9)) rfl dX5_land_340 ?_
    refine lv_iconst (v := (1 : Int32)) hx hb dX5_land_343 (by decide) ?_
    refine lv_iconst (v := (0 : Int32)) hx hb dX5_land_344 (by decide) ?_
    obtain ⟨M22, hM22, h⟩ := Option.bind_eq_some_iff.mp h
    refine m_iast hx hb hKv hM (by decide) at_X5_9 0 rfl (sta_some hM22).1 (pa_X5_9 (sta_some hM22).2) dX5_land_345 (fun H locs hM => ?_)
    refine lv_aload_n hx hb dX5_land_346 rfl (lv_at hl 0 rfl) ?_
    obtain ⟨x23, hx23, h⟩ := Option.bind_eq_some_iff.mp h
    refine m_callV (As := []) (st1 := []) hx hb (hml.trans hl.1.symm) hown hts hKv hXs hXk hM (kX5_reckons l D cI cZ ad hX0  M22 _ hx23) (cwV 0 hts gX5_land_X5_reckons rfl rfl rfl (by decide +kernel) ⟨Nat.le_of_ble_eq_true rfl, Nat.le_of_ble_eq_true rfl⟩) (by decide) at_X5 rfl rfl rfl rfl (Nat.le_of_ble_eq_true rfl) dX5_land_347 ⟨Nat.zero_le _, Nat.zero_le _⟩ (fun H locs hM => ?_)
    refine lv_iload_n hx hb dX5_land_350 rfl (lv_at hl 1 rfl) ?_
    exact m_iret hx hb hr hlocks hM (congrArg (a₁ := (y8, x23)) Prod.fst (Option.some.inj h)) (congrArg (a₁ := (y8, x23)) (fun z => Em ad cI cZ z.2) (Option.some.inj h)) dX5_land_351
  · replace h := (if_pos c11).symm.trans h
    refine lv_bipush (v := (-10 : Int32)) hx hb dX5_land_179 (by decide) ?_
    refine lv_aload_n hx hb dX5_land_181 rfl (lv_at hl 0 rfl) ?_
    refine m_get hx hb hts hown hKv hM (fun _ h => List.mem_cons_of_mem _ (List.mem_append_right _ (h))) (by decide) at_X5 rfl 8 (by decide) k1 (v := .int (M9.1 0 8)) rfl dX5_land_182 ?_
    refine lv_isub hx hb dX5_land_185 ?_
    exact m_iret hx hb hr hlocks hM (congrArg (a₁ := (((-10 : Int32) - (M9.1 0 8)), M9)) Prod.fst (Option.some.inj h)) (congrArg (a₁ := (((-10 : Int32) - (M9.1 0 8)), M9)) (fun z => Em ad cI cZ z.2) (Option.some.inj h)) dX5_land_186
set_option maxHeartbeats 4000000 in
set_option maxRecDepth 100000 in
theorem kX5_isTown (l : Launch) (D : va_G) (cI cZ : ClassId) (ad : Nat → Nat) {X : State → Prop} (hX0 : mX ad 14 X) (a1 : Int32) (M : Mem) (res : Int32) (h : fX5_isTown a1 M = some res) : mC l yX5_isTown wsX5_isTown { frames := 1, cells := 0, slots := 0, locals := 22 } D [(cI, .int), (cZ, .boolean)] ad 14 X [.ref (ad 0), .int a1] (Em ad cI cZ M) (some (.int res)) (Em ad cI cZ M) := by
  refine m_ofW (cc := cX5_isTown) (maxL := 2) (ret := (some .boolean)) (by decide) rfl (Nat.le_of_ble_eq_true rfl) ?_
  intro p e s m args below meth c hx hb hml hr hlocks hts hown hKv hXs ls hl hM
  have hXk := hX0
  have Z : mZ p s m args meth c cX5_isTown 2 (some .boolean) wsX5_isTown RX5 D [(cI, .int), (cZ, .boolean)] X := ⟨hx, hb, hml, hr, hlocks, hts, hown, hKv, hXs⟩
  replace hown : s.vm.findClass RX5 = some m.cls := hown
  have hl : lv_has ls 2 [(0, .ref (ad 0)), (1, .int a1)] := hl
  have k0 := hts (Cond.fieldLink RX5 131 "NoonWalkerModel" "towns" "I") (List.mem_of_getElem? (i := 1) rfl)
  unfold fX5_isTown at h
  refine lv_iload_n hx hb dX5_isTown_0 rfl (lv_at hl 1 rfl) ?_
  refine lv_iconst (v := (0 : Int32)) hx hb dX5_isTown_1 (by decide) ?_
  refine lv_aload_n hx hb dX5_isTown_2 rfl (lv_at hl 0 rfl) ?_
  refine m_get hx hb hts hown hKv hM (fun _ h => List.mem_cons_of_mem _ (List.mem_append_right _ (h))) (by decide) at_X5 rfl 13 (by decide) k0 (v := .int (M.1 0 13)) rfl dX5_isTown_3 ?_
  refine lv_iconst (v := (1 : Int32)) hx hb dX5_isTown_6 (by decide) ?_
  refine lv_isub hx hb dX5_isTown_7 ?_
  obtain ⟨x1, hx1, h⟩ := Option.bind_eq_some_iff.mp h
  refine m_callS (As := [.int a1, .int (0 : Int32), .int ((M.1 0 13) - (1 : Int32))]) (st1 := [.int x1]) hx hb (hml.trans hl.1.symm) hown hts hKv hXs hXk hM (kX5_in l D cI cZ ad hX0 a1 (0 : Int32) ((M.1 0 13) - (1 : Int32)) M _ hx1) (va_cwS 3 hts gX5_isTown_X5_in rfl rfl rfl (by decide +kernel) ⟨Nat.le_of_ble_eq_true rfl, Nat.le_of_ble_eq_true rfl⟩) rfl rfl rfl (Nat.le_of_ble_eq_true rfl) dX5_isTown_8 ⟨Nat.zero_le _, Nat.zero_le _⟩ (fun H locs hM => ?_)
  obtain ⟨z2, hz2, h⟩ := Option.bind_eq_some_iff.mp h
  exact m_zret hx hb hr hlocks hM ((zb_some hz2).1.trans (Option.some.inj h)) (zb_some hz2).2 rfl dX5_isTown_11
set_option maxHeartbeats 4000000 in
set_option maxRecDepth 100000 in
theorem kX5_isHour (l : Launch) (D : va_G) (cI cZ : ClassId) (ad : Nat → Nat) {X : State → Prop} (hX0 : mX ad 14 X) (a0 : Int32) (M : Mem) (res : Int32) (h : fX5_isHour a0 = some res) : mC l yX5_isHour wsX5_isHour { frames := 1, cells := 0, slots := 0, locals := 22 } D [(cI, .int), (cZ, .boolean)] ad 14 X [.int a0] (Em ad cI cZ M) (some (.int res)) (Em ad cI cZ M) := by
  refine m_ofW (cc := cX5_isHour) (maxL := 1) (ret := (some .boolean)) (by decide) rfl (Nat.le_of_ble_eq_true rfl) ?_
  intro p e s m args below meth c hx hb hml hr hlocks hts hown hKv hXs ls hl hM
  have hXk := hX0
  have Z : mZ p s m args meth c cX5_isHour 1 (some .boolean) wsX5_isHour RX5 D [(cI, .int), (cZ, .boolean)] X := ⟨hx, hb, hml, hr, hlocks, hts, hown, hKv, hXs⟩
  replace hown : s.vm.findClass RX5 = some m.cls := hown
  have hl : lv_has ls 1 [(0, .int a0)] := hl
  unfold fX5_isHour at h
  refine lv_iload_n hx hb dX5_isHour_0 rfl (lv_at hl 0 rfl) ?_
  refine lv_iconst (v := (0 : Int32)) hx hb dX5_isHour_1 (by decide) ?_
  refine lv_sipush (v := (999 : Int32)) hx hb dX5_isHour_2 (by decide) ?_
  obtain ⟨x1, hx1, h⟩ := Option.bind_eq_some_iff.mp h
  refine m_callS (As := [.int a0, .int (0 : Int32), .int (999 : Int32)]) (st1 := [.int x1]) hx hb (hml.trans hl.1.symm) hown hts hKv hXs hXk hM (kX5_in l D cI cZ ad hX0 a0 (0 : Int32) (999 : Int32) M _ hx1) (va_cwS 3 hts gX5_isHour_X5_in rfl rfl rfl (by decide +kernel) ⟨Nat.le_of_ble_eq_true rfl, Nat.le_of_ble_eq_true rfl⟩) rfl rfl rfl (Nat.le_of_ble_eq_true rfl) dX5_isHour_5 ⟨Nat.zero_le _, Nat.zero_le _⟩ (fun H locs hM => ?_)
  obtain ⟨z2, hz2, h⟩ := Option.bind_eq_some_iff.mp h
  exact m_zret hx hb hr hlocks hM ((zb_some hz2).1.trans (Option.some.inj h)) (zb_some hz2).2 rfl dX5_isHour_8
set_option maxHeartbeats 4000000 in
set_option maxRecDepth 100000 in
theorem kX5_farOf (l : Launch) (D : va_G) (cI cZ : ClassId) (ad : Nat → Nat) {X : State → Prop} (hX0 : mX ad 14 X) (a1 : Int32) (a2 : Int32) (M : Mem) (res : Int32) (h : fX5_farOf a1 a2 M = some res) : mC l yX5_farOf wsX5_farOf { frames := 0, cells := 0, slots := 0, locals := 0 } D [(cI, .int), (cZ, .boolean)] ad 14 X [.ref (ad 0), .int a1, .int a2] (Em ad cI cZ M) (some (.int res)) (Em ad cI cZ M) := by
  refine m_ofW (cc := cX5_farOf) (maxL := 3) (ret := (some .int)) (by decide) rfl (Nat.le_of_ble_eq_true rfl) ?_
  intro p e s m args below meth c hx hb hml hr hlocks hts hown hKv hXs ls hl hM
  have hXk := hX0
  have Z : mZ p s m args meth c cX5_farOf 3 (some .int) wsX5_farOf RX5 D [(cI, .int), (cZ, .boolean)] X := ⟨hx, hb, hml, hr, hlocks, hts, hown, hKv, hXs⟩
  replace hown : s.vm.findClass RX5 = some m.cls := hown
  have hl : lv_has ls 3 [(0, .ref (ad 0)), (1, .int a1), (2, .int a2)] := hl
  have k0 := hts (Cond.fieldLink RX5 25 "NoonWalkerModel" "miles" "[I") (List.mem_of_getElem? (i := 1) rfl)
  have k1 := hts (Cond.constant RX5 140 (-1000000)) (List.mem_of_getElem? (i := 2) rfl)
  unfold fX5_farOf at h
  refine lv_aload_n hx hb dX5_farOf_0 rfl (lv_at hl 0 rfl) ?_
  refine m_get hx hb hts hown hKv hM (fun _ h => List.mem_cons_of_mem _ (List.mem_append_right _ (h))) (by decide) at_X5 rfl 19 (by decide) k0 (v := .ref (ad 6)) rfl dX5_farOf_1 ?_
  refine lv_bipush (v := (6 : Int32)) hx hb dX5_farOf_4 (by decide) ?_
  refine lv_iload_n hx hb dX5_farOf_6 rfl (lv_at hl 1 rfl) ?_
  refine lv_imul hx hb dX5_farOf_7 ?_
  refine lv_iload_n hx hb dX5_farOf_8 rfl (lv_at hl 2 rfl) ?_
  refine lv_iadd hx hb dX5_farOf_9 ?_
  obtain ⟨x1, hx1, h⟩ := Option.bind_eq_some_iff.mp h
  refine m_iald hx hb hKv hM (by decide) at_X5_6 0 rfl hx1 dX5_farOf_10 ?_
  refine lv_ldc (v := (-1000000 : Int32)) hx hb hown k1 dX5_farOf_11 ?_
  refine lv_icmp_ne (tgt := 21) hx hb dX5_farOf_13 (by decide) (fun c2 => ?_) (fun c2 => ?_)
  · replace h := (if_neg c2).symm.trans h
    refine lv_aload_n hx hb dX5_farOf_21 rfl (lv_at hl 0 rfl) ?_
    refine m_get hx hb hts hown hKv hM (fun _ h => List.mem_cons_of_mem _ (List.mem_append_right _ (h))) (by decide) at_X5 rfl 19 (by decide) k0 (v := .ref (ad 6)) rfl dX5_farOf_22 ?_
    refine lv_bipush (v := (6 : Int32)) hx hb dX5_farOf_25 (by decide) ?_
    refine lv_iload_n hx hb dX5_farOf_27 rfl (lv_at hl 1 rfl) ?_
    refine lv_imul hx hb dX5_farOf_28 ?_
    refine lv_iload_n hx hb dX5_farOf_29 rfl (lv_at hl 2 rfl) ?_
    refine lv_iadd hx hb dX5_farOf_30 ?_
    obtain ⟨x3, hx3, h⟩ := Option.bind_eq_some_iff.mp h
    refine m_iald hx hb hKv hM (by decide) at_X5_6 0 rfl hx3 dX5_farOf_31 ?_
    exact m_iret hx hb hr hlocks hM (Option.some.inj h) rfl dX5_farOf_32
  · replace h := (if_pos c2).symm.trans h
    refine lv_bipush (v := (-9 : Int32)) hx hb dX5_farOf_16 (by decide) ?_
    refine lv_goto (tgt := 32) hx hb dX5_farOf_18 (by decide) ?_
    exact m_iret hx hb hr hlocks hM (Option.some.inj h) rfl dX5_farOf_32
set_option maxHeartbeats 4000000 in
set_option maxRecDepth 100000 in
theorem wX5_roadsOf_4 {p : Program} {l : Launch} {e : Env} {s : State} {m : MethodId} {args : Array Value} {below : List Frame} {meth : Method} {c : Code} {D : va_G} {cI cZ : ClassId} {ad : Nat → Nat} {X : State → Prop} (Z : mZ p s m args meth c cX5_roadsOf 4 (some .int) wsX5_roadsOf RX5 D [(cI, .int), (cZ, .boolean)] X) (hX0 : mX ad 14 X)   (u1 : Int32) (M : Mem) {K : Int32 → Option Int32} (res : Int32) (hKc : ∀ (y2 : Int32), K y2 = some res → ∀ (H : Heap) (locs : List Loc) (ls : Array Slot), lv_has ls 4 [(2, .int y2)] → mH D ad 14 (Em ad cI cZ M) s.heap H locs → W p l e { frames := 0, cells := 0, slots := 0, locals := 0 } s m args below meth c H locs 0 0 (MQ below (mQ D ad 14 (some (.int res)) (Em ad cI cZ M)) args s 0 0 (mA ad 14)) (F0 m 52 ls [])) :
    ∀ (n : Nat) (v2 : Int32) (v3 : Int32), fX5_roadsOf_4 u1 M K n v2 v3 = some res → ∀ (H : Heap) (locs : List Loc) (ls : Array Slot), lv_has ls 4 [(0, .ref (ad 0)), (1, .int u1), (2, .int v2), (3, .int v3)] → mH D ad 14 (Em ad cI cZ M) s.heap H locs → W p l e { frames := 0, cells := 0, slots := 0, locals := 0 } s m args below meth c H locs 0 0 (MQ below (mQ D ad 14 (some (.int res)) (Em ad cI cZ M)) args s 0 0 (mA ad 14)) (F0 m 4 ls []) := by
  obtain ⟨hx, hb, hml, hr, hlocks, hts, hown, hKv, hXs⟩ := id Z
  have hXk := hX0
  have k0 := hts (Cond.fieldLink RX5 134 "NoonWalkerModel" "roads" "I") (List.mem_of_getElem? (i := 1) rfl)
  have k1 := hts (Cond.fieldLink RX5 16 "NoonWalkerModel" "road" "[I") (List.mem_of_getElem? (i := 2) rfl)
  intro n
  induction n with
  | zero => intro _ _ h; exact absurd h (by unfold fX5_roadsOf_4; exact fun h => by cases h)
  | succ n ih =>
    intro v2 v3 h H locs ls hl hM
    rw [fX5_roadsOf_4] at h
    refine lv_iload_n hx hb dX5_roadsOf_4 rfl (lv_at hl 3 rfl) ?_
    refine lv_aload_n hx hb dX5_roadsOf_5 rfl (lv_at hl 0 rfl) ?_
    refine m_get hx hb hts hown hKv hM (fun _ h => List.mem_cons_of_mem _ (List.mem_append_right _ (h))) (by decide) at_X5 rfl 14 (by decide) k0 (v := .int (M.1 0 14)) rfl dX5_roadsOf_6 ?_
    refine lv_icmp_ge (tgt := 52) hx hb dX5_roadsOf_9 (by decide) (fun c1 => ?_) (fun c1 => ?_)
    · replace h := (if_pos c1).symm.trans h
      exact hKc _ h _ _ _ (lv_sub hl [2] rfl) hM
    · replace h := (if_neg c1).symm.trans h
      refine lv_iload_n hx hb dX5_roadsOf_12 rfl (lv_at hl 2 rfl) ?_
      refine lv_aload_n hx hb dX5_roadsOf_13 rfl (lv_at hl 0 rfl) ?_
      refine m_get hx hb hts hown hKv hM (fun _ h => List.mem_cons_of_mem _ (List.mem_append_right _ (h))) (by decide) at_X5 rfl 10 (by decide) k1 (v := .ref (ad 3)) rfl dX5_roadsOf_14 ?_
      refine lv_iconst (v := (3 : Int32)) hx hb dX5_roadsOf_17 (by decide) ?_
      refine lv_iload_n hx hb dX5_roadsOf_18 rfl (lv_at hl 3 rfl) ?_
      refine lv_imul hx hb dX5_roadsOf_19 ?_
      obtain ⟨x2, hx2, h⟩ := Option.bind_eq_some_iff.mp h
      refine m_iald hx hb hKv hM (by decide) at_X5_3 0 rfl hx2 dX5_roadsOf_20 ?_
      refine lv_iload_n hx hb dX5_roadsOf_21 rfl (lv_at hl 1 rfl) ?_
      refine lv_icmp_eq (tgt := 39) hx hb dX5_roadsOf_22 (by decide) (fun c3 => ?_) (fun c3 => ?_)
      · replace h := (if_pos c3).symm.trans h
        refine lv_iconst (v := (1 : Int32)) hx hb dX5_roadsOf_39 (by decide) ?_
        refine lv_goto (tgt := 44) hx hb dX5_roadsOf_40 (by decide) ?_
        refine lv_iadd hx hb dX5_roadsOf_44 ?_
        refine lv_istore_n (lv' := [(2, .int (v2 + (1 : Int32))), (0, .ref (ad 0)), (1, .int u1), (3, .int v3)]) hx hb dX5_roadsOf_45 rfl hl (by decide) rfl (fun ls hl => ?_)
        refine lv_iinc (v := (v3 + 1)) (lv' := [(3, .int (v3 + 1)), (2, .int (v2 + (1 : Int32))), (0, .ref (ad 0)), (1, .int u1)]) hx hb dX5_roadsOf_46 hl (k := 3) rfl rfl (by decide) rfl (fun ls hl => ?_)
        refine lv_goto (tgt := 4) hx hb dX5_roadsOf_49 (by decide) ?_
        exact ih _ _ h _ _ _ (lv_sub hl [2, 3, 1, 0] rfl) hM
      · replace h := (if_neg c3).symm.trans h
        refine lv_aload_n hx hb dX5_roadsOf_25 rfl (lv_at hl 0 rfl) ?_
        refine m_get hx hb hts hown hKv hM (fun _ h => List.mem_cons_of_mem _ (List.mem_append_right _ (h))) (by decide) at_X5 rfl 10 (by decide) k1 (v := .ref (ad 3)) rfl dX5_roadsOf_26 ?_
        refine lv_iconst (v := (3 : Int32)) hx hb dX5_roadsOf_29 (by decide) ?_
        refine lv_iload_n hx hb dX5_roadsOf_30 rfl (lv_at hl 3 rfl) ?_
        refine lv_imul hx hb dX5_roadsOf_31 ?_
        refine lv_iconst (v := (1 : Int32)) hx hb dX5_roadsOf_32 (by decide) ?_
        refine lv_iadd hx hb dX5_roadsOf_33 ?_
        obtain ⟨x4, hx4, h⟩ := Option.bind_eq_some_iff.mp h
        refine m_iald hx hb hKv hM (by decide) at_X5_3 0 rfl hx4 dX5_roadsOf_34 ?_
        refine lv_iload_n hx hb dX5_roadsOf_35 rfl (lv_at hl 1 rfl) ?_
        refine lv_icmp_ne (tgt := 43) hx hb dX5_roadsOf_36 (by decide) (fun c5 => ?_) (fun c5 => ?_)
        · replace h := (if_neg c5).symm.trans h
          refine lv_iconst (v := (0 : Int32)) hx hb dX5_roadsOf_43 (by decide) ?_
          refine lv_iadd hx hb dX5_roadsOf_44 ?_
          refine lv_istore_n (lv' := [(2, .int (v2 + (0 : Int32))), (0, .ref (ad 0)), (1, .int u1), (3, .int v3)]) hx hb dX5_roadsOf_45 rfl hl (by decide) rfl (fun ls hl => ?_)
          refine lv_iinc (v := (v3 + 1)) (lv' := [(3, .int (v3 + 1)), (2, .int (v2 + (0 : Int32))), (0, .ref (ad 0)), (1, .int u1)]) hx hb dX5_roadsOf_46 hl (k := 3) rfl rfl (by decide) rfl (fun ls hl => ?_)
          refine lv_goto (tgt := 4) hx hb dX5_roadsOf_49 (by decide) ?_
          exact ih _ _ h _ _ _ (lv_sub hl [2, 3, 1, 0] rfl) hM
        · replace h := (if_pos c5).symm.trans h
          refine lv_iconst (v := (1 : Int32)) hx hb dX5_roadsOf_39 (by decide) ?_
          refine lv_goto (tgt := 44) hx hb dX5_roadsOf_40 (by decide) ?_
          refine lv_iadd hx hb dX5_roadsOf_44 ?_
          refine lv_istore_n (lv' := [(2, .int (v2 + (1 : Int32))), (0, .ref (ad 0)), (1, .int u1), (3, .int v3)]) hx hb dX5_roadsOf_45 rfl hl (by decide) rfl (fun ls hl => ?_)
          refine lv_iinc (v := (v3 + 1)) (lv' := [(3, .int (v3 + 1)), (2, .int (v2 + (1 : Int32))), (0, .ref (ad 0)), (1, .int u1)]) hx hb dX5_roadsOf_46 hl (k := 3) rfl rfl (by decide) rfl (fun ls hl => ?_)
          refine lv_goto (tgt := 4) hx hb dX5_roadsOf_49 (by decide) ?_
          exact ih _ _ h _ _ _ (lv_sub hl [2, 3, 1, 0] rfl) hM
set_option maxHeartbeats 4000000 in
set_option maxRecDepth 100000 in
theorem kX5_roadsOf (l : Launch) (D : va_G) (cI cZ : ClassId) (ad : Nat → Nat) {X : State → Prop} (hX0 : mX ad 14 X) (a1 : Int32) (M : Mem) (res : Int32) (h : fX5_roadsOf a1 M = some res) : mC l yX5_roadsOf wsX5_roadsOf { frames := 0, cells := 0, slots := 0, locals := 0 } D [(cI, .int), (cZ, .boolean)] ad 14 X [.ref (ad 0), .int a1] (Em ad cI cZ M) (some (.int res)) (Em ad cI cZ M) := by
  refine m_ofW (cc := cX5_roadsOf) (maxL := 4) (ret := (some .int)) (by decide) rfl (Nat.le_of_ble_eq_true rfl) ?_
  intro p e s m args below meth c hx hb hml hr hlocks hts hown hKv hXs ls hl hM
  have hXk := hX0
  have Z : mZ p s m args meth c cX5_roadsOf 4 (some .int) wsX5_roadsOf RX5 D [(cI, .int), (cZ, .boolean)] X := ⟨hx, hb, hml, hr, hlocks, hts, hown, hKv, hXs⟩
  replace hown : s.vm.findClass RX5 = some m.cls := hown
  have hl : lv_has ls 4 [(0, .ref (ad 0)), (1, .int a1)] := hl
  unfold fX5_roadsOf at h
  refine lv_iconst (v := (0 : Int32)) hx hb dX5_roadsOf_0 (by decide) ?_
  refine lv_istore_n (lv' := [(2, .int (0 : Int32)), (0, .ref (ad 0)), (1, .int a1)]) hx hb dX5_roadsOf_1 rfl hl (by decide) rfl (fun ls hl => ?_)
  refine lv_iconst (v := (0 : Int32)) hx hb dX5_roadsOf_2 (by decide) ?_
  refine lv_istore_n (lv' := [(3, .int (0 : Int32)), (2, .int (0 : Int32)), (0, .ref (ad 0)), (1, .int a1)]) hx hb dX5_roadsOf_3 rfl hl (by decide) rfl (fun ls hl => ?_)
  refine wX5_roadsOf_4 Z hX0 a1 M _ (fun y1 h H locs ls hl hM => ?_) _ _ _ h _ _ _ (lv_sub hl [2, 3, 1, 0] rfl) hM
  refine lv_iload_n hx hb dX5_roadsOf_52 rfl (lv_at hl 0 rfl) ?_
  exact m_iret hx hb hr hlocks hM (Option.some.inj h) rfl dX5_roadsOf_53
set_option maxHeartbeats 4000000 in
set_option maxRecDepth 100000 in
theorem wX5_town_29 {p : Program} {l : Launch} {e : Env} {s : State} {m : MethodId} {args : Array Value} {below : List Frame} {meth : Method} {c : Code} {D : va_G} {cI cZ : ClassId} {ad : Nat → Nat} {X : State → Prop} (Z : mZ p s m args meth c cX5_town 5 (some .int) wsX5_town RX5 D [(cI, .int), (cZ, .boolean)] X) (hX0 : mX ad 14 X)   (u1 : Int32) (u2 : Int32) (M : Mem) {K : Int32 → Option (Int32 × Mem)} (res : (Int32 × Mem)) (hKc : ∀ (y3 : Int32), K y3 = some res → ∀ (H : Heap) (locs : List Loc) (ls : Array Slot), lv_has ls 5 [(0, .ref (ad 0)), (1, .int u1), (2, .int u2), (3, .int y3)] → mH D ad 14 (Em ad cI cZ M) s.heap H locs → W p l e { frames := 2, cells := 0, slots := 0, locals := 43 } s m args below meth c H locs 0 0 (MQ below (mQ D ad 14 (some (.int res.1)) (Em ad cI cZ res.2)) args s 0 0 (mA ad 14)) (F0 m 63 ls [])) :
    ∀ (n : Nat) (v3 : Int32) (v4 : Int32), fX5_town_29 u1 u2 M K n v3 v4 = some res → ∀ (H : Heap) (locs : List Loc) (ls : Array Slot), lv_has ls 5 [(0, .ref (ad 0)), (1, .int u1), (2, .int u2), (3, .int v3), (4, .int v4)] → mH D ad 14 (Em ad cI cZ M) s.heap H locs → W p l e { frames := 2, cells := 0, slots := 0, locals := 43 } s m args below meth c H locs 0 0 (MQ below (mQ D ad 14 (some (.int res.1)) (Em ad cI cZ res.2)) args s 0 0 (mA ad 14)) (F0 m 29 ls []) := by
  obtain ⟨hx, hb, hml, hr, hlocks, hts, hown, hKv, hXs⟩ := id Z
  have hXk := hX0
  have k0 := hts (Cond.fieldLink RX5 137 "NoonWalkerModel" "halts" "I") (List.mem_of_getElem? (i := 2) rfl)
  have k1 := hts (Cond.fieldLink RX5 19 "NoonWalkerModel" "haltAt" "[I") (List.mem_of_getElem? (i := 3) rfl)
  intro n
  induction n with
  | zero => intro _ _ h; exact absurd h (by unfold fX5_town_29; exact fun h => by cases h)
  | succ n ih =>
    intro v3 v4 h H locs ls hl hM
    rw [fX5_town_29] at h
    refine lv_iload hx hb dX5_town_29 (lv_at hl 4 rfl) ?_
    refine lv_aload_n hx hb dX5_town_31 rfl (lv_at hl 0 rfl) ?_
    refine m_get hx hb hts hown hKv hM (fun _ h => List.mem_cons_of_mem _ (List.mem_append_right _ (h))) (by decide) at_X5 rfl 15 (by decide) k0 (v := .int (M.1 0 15)) rfl dX5_town_32 ?_
    refine lv_icmp_ge (tgt := 63) hx hb dX5_town_35 (by decide) (fun c1 => ?_) (fun c1 => ?_)
    · replace h := (if_pos c1).symm.trans h
      exact hKc _ h _ _ _ (lv_sub hl [0, 1, 2, 3] rfl) hM
    · replace h := (if_neg c1).symm.trans h
      refine lv_iload_n hx hb dX5_town_38 rfl (lv_at hl 3 rfl) ?_
      refine lv_aload_n hx hb dX5_town_39 rfl (lv_at hl 0 rfl) ?_
      refine m_get hx hb hts hown hKv hM (fun _ h => List.mem_cons_of_mem _ (List.mem_append_right _ (h))) (by decide) at_X5 rfl 11 (by decide) k1 (v := .ref (ad 4)) rfl dX5_town_40 ?_
      refine lv_iload hx hb dX5_town_43 (lv_at hl 4 rfl) ?_
      obtain ⟨x2, hx2, h⟩ := Option.bind_eq_some_iff.mp h
      refine m_iald hx hb hKv hM (by decide) at_X5_4 0 rfl hx2 dX5_town_45 ?_
      refine lv_iload_n hx hb dX5_town_46 rfl (lv_at hl 1 rfl) ?_
      refine lv_icmp_ne (tgt := 54) hx hb dX5_town_47 (by decide) (fun c3 => ?_) (fun c3 => ?_)
      · replace h := (if_neg c3).symm.trans h
        refine lv_iconst (v := (0 : Int32)) hx hb dX5_town_54 (by decide) ?_
        refine lv_iadd hx hb dX5_town_55 ?_
        refine lv_istore_n (lv' := [(3, .int (v3 + (0 : Int32))), (0, .ref (ad 0)), (1, .int u1), (2, .int u2), (4, .int v4)]) hx hb dX5_town_56 rfl hl (by decide) rfl (fun ls hl => ?_)
        refine lv_iinc (v := (v4 + 1)) (lv' := [(4, .int (v4 + 1)), (3, .int (v3 + (0 : Int32))), (0, .ref (ad 0)), (1, .int u1), (2, .int u2)]) hx hb dX5_town_57 hl (k := 4) rfl rfl (by decide) rfl (fun ls hl => ?_)
        refine lv_goto (tgt := 29) hx hb dX5_town_60 (by decide) ?_
        exact ih _ _ h _ _ _ (lv_sub hl [2, 3, 4, 1, 0] rfl) hM
      · replace h := (if_pos c3).symm.trans h
        refine lv_iconst (v := (1 : Int32)) hx hb dX5_town_50 (by decide) ?_
        refine lv_goto (tgt := 55) hx hb dX5_town_51 (by decide) ?_
        refine lv_iadd hx hb dX5_town_55 ?_
        refine lv_istore_n (lv' := [(3, .int (v3 + (1 : Int32))), (0, .ref (ad 0)), (1, .int u1), (2, .int u2), (4, .int v4)]) hx hb dX5_town_56 rfl hl (by decide) rfl (fun ls hl => ?_)
        refine lv_iinc (v := (v4 + 1)) (lv' := [(4, .int (v4 + 1)), (3, .int (v3 + (1 : Int32))), (0, .ref (ad 0)), (1, .int u1), (2, .int u2)]) hx hb dX5_town_57 hl (k := 4) rfl rfl (by decide) rfl (fun ls hl => ?_)
        refine lv_goto (tgt := 29) hx hb dX5_town_60 (by decide) ?_
        exact ih _ _ h _ _ _ (lv_sub hl [2, 3, 4, 1, 0] rfl) hM
set_option maxHeartbeats 4000000 in
set_option maxRecDepth 100000 in
theorem kX5_town (l : Launch) (D : va_G) (cI cZ : ClassId) (ad : Nat → Nat) {X : State → Prop} (hX0 : mX ad 14 X) (a1 : Int32) (a2 : Int32) (M : Mem) (res : (Int32 × Mem)) (h : fX5_town a1 a2 M = some res) : mC l yX5_town wsX5_town { frames := 2, cells := 0, slots := 0, locals := 43 } D [(cI, .int), (cZ, .boolean)] ad 14 X [.ref (ad 0), .int a1, .int a2] (Em ad cI cZ M) (some (.int res.1)) (Em ad cI cZ res.2) := by
  refine m_ofW (cc := cX5_town) (maxL := 5) (ret := (some .int)) (by decide) rfl (Nat.le_of_ble_eq_true rfl) ?_
  intro p e s m args below meth c hx hb hml hr hlocks hts hown hKv hXs ls hl hM
  have hXk := hX0
  have Z : mZ p s m args meth c cX5_town 5 (some .int) wsX5_town RX5 D [(cI, .int), (cZ, .boolean)] X := ⟨hx, hb, hml, hr, hlocks, hts, hown, hKv, hXs⟩
  replace hown : s.vm.findClass RX5 = some m.cls := hown
  have hl : lv_has ls 5 [(0, .ref (ad 0)), (1, .int a1), (2, .int a2)] := hl
  have k0 := hts (Cond.fieldLink RX5 53 "NoonWalkerModel" "thrown" "I") (List.mem_of_getElem? (i := 1) rfl)
  have k1 := hts (Cond.fieldLink RX5 13 "NoonWalkerModel" "bid" "[I") (List.mem_of_getElem? (i := 4) rfl)
  unfold fX5_town at h
  refine lv_aload_n hx hb dX5_town_0 rfl (lv_at hl 0 rfl) ?_
  refine lv_iconst (v := (0 : Int32)) hx hb dX5_town_1 (by decide) ?_
  obtain ⟨M1, hM1, h⟩ := Option.bind_eq_some_iff.mp h
  refine m_put hx hb hts hown hKv hM (fun _ h => List.mem_cons_of_mem _ (List.mem_append_right _ (h))) tyX5 tyX5_ok nmX5 (by decide) at_X5 rfl 0 (by decide) k0 rfl rfl rfl (Nat.le_of_ble_eq_true rfl) (pt_X5_0 (Option.some.inj hM1)) dX5_town_2 (fun H locs hM => ?_)
  refine lv_aload_n hx hb dX5_town_5 rfl (lv_at hl 0 rfl) ?_
  refine lv_iload_n hx hb dX5_town_6 rfl (lv_at hl 1 rfl) ?_
  obtain ⟨x2, hx2, h⟩ := Option.bind_eq_some_iff.mp h
  refine m_callV (As := [.int a1]) (st1 := [.int x2]) hx hb (hml.trans hl.1.symm) hown hts hKv hXs hXk hM (kX5_isTown l D cI cZ ad hX0 a1 M1 _ hx2) (cwV 1 hts gX5_town_X5_isTown rfl rfl rfl (by decide +kernel) ⟨Nat.le_of_ble_eq_true rfl, Nat.le_of_ble_eq_true rfl⟩) (by decide) at_X5 rfl rfl rfl rfl (Nat.le_of_ble_eq_true rfl) dX5_town_7 ⟨Nat.zero_le _, Nat.zero_le _⟩ (fun H locs hM => ?_)
  refine lv_if_eq (tgt := 22) hx hb dX5_town_10 (by decide) (fun c3 => ?_) (fun c3 => ?_)
  · replace h := (if_pos c3).symm.trans h
    refine lv_iconst (v := (-1 : Int32)) hx hb dX5_town_22 (by decide) ?_
    exact m_iret hx hb hr hlocks hM (congrArg (a₁ := ((-1 : Int32), M1)) Prod.fst (Option.some.inj h)) (congrArg (a₁ := ((-1 : Int32), M1)) (fun z => Em ad cI cZ z.2) (Option.some.inj h)) dX5_town_23
  · replace h := (if_neg c3).symm.trans h
    refine lv_iload_n hx hb dX5_town_13 rfl (lv_at hl 2 rfl) ?_
    refine lv_iconst (v := (0 : Int32)) hx hb dX5_town_14 (by decide) ?_
    refine lv_iconst (v := (2 : Int32)) hx hb dX5_town_15 (by decide) ?_
    obtain ⟨x4, hx4, h⟩ := Option.bind_eq_some_iff.mp h
    refine m_callS (As := [.int a2, .int (0 : Int32), .int (2 : Int32)]) (st1 := [.int x4]) hx hb (hml.trans hl.1.symm) hown hts hKv hXs hXk hM (kX5_in l D cI cZ ad hX0 a2 (0 : Int32) (2 : Int32) M1 _ hx4) (va_cwS 3 hts gX5_town_X5_in rfl rfl rfl (by decide +kernel) ⟨Nat.le_of_ble_eq_true rfl, Nat.le_of_ble_eq_true rfl⟩) rfl rfl rfl (Nat.le_of_ble_eq_true rfl) dX5_town_16 ⟨Nat.zero_le _, Nat.zero_le _⟩ (fun H locs hM => ?_)
    refine lv_if_ne (tgt := 24) hx hb dX5_town_19 (by decide) (fun c5 => ?_) (fun c5 => ?_)
    · replace h := (if_neg c5).symm.trans h
      refine lv_iconst (v := (0 : Int32)) hx hb dX5_town_24 (by decide) ?_
      refine lv_istore_n (lv' := [(3, .int (0 : Int32)), (0, .ref (ad 0)), (1, .int a1), (2, .int a2)]) hx hb dX5_town_25 rfl hl (by decide) rfl (fun ls hl => ?_)
      refine lv_iconst (v := (0 : Int32)) hx hb dX5_town_26 (by decide) ?_
      refine lv_istore (lv' := [(4, .int (0 : Int32)), (3, .int (0 : Int32)), (0, .ref (ad 0)), (1, .int a1), (2, .int a2)]) hx hb dX5_town_27 hl (by decide) rfl (fun ls hl => ?_)
      refine wX5_town_29 Z hX0 a1 a2 M1 _ (fun y6 h H locs ls hl hM => ?_) _ _ _ h _ _ _ (lv_sub hl [2, 3, 4, 1, 0] rfl) hM
      refine lv_iload_n hx hb dX5_town_63 rfl (lv_at hl 2 rfl) ?_
      refine lv_if_ne (tgt := 76) hx hb dX5_town_64 (by decide) (fun c7 => ?_) (fun c7 => ?_)
      · replace h := (if_neg c7).symm.trans h
        refine lv_iload_n hx hb dX5_town_76 rfl (lv_at hl 2 rfl) ?_
        refine lv_iconst (v := (1 : Int32)) hx hb dX5_town_77 (by decide) ?_
        refine lv_icmp_ne (tgt := 89) hx hb dX5_town_78 (by decide) (fun c8 => ?_) (fun c8 => ?_)
        · replace h := (if_neg c8).symm.trans h
          refine lv_iload_n hx hb dX5_town_89 rfl (lv_at hl 3 rfl) ?_
          exact m_iret hx hb hr hlocks hM (congrArg (a₁ := (y6, M1)) Prod.fst (Option.some.inj h)) (congrArg (a₁ := (y6, M1)) (fun z => Em ad cI cZ z.2) (Option.some.inj h)) dX5_town_90
        · replace h := (if_pos c8).symm.trans h
          refine lv_aload_n hx hb dX5_town_81 rfl (lv_at hl 0 rfl) ?_
          refine lv_iload_n hx hb dX5_town_82 rfl (lv_at hl 1 rfl) ?_
          obtain ⟨x9, hx9, h⟩ := Option.bind_eq_some_iff.mp h
          refine m_callV (As := [.int a1]) (st1 := [.int x9]) hx hb (hml.trans hl.1.symm) hown hts hKv hXs hXk hM (kX5_roadsOf l D cI cZ ad hX0 a1 M1 _ hx9) (cwV 1 hts gX5_town_X5_roadsOf rfl rfl rfl (by decide +kernel) ⟨Nat.le_of_ble_eq_true rfl, Nat.le_of_ble_eq_true rfl⟩) (by decide) at_X5 rfl rfl rfl rfl (Nat.le_of_ble_eq_true rfl) dX5_town_83 ⟨Nat.zero_le _, Nat.zero_le _⟩ (fun H locs hM => ?_)
          refine lv_goto (tgt := 90) hx hb dX5_town_86 (by decide) ?_
          exact m_iret hx hb hr hlocks hM (congrArg (a₁ := (x9, M1)) Prod.fst (Option.some.inj h)) (congrArg (a₁ := (x9, M1)) (fun z => Em ad cI cZ z.2) (Option.some.inj h)) dX5_town_90
      · replace h := (if_pos c7).symm.trans h
        refine lv_aload_n hx hb dX5_town_67 rfl (lv_at hl 0 rfl) ?_
        refine m_get hx hb hts hown hKv hM (fun _ h => List.mem_cons_of_mem _ (List.mem_append_right _ (h))) (by decide) at_X5 rfl 9 (by decide) k1 (v := .ref (ad 2)) rfl dX5_town_68 ?_
        refine lv_iload_n hx hb dX5_town_71 rfl (lv_at hl 1 rfl) ?_
        obtain ⟨x10, hx10, h⟩ := Option.bind_eq_some_iff.mp h
        refine m_iald hx hb hKv hM (by decide) at_X5_2 0 rfl hx10 dX5_town_72 ?_
        refine lv_goto (tgt := 90) hx hb dX5_town_73 (by decide) ?_
        exact m_iret hx hb hr hlocks hM (congrArg (a₁ := (x10, M1)) Prod.fst (Option.some.inj h)) (congrArg (a₁ := (x10, M1)) (fun z => Em ad cI cZ z.2) (Option.some.inj h)) dX5_town_90
    · replace h := (if_pos c5).symm.trans h
      refine lv_iconst (v := (-1 : Int32)) hx hb dX5_town_22 (by decide) ?_
      exact m_iret hx hb hr hlocks hM (congrArg (a₁ := ((-1 : Int32), M1)) Prod.fst (Option.some.inj h)) (congrArg (a₁ := ((-1 : Int32), M1)) (fun z => Em ad cI cZ z.2) (Option.some.inj h)) dX5_town_23
set_option maxHeartbeats 4000000 in
set_option maxRecDepth 100000 in
theorem kX5_road (l : Launch) (D : va_G) (cI cZ : ClassId) (ad : Nat → Nat) {X : State → Prop} (hX0 : mX ad 14 X) (a1 : Int32) (a2 : Int32) (M : Mem) (res : (Int32 × Mem)) (h : fX5_road a1 a2 M = some res) : mC l yX5_road wsX5_road { frames := 1, cells := 0, slots := 0, locals := 22 } D [(cI, .int), (cZ, .boolean)] ad 14 X [.ref (ad 0), .int a1, .int a2] (Em ad cI cZ M) (some (.int res.1)) (Em ad cI cZ res.2) := by
  refine m_ofW (cc := cX5_road) (maxL := 3) (ret := (some .int)) (by decide) rfl (Nat.le_of_ble_eq_true rfl) ?_
  intro p e s m args below meth c hx hb hml hr hlocks hts hown hKv hXs ls hl hM
  have hXk := hX0
  have Z : mZ p s m args meth c cX5_road 3 (some .int) wsX5_road RX5 D [(cI, .int), (cZ, .boolean)] X := ⟨hx, hb, hml, hr, hlocks, hts, hown, hKv, hXs⟩
  replace hown : s.vm.findClass RX5 = some m.cls := hown
  have hl : lv_has ls 3 [(0, .ref (ad 0)), (1, .int a1), (2, .int a2)] := hl
  have k0 := hts (Cond.fieldLink RX5 53 "NoonWalkerModel" "thrown" "I") (List.mem_of_getElem? (i := 1) rfl)
  have k1 := hts (Cond.fieldLink RX5 134 "NoonWalkerModel" "roads" "I") (List.mem_of_getElem? (i := 2) rfl)
  have k2 := hts (Cond.fieldLink RX5 16 "NoonWalkerModel" "road" "[I") (List.mem_of_getElem? (i := 3) rfl)
  unfold fX5_road at h
  refine lv_aload_n hx hb dX5_road_0 rfl (lv_at hl 0 rfl) ?_
  refine lv_iconst (v := (0 : Int32)) hx hb dX5_road_1 (by decide) ?_
  obtain ⟨M1, hM1, h⟩ := Option.bind_eq_some_iff.mp h
  refine m_put hx hb hts hown hKv hM (fun _ h => List.mem_cons_of_mem _ (List.mem_append_right _ (h))) tyX5 tyX5_ok nmX5 (by decide) at_X5 rfl 0 (by decide) k0 rfl rfl rfl (Nat.le_of_ble_eq_true rfl) (pt_X5_0 (Option.some.inj hM1)) dX5_road_2 (fun H locs hM => ?_)
  refine lv_iload_n hx hb dX5_road_5 rfl (lv_at hl 1 rfl) ?_
  refine lv_iconst (v := (0 : Int32)) hx hb dX5_road_6 (by decide) ?_
  refine lv_aload_n hx hb dX5_road_7 rfl (lv_at hl 0 rfl) ?_
  refine m_get hx hb hts hown hKv hM (fun _ h => List.mem_cons_of_mem _ (List.mem_append_right _ (h))) (by decide) at_X5 rfl 14 (by decide) k1 (v := .int (M1.1 0 14)) rfl dX5_road_8 ?_
  refine lv_iconst (v := (1 : Int32)) hx hb dX5_road_11 (by decide) ?_
  refine lv_isub hx hb dX5_road_12 ?_
  obtain ⟨x2, hx2, h⟩ := Option.bind_eq_some_iff.mp h
  refine m_callS (As := [.int a1, .int (0 : Int32), .int ((M1.1 0 14) - (1 : Int32))]) (st1 := [.int x2]) hx hb (hml.trans hl.1.symm) hown hts hKv hXs hXk hM (kX5_in l D cI cZ ad hX0 a1 (0 : Int32) ((M1.1 0 14) - (1 : Int32)) M1 _ hx2) (va_cwS 3 hts gX5_road_X5_in rfl rfl rfl (by decide +kernel) ⟨Nat.le_of_ble_eq_true rfl, Nat.le_of_ble_eq_true rfl⟩) rfl rfl rfl (Nat.le_of_ble_eq_true rfl) dX5_road_13 ⟨Nat.zero_le _, Nat.zero_le _⟩ (fun H locs hM => ?_)
  refine lv_if_eq (tgt := 41) hx hb dX5_road_16 (by decide) (fun c3 => ?_) (fun c3 => ?_)
  · replace h := (if_pos c3).symm.trans h
    refine lv_iconst (v := (-1 : Int32)) hx hb dX5_road_41 (by decide) ?_
    exact m_iret hx hb hr hlocks hM (congrArg (a₁ := ((-1 : Int32), M1)) Prod.fst (Option.some.inj h)) (congrArg (a₁ := ((-1 : Int32), M1)) (fun z => Em ad cI cZ z.2) (Option.some.inj h)) dX5_road_42
  · replace h := (if_neg c3).symm.trans h
    refine lv_iload_n hx hb dX5_road_19 rfl (lv_at hl 2 rfl) ?_
    refine lv_iconst (v := (0 : Int32)) hx hb dX5_road_20 (by decide) ?_
    refine lv_iconst (v := (2 : Int32)) hx hb dX5_road_21 (by decide) ?_
    obtain ⟨x4, hx4, h⟩ := Option.bind_eq_some_iff.mp h
    refine m_callS (As := [.int a2, .int (0 : Int32), .int (2 : Int32)]) (st1 := [.int x4]) hx hb (hml.trans hl.1.symm) hown hts hKv hXs hXk hM (kX5_in l D cI cZ ad hX0 a2 (0 : Int32) (2 : Int32) M1 _ hx4) (va_cwS 3 hts gX5_road_X5_in rfl rfl rfl (by decide +kernel) ⟨Nat.le_of_ble_eq_true rfl, Nat.le_of_ble_eq_true rfl⟩) rfl rfl rfl (Nat.le_of_ble_eq_true rfl) dX5_road_22 ⟨Nat.zero_le _, Nat.zero_le _⟩ (fun H locs hM => ?_)
    refine lv_if_eq (tgt := 41) hx hb dX5_road_25 (by decide) (fun c5 => ?_) (fun c5 => ?_)
    · replace h := (if_pos c5).symm.trans h
      refine lv_iconst (v := (-1 : Int32)) hx hb dX5_road_41 (by decide) ?_
      exact m_iret hx hb hr hlocks hM (congrArg (a₁ := ((-1 : Int32), M1)) Prod.fst (Option.some.inj h)) (congrArg (a₁ := ((-1 : Int32), M1)) (fun z => Em ad cI cZ z.2) (Option.some.inj h)) dX5_road_42
    · replace h := (if_neg c5).symm.trans h
      refine lv_aload_n hx hb dX5_road_28 rfl (lv_at hl 0 rfl) ?_
      refine m_get hx hb hts hown hKv hM (fun _ h => List.mem_cons_of_mem _ (List.mem_append_right _ (h))) (by decide) at_X5 rfl 10 (by decide) k2 (v := .ref (ad 3)) rfl dX5_road_29 ?_
      refine lv_iconst (v := (3 : Int32)) hx hb dX5_road_32 (by decide) ?_
      refine lv_iload_n hx hb dX5_road_33 rfl (lv_at hl 1 rfl) ?_
      refine lv_imul hx hb dX5_road_34 ?_
      refine lv_iload_n hx hb dX5_road_35 rfl (lv_at hl 2 rfl) ?_
      refine lv_iadd hx hb dX5_road_36 ?_
      obtain ⟨x6, hx6, h⟩ := Option.bind_eq_some_iff.mp h
      refine m_iald hx hb hKv hM (by decide) at_X5_3 0 rfl hx6 dX5_road_37 ?_
      refine lv_goto (tgt := 42) hx hb dX5_road_38 (by decide) ?_
      exact m_iret hx hb hr hlocks hM (congrArg (a₁ := (x6, M1)) Prod.fst (Option.some.inj h)) (congrArg (a₁ := (x6, M1)) (fun z => Em ad cI cZ z.2) (Option.some.inj h)) dX5_road_42
set_option maxHeartbeats 4000000 in
set_option maxRecDepth 100000 in
theorem kX5_stop (l : Launch) (D : va_G) (cI cZ : ClassId) (ad : Nat → Nat) {X : State → Prop} (hX0 : mX ad 14 X) (a1 : Int32) (a2 : Int32) (M : Mem) (res : (Int32 × Mem)) (h : fX5_stop a1 a2 M = some res) : mC l yX5_stop wsX5_stop { frames := 1, cells := 0, slots := 0, locals := 22 } D [(cI, .int), (cZ, .boolean)] ad 14 X [.ref (ad 0), .int a1, .int a2] (Em ad cI cZ M) (some (.int res.1)) (Em ad cI cZ res.2) := by
  refine m_ofW (cc := cX5_stop) (maxL := 3) (ret := (some .int)) (by decide) rfl (Nat.le_of_ble_eq_true rfl) ?_
  intro p e s m args below meth c hx hb hml hr hlocks hts hown hKv hXs ls hl hM
  have hXk := hX0
  have Z : mZ p s m args meth c cX5_stop 3 (some .int) wsX5_stop RX5 D [(cI, .int), (cZ, .boolean)] X := ⟨hx, hb, hml, hr, hlocks, hts, hown, hKv, hXs⟩
  replace hown : s.vm.findClass RX5 = some m.cls := hown
  have hl : lv_has ls 3 [(0, .ref (ad 0)), (1, .int a1), (2, .int a2)] := hl
  have k0 := hts (Cond.fieldLink RX5 53 "NoonWalkerModel" "thrown" "I") (List.mem_of_getElem? (i := 1) rfl)
  have k1 := hts (Cond.fieldLink RX5 137 "NoonWalkerModel" "halts" "I") (List.mem_of_getElem? (i := 2) rfl)
  have k2 := hts (Cond.fieldLink RX5 31 "NoonWalkerModel" "comes" "[I") (List.mem_of_getElem? (i := 5) rfl)
  have k3 := hts (Cond.fieldLink RX5 22 "NoonWalkerModel" "rest" "[I") (List.mem_of_getElem? (i := 4) rfl)
  have k4 := hts (Cond.fieldLink RX5 19 "NoonWalkerModel" "haltAt" "[I") (List.mem_of_getElem? (i := 3) rfl)
  unfold fX5_stop at h
  refine lv_aload_n hx hb dX5_stop_0 rfl (lv_at hl 0 rfl) ?_
  refine lv_iconst (v := (0 : Int32)) hx hb dX5_stop_1 (by decide) ?_
  obtain ⟨M1, hM1, h⟩ := Option.bind_eq_some_iff.mp h
  refine m_put hx hb hts hown hKv hM (fun _ h => List.mem_cons_of_mem _ (List.mem_append_right _ (h))) tyX5 tyX5_ok nmX5 (by decide) at_X5 rfl 0 (by decide) k0 rfl rfl rfl (Nat.le_of_ble_eq_true rfl) (pt_X5_0 (Option.some.inj hM1)) dX5_stop_2 (fun H locs hM => ?_)
  refine lv_iload_n hx hb dX5_stop_5 rfl (lv_at hl 1 rfl) ?_
  refine lv_iconst (v := (0 : Int32)) hx hb dX5_stop_6 (by decide) ?_
  refine lv_aload_n hx hb dX5_stop_7 rfl (lv_at hl 0 rfl) ?_
  refine m_get hx hb hts hown hKv hM (fun _ h => List.mem_cons_of_mem _ (List.mem_append_right _ (h))) (by decide) at_X5 rfl 15 (by decide) k1 (v := .int (M1.1 0 15)) rfl dX5_stop_8 ?_
  refine lv_iconst (v := (1 : Int32)) hx hb dX5_stop_11 (by decide) ?_
  refine lv_isub hx hb dX5_stop_12 ?_
  obtain ⟨x2, hx2, h⟩ := Option.bind_eq_some_iff.mp h
  refine m_callS (As := [.int a1, .int (0 : Int32), .int ((M1.1 0 15) - (1 : Int32))]) (st1 := [.int x2]) hx hb (hml.trans hl.1.symm) hown hts hKv hXs hXk hM (kX5_in l D cI cZ ad hX0 a1 (0 : Int32) ((M1.1 0 15) - (1 : Int32)) M1 _ hx2) (va_cwS 3 hts gX5_stop_X5_in rfl rfl rfl (by decide +kernel) ⟨Nat.le_of_ble_eq_true rfl, Nat.le_of_ble_eq_true rfl⟩) rfl rfl rfl (Nat.le_of_ble_eq_true rfl) dX5_stop_13 ⟨Nat.zero_le _, Nat.zero_le _⟩ (fun H locs hM => ?_)
  refine lv_if_eq (tgt := 28) hx hb dX5_stop_16 (by decide) (fun c3 => ?_) (fun c3 => ?_)
  · replace h := (if_pos c3).symm.trans h
    refine lv_iconst (v := (-1 : Int32)) hx hb dX5_stop_28 (by decide) ?_
    exact m_iret hx hb hr hlocks hM (congrArg (a₁ := ((-1 : Int32), M1)) Prod.fst (Option.some.inj h)) (congrArg (a₁ := ((-1 : Int32), M1)) (fun z => Em ad cI cZ z.2) (Option.some.inj h)) dX5_stop_29
  · replace h := (if_neg c3).symm.trans h
    refine lv_iload_n hx hb dX5_stop_19 rfl (lv_at hl 2 rfl) ?_
    refine lv_iconst (v := (0 : Int32)) hx hb dX5_stop_20 (by decide) ?_
    refine lv_iconst (v := (3 : Int32)) hx hb dX5_stop_21 (by decide) ?_
    obtain ⟨x4, hx4, h⟩ := Option.bind_eq_some_iff.mp h
    refine m_callS (As := [.int a2, .int (0 : Int32), .int (3 : Int32)]) (st1 := [.int x4]) hx hb (hml.trans hl.1.symm) hown hts hKv hXs hXk hM (kX5_in l D cI cZ ad hX0 a2 (0 : Int32) (3 : Int32) M1 _ hx4) (va_cwS 3 hts gX5_stop_X5_in rfl rfl rfl (by decide +kernel) ⟨Nat.le_of_ble_eq_true rfl, Nat.le_of_ble_eq_true rfl⟩) rfl rfl rfl (Nat.le_of_ble_eq_true rfl) dX5_stop_22 ⟨Nat.zero_le _, Nat.zero_le _⟩ (fun H locs hM => ?_)
    refine lv_if_ne (tgt := 30) hx hb dX5_stop_25 (by decide) (fun c5 => ?_) (fun c5 => ?_)
    · replace h := (if_neg c5).symm.trans h
      refine lv_iload_n hx hb dX5_stop_30 rfl (lv_at hl 2 rfl) ?_
      refine lv_if_ne (tgt := 43) hx hb dX5_stop_31 (by decide) (fun c6 => ?_) (fun c6 => ?_)
      · replace h := (if_neg c6).symm.trans h
        refine lv_iload_n hx hb dX5_stop_43 rfl (lv_at hl 2 rfl) ?_
        refine lv_iconst (v := (1 : Int32)) hx hb dX5_stop_44 (by decide) ?_
        refine lv_icmp_ne (tgt := 57) hx hb dX5_stop_45 (by decide) (fun c7 => ?_) (fun c7 => ?_)
        · replace h := (if_neg c7).symm.trans h
          refine lv_iload_n hx hb dX5_stop_57 rfl (lv_at hl 2 rfl) ?_
          refine lv_iconst (v := (2 : Int32)) hx hb dX5_stop_58 (by decide) ?_
          refine lv_icmp_ne (tgt := 71) hx hb dX5_stop_59 (by decide) (fun c8 => ?_) (fun c8 => ?_)
          · replace h := (if_neg c8).symm.trans h
            refine lv_aload_n hx hb dX5_stop_71 rfl (lv_at hl 0 rfl) ?_
            refine m_get hx hb hts hown hKv hM (fun _ h => List.mem_cons_of_mem _ (List.mem_append_right _ (h))) (by decide) at_X5 rfl 21 (by decide) k2 (v := .ref (ad 8)) rfl dX5_stop_72 ?_
            refine lv_iload_n hx hb dX5_stop_75 rfl (lv_at hl 1 rfl) ?_
            obtain ⟨x9, hx9, h⟩ := Option.bind_eq_some_iff.mp h
            refine m_iald hx hb hKv hM (by decide) at_X5_8 0 rfl hx9 dX5_stop_76 ?_
            refine lv_aload_n hx hb dX5_stop_77 rfl (lv_at hl 0 rfl) ?_
            refine m_get hx hb hts hown hKv hM (fun _ h => List.mem_cons_of_mem _ (List.mem_append_right _ (h))) (by decide) at_X5 rfl 12 (by decide) k3 (v := .ref (ad 5)) rfl dX5_stop_78 ?_
            refine lv_iload_n hx hb dX5_stop_81 rfl (lv_at hl 1 rfl) ?_
            obtain ⟨x10, hx10, h⟩ := Option.bind_eq_some_iff.mp h
            refine m_iald hx hb hKv hM (by decide) at_X5_5 0 rfl hx10 dX5_stop_82 ?_
            refine lv_iadd hx hb dX5_stop_83 ?_
            exact m_iret hx hb hr hlocks hM (congrArg (a₁ := ((x9 + x10), M1)) Prod.fst (Option.some.inj h)) (congrArg (a₁ := ((x9 + x10), M1)) (fun z => Em ad cI cZ z.2) (Option.some.inj h)) dX5_stop_84
          · replace h := (if_pos c8).symm.trans h
            refine lv_aload_n hx hb dX5_stop_62 rfl (lv_at hl 0 rfl) ?_
            refine m_get hx hb hts hown hKv hM (fun _ h => List.mem_cons_of_mem _ (List.mem_append_right _ (h))) (by decide) at_X5 rfl 21 (by decide) k2 (v := .ref (ad 8)) rfl dX5_stop_63 ?_
            refine lv_iload_n hx hb dX5_stop_66 rfl (lv_at hl 1 rfl) ?_
            obtain ⟨x11, hx11, h⟩ := Option.bind_eq_some_iff.mp h
            refine m_iald hx hb hKv hM (by decide) at_X5_8 0 rfl hx11 dX5_stop_67 ?_
            refine lv_goto (tgt := 84) hx hb dX5_stop_68 (by decide) ?_
            exact m_iret hx hb hr hlocks hM (congrArg (a₁ := (x11, M1)) Prod.fst (Option.some.inj h)) (congrArg (a₁ := (x11, M1)) (fun z => Em ad cI cZ z.2) (Option.some.inj h)) dX5_stop_84
        · replace h := (if_pos c7).symm.trans h
          refine lv_aload_n hx hb dX5_stop_48 rfl (lv_at hl 0 rfl) ?_
          refine m_get hx hb hts hown hKv hM (fun _ h => List.mem_cons_of_mem _ (List.mem_append_right _ (h))) (by decide) at_X5 rfl 12 (by decide) k3 (v := .ref (ad 5)) rfl dX5_stop_49 ?_
          refine lv_iload_n hx hb dX5_stop_52 rfl (lv_at hl 1 rfl) ?_
          obtain ⟨x12, hx12, h⟩ := Option.bind_eq_some_iff.mp h
          refine m_iald hx hb hKv hM (by decide) at_X5_5 0 rfl hx12 dX5_stop_53 ?_
          refine lv_goto (tgt := 84) hx hb dX5_stop_54 (by decide) ?_
          exact m_iret hx hb hr hlocks hM (congrArg (a₁ := (x12, M1)) Prod.fst (Option.some.inj h)) (congrArg (a₁ := (x12, M1)) (fun z => Em ad cI cZ z.2) (Option.some.inj h)) dX5_stop_84
      · replace h := (if_pos c6).symm.trans h
        refine lv_aload_n hx hb dX5_stop_34 rfl (lv_at hl 0 rfl) ?_
        refine m_get hx hb hts hown hKv hM (fun _ h => List.mem_cons_of_mem _ (List.mem_append_right _ (h))) (by decide) at_X5 rfl 11 (by decide) k4 (v := .ref (ad 4)) rfl dX5_stop_35 ?_
        refine lv_iload_n hx hb dX5_stop_38 rfl (lv_at hl 1 rfl) ?_
        obtain ⟨x13, hx13, h⟩ := Option.bind_eq_some_iff.mp h
        refine m_iald hx hb hKv hM (by decide) at_X5_4 0 rfl hx13 dX5_stop_39 ?_
        refine lv_goto (tgt := 84) hx hb dX5_stop_40 (by decide) ?_
        exact m_iret hx hb hr hlocks hM (congrArg (a₁ := (x13, M1)) Prod.fst (Option.some.inj h)) (congrArg (a₁ := (x13, M1)) (fun z => Em ad cI cZ z.2) (Option.some.inj h)) dX5_stop_84
    · replace h := (if_pos c5).symm.trans h
      refine lv_iconst (v := (-1 : Int32)) hx hb dX5_stop_28 (by decide) ?_
      exact m_iret hx hb hr hlocks hM (congrArg (a₁ := ((-1 : Int32), M1)) Prod.fst (Option.some.inj h)) (congrArg (a₁ := ((-1 : Int32), M1)) (fun z => Em ad cI cZ z.2) (Option.some.inj h)) dX5_stop_29
set_option maxHeartbeats 4000000 in
set_option maxRecDepth 100000 in
theorem kX5_far (l : Launch) (D : va_G) (cI cZ : ClassId) (ad : Nat → Nat) {X : State → Prop} (hX0 : mX ad 14 X) (a1 : Int32) (a2 : Int32) (M : Mem) (res : (Int32 × Mem)) (h : fX5_far a1 a2 M = some res) : mC l yX5_far wsX5_far { frames := 2, cells := 0, slots := 0, locals := 43 } D [(cI, .int), (cZ, .boolean)] ad 14 X [.ref (ad 0), .int a1, .int a2] (Em ad cI cZ M) (some (.int res.1)) (Em ad cI cZ res.2) := by
  refine m_ofW (cc := cX5_far) (maxL := 3) (ret := (some .int)) (by decide) rfl (Nat.le_of_ble_eq_true rfl) ?_
  intro p e s m args below meth c hx hb hml hr hlocks hts hown hKv hXs ls hl hM
  have hXk := hX0
  have Z : mZ p s m args meth c cX5_far 3 (some .int) wsX5_far RX5 D [(cI, .int), (cZ, .boolean)] X := ⟨hx, hb, hml, hr, hlocks, hts, hown, hKv, hXs⟩
  replace hown : s.vm.findClass RX5 = some m.cls := hown
  have hl : lv_has ls 3 [(0, .ref (ad 0)), (1, .int a1), (2, .int a2)] := hl
  have k0 := hts (Cond.fieldLink RX5 53 "NoonWalkerModel" "thrown" "I") (List.mem_of_getElem? (i := 1) rfl)
  unfold fX5_far at h
  refine lv_aload_n hx hb dX5_far_0 rfl (lv_at hl 0 rfl) ?_
  refine lv_iconst (v := (0 : Int32)) hx hb dX5_far_1 (by decide) ?_
  obtain ⟨M1, hM1, h⟩ := Option.bind_eq_some_iff.mp h
  refine m_put hx hb hts hown hKv hM (fun _ h => List.mem_cons_of_mem _ (List.mem_append_right _ (h))) tyX5 tyX5_ok nmX5 (by decide) at_X5 rfl 0 (by decide) k0 rfl rfl rfl (Nat.le_of_ble_eq_true rfl) (pt_X5_0 (Option.some.inj hM1)) dX5_far_2 (fun H locs hM => ?_)
  refine lv_aload_n hx hb dX5_far_5 rfl (lv_at hl 0 rfl) ?_
  refine lv_iload_n hx hb dX5_far_6 rfl (lv_at hl 1 rfl) ?_
  obtain ⟨x2, hx2, h⟩ := Option.bind_eq_some_iff.mp h
  refine m_callV (As := [.int a1]) (st1 := [.int x2]) hx hb (hml.trans hl.1.symm) hown hts hKv hXs hXk hM (kX5_isTown l D cI cZ ad hX0 a1 M1 _ hx2) (cwV 1 hts gX5_far_X5_isTown rfl rfl rfl (by decide +kernel) ⟨Nat.le_of_ble_eq_true rfl, Nat.le_of_ble_eq_true rfl⟩) (by decide) at_X5 rfl rfl rfl rfl (Nat.le_of_ble_eq_true rfl) dX5_far_7 ⟨Nat.zero_le _, Nat.zero_le _⟩ (fun H locs hM => ?_)
  refine lv_if_eq (tgt := 30) hx hb dX5_far_10 (by decide) (fun c3 => ?_) (fun c3 => ?_)
  · replace h := (if_pos c3).symm.trans h
    refine lv_iconst (v := (-1 : Int32)) hx hb dX5_far_30 (by decide) ?_
    exact m_iret hx hb hr hlocks hM (congrArg (a₁ := ((-1 : Int32), M1)) Prod.fst (Option.some.inj h)) (congrArg (a₁ := ((-1 : Int32), M1)) (fun z => Em ad cI cZ z.2) (Option.some.inj h)) dX5_far_31
  · replace h := (if_neg c3).symm.trans h
    refine lv_aload_n hx hb dX5_far_13 rfl (lv_at hl 0 rfl) ?_
    refine lv_iload_n hx hb dX5_far_14 rfl (lv_at hl 2 rfl) ?_
    obtain ⟨x4, hx4, h⟩ := Option.bind_eq_some_iff.mp h
    refine m_callV (As := [.int a2]) (st1 := [.int x4]) hx hb (hml.trans hl.1.symm) hown hts hKv hXs hXk hM (kX5_isTown l D cI cZ ad hX0 a2 M1 _ hx4) (cwV 1 hts gX5_far_X5_isTown rfl rfl rfl (by decide +kernel) ⟨Nat.le_of_ble_eq_true rfl, Nat.le_of_ble_eq_true rfl⟩) (by decide) at_X5 rfl rfl rfl rfl (Nat.le_of_ble_eq_true rfl) dX5_far_15 ⟨Nat.zero_le _, Nat.zero_le _⟩ (fun H locs hM => ?_)
    refine lv_if_eq (tgt := 30) hx hb dX5_far_18 (by decide) (fun c5 => ?_) (fun c5 => ?_)
    · replace h := (if_pos c5).symm.trans h
      refine lv_iconst (v := (-1 : Int32)) hx hb dX5_far_30 (by decide) ?_
      exact m_iret hx hb hr hlocks hM (congrArg (a₁ := ((-1 : Int32), M1)) Prod.fst (Option.some.inj h)) (congrArg (a₁ := ((-1 : Int32), M1)) (fun z => Em ad cI cZ z.2) (Option.some.inj h)) dX5_far_31
    · replace h := (if_neg c5).symm.trans h
      refine lv_aload_n hx hb dX5_far_21 rfl (lv_at hl 0 rfl) ?_
      refine lv_iload_n hx hb dX5_far_22 rfl (lv_at hl 1 rfl) ?_
      refine lv_iload_n hx hb dX5_far_23 rfl (lv_at hl 2 rfl) ?_
      obtain ⟨x6, hx6, h⟩ := Option.bind_eq_some_iff.mp h
      refine m_callV (As := [.int a1, .int a2]) (st1 := [.int x6]) hx hb (hml.trans hl.1.symm) hown hts hKv hXs hXk hM (kX5_farOf l D cI cZ ad hX0 a1 a2 M1 _ hx6) (cwV 2 hts gX5_far_X5_farOf rfl rfl rfl (by decide +kernel) ⟨Nat.le_of_ble_eq_true rfl, Nat.le_of_ble_eq_true rfl⟩) (by decide) at_X5 rfl rfl rfl rfl (Nat.le_of_ble_eq_true rfl) dX5_far_24 ⟨Nat.zero_le _, Nat.zero_le _⟩ (fun H locs hM => ?_)
      refine lv_goto (tgt := 31) hx hb dX5_far_27 (by decide) ?_
      exact m_iret hx hb hr hlocks hM (congrArg (a₁ := (x6, M1)) Prod.fst (Option.some.inj h)) (congrArg (a₁ := (x6, M1)) (fun z => Em ad cI cZ z.2) (Option.some.inj h)) dX5_far_31
set_option maxHeartbeats 4000000 in
set_option maxRecDepth 100000 in
theorem wX5_cameTo_4 {p : Program} {l : Launch} {e : Env} {s : State} {m : MethodId} {args : Array Value} {below : List Frame} {meth : Method} {c : Code} {D : va_G} {cI cZ : ClassId} {ad : Nat → Nat} {X : State → Prop} (Z : mZ p s m args meth c cX5_cameTo 4 (some .int) wsX5_cameTo RX5 D [(cI, .int), (cZ, .boolean)] X) (hX0 : mX ad 14 X)   (u1 : Int32) (M : Mem) {K : Int32 → Option Int32} (res : Int32) (hKc : ∀ (y2 : Int32), K y2 = some res → ∀ (H : Heap) (locs : List Loc) (ls : Array Slot), lv_has ls 4 [(2, .int y2)] → mH D ad 14 (Em ad cI cZ M) s.heap H locs → W p l e { frames := 0, cells := 0, slots := 0, locals := 0 } s m args below meth c H locs 0 0 (MQ below (mQ D ad 14 (some (.int res)) (Em ad cI cZ M)) args s 0 0 (mA ad 14)) (F0 m 36 ls [])) :
    ∀ (n : Nat) (v2 : Int32) (v3 : Int32), fX5_cameTo_4 u1 M K n v2 v3 = some res → ∀ (H : Heap) (locs : List Loc) (ls : Array Slot), lv_has ls 4 [(0, .ref (ad 0)), (1, .int u1), (2, .int v2), (3, .int v3)] → mH D ad 14 (Em ad cI cZ M) s.heap H locs → W p l e { frames := 0, cells := 0, slots := 0, locals := 0 } s m args below meth c H locs 0 0 (MQ below (mQ D ad 14 (some (.int res)) (Em ad cI cZ M)) args s 0 0 (mA ad 14)) (F0 m 4 ls []) := by
  obtain ⟨hx, hb, hml, hr, hlocks, hts, hown, hKv, hXs⟩ := id Z
  have hXk := hX0
  have k0 := hts (Cond.fieldLink RX5 137 "NoonWalkerModel" "halts" "I") (List.mem_of_getElem? (i := 1) rfl)
  have k1 := hts (Cond.fieldLink RX5 31 "NoonWalkerModel" "comes" "[I") (List.mem_of_getElem? (i := 2) rfl)
  intro n
  induction n with
  | zero => intro _ _ h; exact absurd h (by unfold fX5_cameTo_4; exact fun h => by cases h)
  | succ n ih =>
    intro v2 v3 h H locs ls hl hM
    rw [fX5_cameTo_4] at h
    refine lv_iload_n hx hb dX5_cameTo_4 rfl (lv_at hl 3 rfl) ?_
    refine lv_aload_n hx hb dX5_cameTo_5 rfl (lv_at hl 0 rfl) ?_
    refine m_get hx hb hts hown hKv hM (fun _ h => List.mem_cons_of_mem _ (List.mem_append_right _ (h))) (by decide) at_X5 rfl 15 (by decide) k0 (v := .int (M.1 0 15)) rfl dX5_cameTo_6 ?_
    refine lv_icmp_ge (tgt := 36) hx hb dX5_cameTo_9 (by decide) (fun c1 => ?_) (fun c1 => ?_)
    · replace h := (if_pos c1).symm.trans h
      exact hKc _ h _ _ _ (lv_sub hl [2] rfl) hM
    · replace h := (if_neg c1).symm.trans h
      refine lv_iload_n hx hb dX5_cameTo_12 rfl (lv_at hl 2 rfl) ?_
      refine lv_aload_n hx hb dX5_cameTo_13 rfl (lv_at hl 0 rfl) ?_
      refine m_get hx hb hts hown hKv hM (fun _ h => List.mem_cons_of_mem _ (List.mem_append_right _ (h))) (by decide) at_X5 rfl 21 (by decide) k1 (v := .ref (ad 8)) rfl dX5_cameTo_14 ?_
      refine lv_iload_n hx hb dX5_cameTo_17 rfl (lv_at hl 3 rfl) ?_
      obtain ⟨x2, hx2, h⟩ := Option.bind_eq_some_iff.mp h
      refine m_iald hx hb hKv hM (by decide) at_X5_8 0 rfl hx2 dX5_cameTo_18 ?_
      refine lv_iload_n hx hb dX5_cameTo_19 rfl (lv_at hl 1 rfl) ?_
      refine lv_icmp_gt (tgt := 27) hx hb dX5_cameTo_20 (by decide) (fun c3 => ?_) (fun c3 => ?_)
      · replace h := (if_pos c3).symm.trans h
        refine lv_iconst (v := (0 : Int32)) hx hb dX5_cameTo_27 (by decide) ?_
        refine lv_iadd hx hb dX5_cameTo_28 ?_
        refine lv_istore_n (lv' := [(2, .int (v2 + (0 : Int32))), (0, .ref (ad 0)), (1, .int u1), (3, .int v3)]) hx hb dX5_cameTo_29 rfl hl (by decide) rfl (fun ls hl => ?_)
        refine lv_iinc (v := (v3 + 1)) (lv' := [(3, .int (v3 + 1)), (2, .int (v2 + (0 : Int32))), (0, .ref (ad 0)), (1, .int u1)]) hx hb dX5_cameTo_30 hl (k := 3) rfl rfl (by decide) rfl (fun ls hl => ?_)
        refine lv_goto (tgt := 4) hx hb dX5_cameTo_33 (by decide) ?_
        exact ih _ _ h _ _ _ (lv_sub hl [2, 3, 1, 0] rfl) hM
      · replace h := (if_neg c3).symm.trans h
        refine lv_iconst (v := (1 : Int32)) hx hb dX5_cameTo_23 (by decide) ?_
        refine lv_goto (tgt := 28) hx hb dX5_cameTo_24 (by decide) ?_
        refine lv_iadd hx hb dX5_cameTo_28 ?_
        refine lv_istore_n (lv' := [(2, .int (v2 + (1 : Int32))), (0, .ref (ad 0)), (1, .int u1), (3, .int v3)]) hx hb dX5_cameTo_29 rfl hl (by decide) rfl (fun ls hl => ?_)
        refine lv_iinc (v := (v3 + 1)) (lv' := [(3, .int (v3 + 1)), (2, .int (v2 + (1 : Int32))), (0, .ref (ad 0)), (1, .int u1)]) hx hb dX5_cameTo_30 hl (k := 3) rfl rfl (by decide) rfl (fun ls hl => ?_)
        refine lv_goto (tgt := 4) hx hb dX5_cameTo_33 (by decide) ?_
        exact ih _ _ h _ _ _ (lv_sub hl [2, 3, 1, 0] rfl) hM
set_option maxHeartbeats 4000000 in
set_option maxRecDepth 100000 in
theorem kX5_cameTo (l : Launch) (D : va_G) (cI cZ : ClassId) (ad : Nat → Nat) {X : State → Prop} (hX0 : mX ad 14 X) (a1 : Int32) (M : Mem) (res : Int32) (h : fX5_cameTo a1 M = some res) : mC l yX5_cameTo wsX5_cameTo { frames := 0, cells := 0, slots := 0, locals := 0 } D [(cI, .int), (cZ, .boolean)] ad 14 X [.ref (ad 0), .int a1] (Em ad cI cZ M) (some (.int res)) (Em ad cI cZ M) := by
  refine m_ofW (cc := cX5_cameTo) (maxL := 4) (ret := (some .int)) (by decide) rfl (Nat.le_of_ble_eq_true rfl) ?_
  intro p e s m args below meth c hx hb hml hr hlocks hts hown hKv hXs ls hl hM
  have hXk := hX0
  have Z : mZ p s m args meth c cX5_cameTo 4 (some .int) wsX5_cameTo RX5 D [(cI, .int), (cZ, .boolean)] X := ⟨hx, hb, hml, hr, hlocks, hts, hown, hKv, hXs⟩
  replace hown : s.vm.findClass RX5 = some m.cls := hown
  have hl : lv_has ls 4 [(0, .ref (ad 0)), (1, .int a1)] := hl
  unfold fX5_cameTo at h
  refine lv_iconst (v := (0 : Int32)) hx hb dX5_cameTo_0 (by decide) ?_
  refine lv_istore_n (lv' := [(2, .int (0 : Int32)), (0, .ref (ad 0)), (1, .int a1)]) hx hb dX5_cameTo_1 rfl hl (by decide) rfl (fun ls hl => ?_)
  refine lv_iconst (v := (0 : Int32)) hx hb dX5_cameTo_2 (by decide) ?_
  refine lv_istore_n (lv' := [(3, .int (0 : Int32)), (2, .int (0 : Int32)), (0, .ref (ad 0)), (1, .int a1)]) hx hb dX5_cameTo_3 rfl hl (by decide) rfl (fun ls hl => ?_)
  refine wX5_cameTo_4 Z hX0 a1 M _ (fun y1 h H locs ls hl hM => ?_) _ _ _ h _ _ _ (lv_sub hl [2, 3, 1, 0] rfl) hM
  refine lv_iload_n hx hb dX5_cameTo_36 rfl (lv_at hl 0 rfl) ?_
  exact m_iret hx hb hr hlocks hM (Option.some.inj h) rfl dX5_cameTo_37
