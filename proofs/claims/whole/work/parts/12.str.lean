/-! the JDK's length() and charAt() on the three String constants -/
section MSTR
variable {p : Program} {l : Launch} {e : Env} {R : Room} {s : State} {m : MethodId} {args : Array Value} {below : List Frame} {meth : Method} {c : Code} {H : Heap} {locs : List Loc} {cells slots : Nat} {Q : State → Prop}
variable {cc : ByteArray} {pc : Nat} {ls : Array Slot} {rest : List Value} {D : va_G} {tys : List (ClassId × FieldType)} {ad : Nat → Nat} {n : Nat} {E E' : Nat → va_E} {index : Nat} {own C : String} {Ts : List Cond} {X : State → Prop}
variable {y : MethodName} {bytes : ByteArray} {maxL nA : Nat} {ret : Option FieldType} {wsy : List Cond} {rm : Room} {As st st1 : List Value} {v : Option Value} {b : Addr}
/-- a call on an object that is not of the memory -/
theorem m_callVr (hx : p.tables.exec = Jvm.exec) (hb : c.code = cc) (hml : c.maxLocals = ls.size) (hown : s.vm.findClass own = some m.cls) (hts : ∀ w ∈ Ts, w.before args s = true) (hK : va_K D vwCl tys s) (hXs : X s) (hXk : mX ad n X) (hM : mH D ad n E s.heap H locs)
    (hC : mC l y wsy rm D tys ad n X (.ref b :: As) E v E') (cw : CallW R s args own C index y bytes maxL ret wsy rm 0 0 nA) (hrecv : ∃ cell : Cell, H[b]? = some cell ∧ cell.vm.isStatics = false ∧ s.vm.findClass C = some cell.cls) (hn : As.length = nA) (hst : st = As.reverse ++ .ref b :: rest) (hst1 : v.toList ++ rest = st1) (hW : (rest.map fun v => v.category).sum ≤ 8) (hdg : decode cc pc = .ok (.invokevirtual index, 3)) (hf : cells ≤ R.cells ∧ slots ≤ R.slots)
    (kk : ∀ (H1 : Heap) (locs1 : List Loc), mH D ad n E' s.heap H1 locs1 → W p l e R s m args below meth c H1 locs1 cells slots Q (F0 m (pc + 3) ls st1)) : W p l e R s m args below meth c H locs cells slots Q (F0 m pc ls st) := by
  have pre := m_pre (av := .ref b :: As) hK hXs hXk hM
  exact m_behind hM hst1 (va_runV (nL := ls.size) ⟨hx, hb, hml, hown, hts⟩ hC cw ⟨pre.1, hrecv, pre.2⟩ rfl hn rfl hst (lv_room hW) hdg hf) kk
theorem m_tret (hx : p.tables.exec = Jvm.exec) (hb : c.code = cc) {ty : FieldType} (hr : meth.sig.returnType = some ty) (hlocks : meth.locks = false) (hM : mH D ad n E s.heap H locs) {r v : Int32} (hv : v = r) (hn : narrow ty (.int v) = .int v) (hE : E = E') (hdg : decode cc pc = .ok (.ireturn, 1)) : W p l e R s m args below meth c H locs 0 0 (MQ below (mQ D ad n (some (.int r)) E') args s 0 0 (mA ad n)) (F0 m pc ls [.int v]) := by
  subst hE; subst hv
  exact W.zret hx hb hr hn (fun t ht hW => ⟨rfl, ⟨by rw [ht]; exact hM.1, hM.2.1⟩, hM.2.2.F ht⟩) hM.2.2.2.2 hdg hlocks
end MSTR
set_option maxHeartbeats 4000000 in
set_option maxRecDepth 100000 in
theorem kJ0_coder (l : Launch) (D : va_G) (tys : List (ClassId × FieldType)) (ad : Nat → Nat) {aS : Nat → Nat} {X : State → Prop} (hX0 : cX D ad aS X) (E : Nat → va_E) (i : Nat) (pi : i < 3) : mC l yJ0_coder_7d493 wsJ0_coder_7d493 { frames := 0, cells := 0, slots := 0, locals := 0 } D tys ad 40 X [.ref (aS i)] E (some (.int 0)) E := by
  refine m_ofW (cc := cJ0_coder_7d493) (maxL := 1) (ret := (some .byte)) (by decide +kernel) rfl (Nat.le_of_ble_eq_true rfl) ?_
  intro p e s m args below meth c hx hb hml hr hlocks hts hown hKv hXs ls hl hM
  have hXk := hX0.1
  replace hown : s.vm.findClass RJ0 = some m.cls := hown
  obtain ⟨hE, -, hCS, hFM⟩ := hX0.2.2 s hXs
  have hl : lv_has ls 1 [(0, .ref (aS i))] := hl
  refine va_gets hx hb hCS hM.2.2 hown (hts (Cond.fieldLink RJ0 38 "java/lang/String" "COMPACT_STRINGS" "Z") (List.mem_of_getElem? (i := 1) rfl)) (fun _ h => h) dJ0_coder_7d493_0 ?_
  refine lv_if_eq (tgt := 13) hx hb dJ0_coder_7d493_3 (by decide) (fun c => absurd c (by decide)) (fun _ => ?_)
  refine lv_aload_n hx hb dJ0_coder_7d493_6 rfl (lv_at hl 0 rfl) ?_
  refine vk_getf hx hb (hE.1 i pi).2.1 hM.2.2 hown (hts (Cond.fieldLink RJ0 15 "java/lang/String" "coder" "B") (List.mem_of_getElem? (i := 2) rfl)) (fun _ h => h) dJ0_coder_7d493_7 ?_
  refine lv_goto (tgt := 14) hx hb dJ0_coder_7d493_10 (by decide) ?_
  exact m_tret hx hb hr hlocks hM rfl rfl rfl dJ0_coder_7d493_14
set_option maxHeartbeats 4000000 in
set_option maxRecDepth 100000 in
theorem kJ0_isLatin1 (l : Launch) (D : va_G) (tys : List (ClassId × FieldType)) (ad : Nat → Nat) {aS : Nat → Nat} {X : State → Prop} (hX0 : cX D ad aS X) (E : Nat → va_E) (i : Nat) (pi : i < 3) : mC l yJ0_isLatin1_aae02 wsJ0_isLatin1_aae02 { frames := 0, cells := 0, slots := 0, locals := 0 } D tys ad 40 X [.ref (aS i)] E (some (.int 1)) E := by
  refine m_ofW (cc := cJ0_isLatin1_aae02) (maxL := 1) (ret := (some .boolean)) (by decide +kernel) rfl (Nat.le_of_ble_eq_true rfl) ?_
  intro p e s m args below meth c hx hb hml hr hlocks hts hown hKv hXs ls hl hM
  have hXk := hX0.1
  replace hown : s.vm.findClass RJ0 = some m.cls := hown
  obtain ⟨hE, -, hCS, hFM⟩ := hX0.2.2 s hXs
  have hl : lv_has ls 1 [(0, .ref (aS i))] := hl
  refine va_gets hx hb hCS hM.2.2 hown (hts (Cond.fieldLink RJ0 38 "java/lang/String" "COMPACT_STRINGS" "Z") (List.mem_of_getElem? (i := 1) rfl)) (fun _ h => h) dJ0_isLatin1_aae02_0 ?_
  refine lv_if_eq (tgt := 17) hx hb dJ0_isLatin1_aae02_3 (by decide) (fun c => absurd c (by decide)) (fun _ => ?_)
  refine lv_aload_n hx hb dJ0_isLatin1_aae02_6 rfl (lv_at hl 0 rfl) ?_
  refine vk_getf hx hb (hE.1 i pi).2.1 hM.2.2 hown (hts (Cond.fieldLink RJ0 15 "java/lang/String" "coder" "B") (List.mem_of_getElem? (i := 2) rfl)) (fun _ h => h) dJ0_isLatin1_aae02_7 ?_
  refine lv_if_ne (tgt := 17) hx hb dJ0_isLatin1_aae02_10 (by decide) (fun c => absurd rfl c) (fun _ => ?_)
  refine lv_iconst (v := 1) hx hb dJ0_isLatin1_aae02_13 (by decide) ?_
  refine lv_goto (tgt := 18) hx hb dJ0_isLatin1_aae02_14 (by decide) ?_
  exact m_tret hx hb hr hlocks hM rfl rfl rfl dJ0_isLatin1_aae02_18
set_option maxHeartbeats 4000000 in
set_option maxRecDepth 100000 in
theorem kJ0_length (l : Launch) (D : va_G) (tys : List (ClassId × FieldType)) (ad : Nat → Nat) {aS : Nat → Nat} {X : State → Prop} (hX0 : cX D ad aS X) (E : Nat → va_E) (i : Nat) (pi : i < 3) : mC l yJ0_length_8abf5 wsJ0_length_8abf5 { frames := 1, cells := 0, slots := 0, locals := 20 } D tys ad 40 X [.ref (aS i)] E (some (.int 4)) E := by
  refine m_ofW (cc := cJ0_length_8abf5) (maxL := 1) (ret := (some .int)) (by decide +kernel) rfl (Nat.le_of_ble_eq_true rfl) ?_
  intro p e s m args below meth c hx hb hml hr hlocks hts hown hKv hXs ls hl hM
  have hXk := hX0.1
  replace hown : s.vm.findClass RJ0 = some m.cls := hown
  obtain ⟨hE, -, hCS, hFM⟩ := hX0.2.2 s hXs
  have hl : lv_has ls 1 [(0, .ref (aS i))] := hl
  have h4 : ([4, 4, 4] : List Nat).getD i 0 = 4 := by
    rcases (show i = 0 ∨ i = 1 ∨ i = 2 by omega) with rfl | rfl | rfl <;> rfl
  refine lv_aload_n hx hb dJ0_length_8abf5_0 rfl (lv_at hl 0 rfl) ?_
  refine vk_getf hx hb (hE.1 i pi).2.2.1 hM.2.2 hown (hts (Cond.fieldLink RJ0 9 "java/lang/String" "value" "[B") (List.mem_of_getElem? (i := 1) rfl)) (fun _ h => h) dJ0_length_8abf5_1 ?_
  refine va_tlen hx hb (hE.1 i pi).2.2.2 hM.2.2 (v := 4) (by rw [h4]; rfl) dJ0_length_8abf5_4 ?_
  refine lv_aload_n hx hb dJ0_length_8abf5_5 rfl (lv_at hl 0 rfl) ?_
  refine m_callVr (As := []) (st1 := [.int 0, .int 4]) hx hb (hml.trans hl.1.symm) hown hts hKv hXs hXk hM (kJ0_coder l D tys ad hX0 E i pi) (cwV 0 hts gJ0_length_8abf5_J0_coder_7d493 rfl rfl rfl (by decide +kernel) ⟨Nat.le_of_ble_eq_true rfl, Nat.le_of_ble_eq_true rfl⟩) (vk_recv hE pi hM.2.2) rfl rfl rfl (Nat.le_of_ble_eq_true rfl) dJ0_length_8abf5_6 ⟨Nat.zero_le _, Nat.zero_le _⟩ (fun H locs hM => ?_)
  refine lv_ishr hx hb dJ0_length_8abf5_9 ?_
  exact m_iret hx hb hr hlocks hM (by decide) rfl dJ0_length_8abf5_10
set_option maxHeartbeats 4000000 in
set_option maxRecDepth 100000 in
theorem kJ3_checkIndex_n (l : Launch) (D : va_G) (tys : List (ClassId × FieldType)) (ad : Nat → Nat) {aS : Nat → Nat} {X : State → Prop} (hX0 : cX D ad aS X) (E : Nat → va_E) (k z : Int32) (h0 : ¬ k < 0) (h1 : k < z) : mC l yJ3_checkIndex_8e157 wsJ3_checkIndex_8e157 { frames := 0, cells := 0, slots := 0, locals := 0 } D tys ad 40 X [.int k, .int z, .null] E (some (.int k)) E := by
  refine m_ofW (cc := cJ3_checkIndex_8e157) (maxL := 3) (ret := (some .int)) (by decide +kernel) rfl (Nat.le_of_ble_eq_true rfl) ?_
  intro p e s m args below meth c hx hb hml hr hlocks hts hown hKv hXs ls hl hM
  have hXk := hX0.1
  replace hown : s.vm.findClass RJ3 = some m.cls := hown
  obtain ⟨hE, -, hCS, hFM⟩ := hX0.2.2 s hXs
  have hl : lv_has ls 3 [(0, .int k), (1, .int z), (2, .null)] := hl
  refine lv_iload_n hx hb dJ3_checkIndex_8e157_0 rfl (lv_at hl 0 rfl) ?_
  refine lv_if_lt (tgt := 9) hx hb dJ3_checkIndex_8e157_1 (by decide) (fun c => absurd c h0) (fun _ => ?_)
  refine lv_iload_n hx hb dJ3_checkIndex_8e157_4 rfl (lv_at hl 0 rfl) ?_
  refine lv_iload_n hx hb dJ3_checkIndex_8e157_5 rfl (lv_at hl 1 rfl) ?_
  refine lv_icmp_lt (tgt := 16) hx hb dJ3_checkIndex_8e157_6 (by decide) (fun _ => ?_) (fun c => absurd h1 c)
  refine lv_iload_n hx hb dJ3_checkIndex_8e157_16 rfl (lv_at hl 0 rfl) ?_
  exact m_iret hx hb hr hlocks hM rfl rfl dJ3_checkIndex_8e157_17
set_option maxHeartbeats 4000000 in
set_option maxRecDepth 100000 in
theorem kJ3_checkIndex_r (l : Launch) (D : va_G) (tys : List (ClassId × FieldType)) (ad : Nat → Nat) {aS : Nat → Nat} {X : State → Prop} (hX0 : cX D ad aS X) (E : Nat → va_E) (t : Nat) (k z : Int32) (h0 : ¬ k < 0) (h1 : k < z) : mC l yJ3_checkIndex_8e157 wsJ3_checkIndex_8e157 { frames := 0, cells := 0, slots := 0, locals := 0 } D tys ad 40 X [.int k, .int z, .ref t] E (some (.int k)) E := by
  refine m_ofW (cc := cJ3_checkIndex_8e157) (maxL := 3) (ret := (some .int)) (by decide +kernel) rfl (Nat.le_of_ble_eq_true rfl) ?_
  intro p e s m args below meth c hx hb hml hr hlocks hts hown hKv hXs ls hl hM
  have hXk := hX0.1
  replace hown : s.vm.findClass RJ3 = some m.cls := hown
  obtain ⟨hE, -, hCS, hFM⟩ := hX0.2.2 s hXs
  have hl : lv_has ls 3 [(0, .int k), (1, .int z), (2, .ref t)] := hl
  refine lv_iload_n hx hb dJ3_checkIndex_8e157_0 rfl (lv_at hl 0 rfl) ?_
  refine lv_if_lt (tgt := 9) hx hb dJ3_checkIndex_8e157_1 (by decide) (fun c => absurd c h0) (fun _ => ?_)
  refine lv_iload_n hx hb dJ3_checkIndex_8e157_4 rfl (lv_at hl 0 rfl) ?_
  refine lv_iload_n hx hb dJ3_checkIndex_8e157_5 rfl (lv_at hl 1 rfl) ?_
  refine lv_icmp_lt (tgt := 16) hx hb dJ3_checkIndex_8e157_6 (by decide) (fun _ => ?_) (fun c => absurd h1 c)
  refine lv_iload_n hx hb dJ3_checkIndex_8e157_16 rfl (lv_at hl 0 rfl) ?_
  exact m_iret hx hb hr hlocks hM rfl rfl dJ3_checkIndex_8e157_17
set_option maxHeartbeats 4000000 in
set_option maxRecDepth 100000 in
theorem kJ0_checkIndex (l : Launch) (D : va_G) (tys : List (ClassId × FieldType)) (ad : Nat → Nat) {aS : Nat → Nat} {X : State → Prop} (hX0 : cX D ad aS X) (E : Nat → va_E) (k z : Int32) (h0 : ¬ k < 0) (h1 : k < z) : mC l yJ0_checkIndex_df160 wsJ0_checkIndex_df160 { frames := 1, cells := 0, slots := 0, locals := 22 } D tys ad 40 X [.int k, .int z] E none E := by
  refine m_ofW (cc := cJ0_checkIndex_df160) (maxL := 2) (ret := none) (by decide +kernel) rfl (Nat.le_of_ble_eq_true rfl) ?_
  intro p e s m args below meth c hx hb hml hr hlocks hts hown hKv hXs ls hl hM
  have hXk := hX0.1
  replace hown : s.vm.findClass RJ0 = some m.cls := hown
  obtain ⟨hE, -, hCS, hFM⟩ := hX0.2.2 s hXs
  have hl : lv_has ls 2 [(0, .int k), (1, .int z)] := hl
  have kF := hts (Cond.fieldLink RJ0 1053 "jdk/internal/util/Preconditions" "SIOOBE_FORMATTER" "Ljava/util/function/BiFunction;") (List.mem_of_getElem? (i := 1) rfl)
  refine lv_iload_n hx hb dJ0_checkIndex_df160_0 rfl (lv_at hl 0 rfl) ?_
  refine lv_iload_n hx hb dJ0_checkIndex_df160_1 rfl (lv_at hl 1 rfl) ?_
  rcases hFM with hFM | ⟨t, hFM⟩
  · refine va_gets hx hb hFM hM.2.2 hown kF (fun _ h => h) dJ0_checkIndex_df160_2 ?_
    refine m_callS (As := [.int k, .int z, .null]) (st1 := [.int k]) hx hb (hml.trans hl.1.symm) hown hts hKv hXs hXk hM (kJ3_checkIndex_n l D tys ad hX0 E k z h0 h1) (va_cwS 3 hts gJ0_checkIndex_df160_J3_checkIndex_8e157 rfl rfl rfl (by decide +kernel) ⟨Nat.le_of_ble_eq_true rfl, Nat.le_of_ble_eq_true rfl⟩) rfl rfl rfl (Nat.le_of_ble_eq_true rfl) dJ0_checkIndex_df160_5 ⟨Nat.zero_le _, Nat.zero_le _⟩ (fun H locs hM => ?_)
    refine lv_pop hx hb dJ0_checkIndex_df160_8 rfl ?_
    exact m_vret hx hb hr hlocks hM rfl dJ0_checkIndex_df160_9
  · refine va_gets hx hb hFM hM.2.2 hown kF (fun _ h => h) dJ0_checkIndex_df160_2 ?_
    refine m_callS (As := [.int k, .int z, .ref t]) (st1 := [.int k]) hx hb (hml.trans hl.1.symm) hown hts hKv hXs hXk hM (kJ3_checkIndex_r l D tys ad hX0 E t k z h0 h1) (va_cwS 3 hts gJ0_checkIndex_df160_J3_checkIndex_8e157 rfl rfl rfl (by decide +kernel) ⟨Nat.le_of_ble_eq_true rfl, Nat.le_of_ble_eq_true rfl⟩) rfl rfl rfl (Nat.le_of_ble_eq_true rfl) dJ0_checkIndex_df160_5 ⟨Nat.zero_le _, Nat.zero_le _⟩ (fun H locs hM => ?_)
    refine lv_pop hx hb dJ0_checkIndex_df160_8 rfl ?_
    exact m_vret hx hb hr hlocks hM rfl dJ0_checkIndex_df160_9
set_option maxHeartbeats 4000000 in
set_option maxRecDepth 100000 in
theorem kJ1_charAt (l : Launch) (D : va_G) (tys : List (ClassId × FieldType)) (ad : Nat → Nat) {aS : Nat → Nat} {X : State → Prop} (hX0 : cX D ad aS X) (E : Nat → va_E) (i : Nat) (pi : i < 3) (k z : Int32) (hz : ld (sCh i) (sN i) k = some z) : mC l yJ1_charAt_3b067 wsJ1_charAt_3b067 { frames := 2, cells := 0, slots := 0, locals := 43 } D tys ad 40 X [.ref (aS (i + 3)), .int k] E (some (.int z)) E := by
  refine m_ofW (cc := cJ1_charAt_3b067) (maxL := 2) (ret := (some .char)) (by decide +kernel) rfl (Nat.le_of_ble_eq_true rfl) ?_
  intro p e s m args below meth c hx hb hml hr hlocks hts hown hKv hXs ls hl hM
  have hXk := hX0.1
  replace hown : s.vm.findClass RJ1 = some m.cls := hown
  obtain ⟨hE, -, hCS, hFM⟩ := hX0.2.2 s hXs
  have hl : lv_has ls 2 [(0, .ref (aS (i + 3))), (1, .int k)] := hl
  have h4 : ([4, 4, 4] : List Nat).getD i 0 = 4 := by
    rcases (show i = 0 ∨ i = 1 ∨ i = 2 by omega) with rfl | rfl | rfl <;> rfl
  obtain ⟨h1, h2⟩ := ld_some hz
  obtain ⟨j, hj, rfl⟩ := vp_in_of h1 (by show 4 < 2 ^ 31; omega)
  have hj4 : j < 4 := hj
  rw [nI_clamp (by omega)] at h2
  have hch : narrow .char (.int z) = .int z ∧ ((z &&& 255).toUInt32 % 65536).toInt32 = z := by
    subst h2
    rcases (show i = 0 ∨ i = 1 ∨ i = 2 by omega) with rfl | rfl | rfl <;> rcases (show j = 0 ∨ j = 1 ∨ j = 2 ∨ j = 3 by omega) with rfl | rfl | rfl | rfl <;> exact ⟨by rfl, by decide⟩
  refine lv_iload_n hx hb dJ1_charAt_3b067_0 rfl (lv_at hl 1 rfl) ?_
  refine lv_aload_n hx hb dJ1_charAt_3b067_1 rfl (lv_at hl 0 rfl) ?_
  refine va_tlen hx hb (hE.1 i pi).2.2.2 hM.2.2 (v := 4) (by rw [h4]; rfl) dJ1_charAt_3b067_2 ?_
  refine m_callS (As := [.int (nI j), .int 4]) (st1 := []) hx hb (hml.trans hl.1.symm) hown hts hKv hXs hXk hM (kJ0_checkIndex l D tys ad hX0 E (nI j) 4 (nI_pos (by omega)) (show nI j < 4 from nI_lt (b := 4) hj4 (by omega))) (va_cwS 2 hts gJ1_charAt_3b067_J0_checkIndex_df160 rfl rfl rfl (by decide +kernel) ⟨Nat.le_of_ble_eq_true rfl, Nat.le_of_ble_eq_true rfl⟩) rfl rfl rfl (Nat.le_of_ble_eq_true rfl) dJ1_charAt_3b067_3 ⟨Nat.zero_le _, Nat.zero_le _⟩ (fun H locs hM => ?_)
  refine lv_aload_n hx hb dJ1_charAt_3b067_6 rfl (lv_at hl 0 rfl) ?_
  refine lv_iload_n hx hb dJ1_charAt_3b067_7 rfl (lv_at hl 1 rfl) ?_
  refine va_tb hx hb (hE.1 i pi).2.2.2 hM.2.2 (i := nI j) (v := .int z) (by rw [h4]; exact vp_in_nI hj4 (by omega)) (by rw [nI_clamp (by omega)]; exact congrArg Value.int h2) dJ1_charAt_3b067_8 ?_
  refine lv_sipush (v := 255) hx hb dJ1_charAt_3b067_9 (by decide) ?_
  refine lv_iand hx hb dJ1_charAt_3b067_12 ?_
  refine lv_i2c (v := z) hx hb dJ1_charAt_3b067_13 hch.2 ?_
  exact m_tret hx hb hr hlocks hM rfl hch.1 rfl dJ1_charAt_3b067_14
set_option maxHeartbeats 4000000 in
set_option maxRecDepth 100000 in
theorem kJ0_charAt (l : Launch) (D : va_G) (tys : List (ClassId × FieldType)) (ad : Nat → Nat) {aS : Nat → Nat} {X : State → Prop} (hX0 : cX D ad aS X) (E : Nat → va_E) (i : Nat) (pi : i < 3) (k z : Int32) (hz : ld (sCh i) (sN i) k = some z) : mC l yJ0_charAt_5068e wsJ0_charAt_5068e { frames := 3, cells := 0, slots := 0, locals := 64 } D tys ad 40 X [.ref (aS i), .int k] E (some (.int z)) E := by
  refine m_ofW (cc := cJ0_charAt_5068e) (maxL := 2) (ret := (some .char)) (by decide +kernel) rfl (Nat.le_of_ble_eq_true rfl) ?_
  intro p e s m args below meth c hx hb hml hr hlocks hts hown hKv hXs ls hl hM
  have hXk := hX0.1
  replace hown : s.vm.findClass RJ0 = some m.cls := hown
  obtain ⟨hE, -, hCS, hFM⟩ := hX0.2.2 s hXs
  have hl : lv_has ls 2 [(0, .ref (aS i)), (1, .int k)] := hl
  have hch : narrow .char (.int z) = .int z := by
    obtain ⟨h1, h2⟩ := ld_some hz
    obtain ⟨j, hj, rfl⟩ := vp_in_of h1 (by show 4 < 2 ^ 31; omega)
    have hj4 : j < 4 := hj
    rw [nI_clamp (by omega)] at h2
    subst h2
    rcases (show i = 0 ∨ i = 1 ∨ i = 2 by omega) with rfl | rfl | rfl <;> rcases (show j = 0 ∨ j = 1 ∨ j = 2 ∨ j = 3 by omega) with rfl | rfl | rfl | rfl <;> rfl
  refine lv_aload_n hx hb dJ0_charAt_5068e_0 rfl (lv_at hl 0 rfl) ?_
  refine m_callVr (As := []) (st1 := [.int 1]) hx hb (hml.trans hl.1.symm) hown hts hKv hXs hXk hM (kJ0_isLatin1 l D tys ad hX0 E i pi) (cwV 0 hts gJ0_charAt_5068e_J0_isLatin1_aae02 rfl rfl rfl (by decide +kernel) ⟨Nat.le_of_ble_eq_true rfl, Nat.le_of_ble_eq_true rfl⟩) (vk_recv hE pi hM.2.2) rfl rfl rfl (Nat.le_of_ble_eq_true rfl) dJ0_charAt_5068e_1 ⟨Nat.zero_le _, Nat.zero_le _⟩ (fun H locs hM => ?_)
  refine lv_if_eq (tgt := 16) hx hb dJ0_charAt_5068e_4 (by decide) (fun c => absurd c (by decide)) (fun _ => ?_)
  refine lv_aload_n hx hb dJ0_charAt_5068e_7 rfl (lv_at hl 0 rfl) ?_
  refine vk_getf hx hb (hE.1 i pi).2.2.1 hM.2.2 hown (hts (Cond.fieldLink RJ0 9 "java/lang/String" "value" "[B") (List.mem_of_getElem? (i := 1) rfl)) (fun _ h => h) dJ0_charAt_5068e_8 ?_
  refine lv_iload_n hx hb dJ0_charAt_5068e_11 rfl (lv_at hl 1 rfl) ?_
  refine m_callS (As := [.ref (aS (i + 3)), .int k]) (st1 := [.int z]) hx hb (hml.trans hl.1.symm) hown hts hKv hXs hXk hM (kJ1_charAt l D tys ad hX0 E i pi k z hz) (va_cwS 2 hts gJ0_charAt_5068e_J1_charAt_3b067 rfl rfl rfl (by decide +kernel) ⟨Nat.le_of_ble_eq_true rfl, Nat.le_of_ble_eq_true rfl⟩) rfl rfl rfl (Nat.le_of_ble_eq_true rfl) dJ0_charAt_5068e_12 ⟨Nat.zero_le _, Nat.zero_le _⟩ (fun H locs hM => ?_)
  exact m_tret hx hb hr hlocks hM rfl hch rfl dJ0_charAt_5068e_15
section MSTR2
variable {p : Program} {l : Launch} {e : Env} {R : Room} {s : State} {m : MethodId} {args : Array Value} {below : List Frame} {meth : Method} {c : Code} {H : Heap} {locs : List Loc} {cells slots : Nat} {Q : State → Prop}
variable {cc : ByteArray} {pc : Nat} {ls : Array Slot} {rest : List Value} {D : va_G} {tys : List (ClassId × FieldType)} {ad aS : Nat → Nat} {E : Nat → va_E} {index : Nat} {own : String} {Ts : List Cond} {X : State → Prop}
variable {bytes : ByteArray} {maxL : Nat} {ret : Option FieldType} {st st1 : List Value}
theorem m_str_length (l : Launch) (hx : p.tables.exec = Jvm.exec) (hb : c.code = cc) (hml : c.maxLocals = ls.size) (hown : s.vm.findClass own = some m.cls) (hts : ∀ w ∈ Ts, w.before args s = true) (hK : va_K D vwCl tys s) (hXs : X s) (hX0 : cX D ad aS X) (hM : mH D ad 40 E s.heap H locs) {i : Nat} (pi : i < 3) {z : Int32} (hz : sLen i = z)
    (cw : CallW R s args own RJ0 index yJ0_length_8abf5 bytes maxL ret wsJ0_length_8abf5 { frames := 1, cells := 0, slots := 0, locals := 20 } 0 0 0) (hst : st = .ref (aS i) :: rest) (hst1 : .int z :: rest = st1) (hW : (rest.map fun v => v.category).sum ≤ 8) (hdg : decode cc pc = .ok (.invokevirtual index, 3)) (hf : cells ≤ R.cells ∧ slots ≤ R.slots)
    (kk : ∀ (H1 : Heap) (locs1 : List Loc), mH D ad 40 E s.heap H1 locs1 → W p l e R s m args below meth c H1 locs1 cells slots Q (F0 m (pc + 3) ls st1)) : W p l e R s m args below meth c H locs cells slots Q (F0 m pc ls st) := by
  subst hz
  exact m_callVr (As := []) hx hb hml hown hts hK hXs hX0.1 hM (kJ0_length l D tys ad hX0 E i pi) cw (vk_recv (hX0.2.2 s hXs).1 pi hM.2.2) rfl hst hst1 hW hdg hf kk
theorem m_str_charAt (l : Launch) (hx : p.tables.exec = Jvm.exec) (hb : c.code = cc) (hml : c.maxLocals = ls.size) (hown : s.vm.findClass own = some m.cls) (hts : ∀ w ∈ Ts, w.before args s = true) (hK : va_K D vwCl tys s) (hXs : X s) (hX0 : cX D ad aS X) (hM : mH D ad 40 E s.heap H locs) {i : Nat} (pi : i < 3) {k z : Int32} (hz : ld (sCh i) (sN i) k = some z)
    (cw : CallW R s args own RJ0 index yJ0_charAt_5068e bytes maxL ret wsJ0_charAt_5068e { frames := 3, cells := 0, slots := 0, locals := 64 } 0 0 1) (hst : st = .int k :: .ref (aS i) :: rest) (hst1 : .int z :: rest = st1) (hW : (rest.map fun v => v.category).sum ≤ 8) (hdg : decode cc pc = .ok (.invokevirtual index, 3)) (hf : cells ≤ R.cells ∧ slots ≤ R.slots)
    (kk : ∀ (H1 : Heap) (locs1 : List Loc), mH D ad 40 E s.heap H1 locs1 → W p l e R s m args below meth c H1 locs1 cells slots Q (F0 m (pc + 3) ls st1)) : W p l e R s m args below meth c H locs cells slots Q (F0 m pc ls st) := by
  exact m_callVr (As := [.int k]) hx hb hml hown hts hK hXs hX0.1 hM (kJ0_charAt l D tys ad hX0 E i pi k z hz) cw (vk_recv (hX0.2.2 s hXs).1 pi hM.2.2) rfl hst hst1 hW hdg hf kk
end MSTR2
