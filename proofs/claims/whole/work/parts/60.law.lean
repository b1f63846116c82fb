/-! THE CLAIM OUT OF ONE WALK OF THE LAW'S BODY. Your part is whole_start (and what it stands on); all else here is the same for every law, but numbers. -/
def R_law : String := "NoonWalkerLaw"
def lw_P (b : Addr) (xs : List Int32) (args : Array Value) (s : State) : Prop := args = #[.ref b] ∧ s.IntsAt b xs ∧ xs.length ≤ 448 ∧ (Jvm.Cond.and given_1 narrow_1).before args s = true
def lw_Q (_ : Array Value) (s : State) (o : Outcome) (t : State) : Prop := o = .returned (some (.int 1)) ∧ Framed s o t [] 600000 7302250
def lw_Z (below : List Frame) (a : Array Value) (s : State) : State → Prop := fun t => ∃ o, t.status = .running ∧ Ended t below o ∧ lw_Q a s o t
/-- the law's own end, with 1 on the stack, nothing written that was there before, its room as the claim has it -/
theorem lw_ret {p : Program} {l : Launch} {e : Env} {s : State} {m : MethodId} {below : List Frame} {meth : Method} {c : Code} {b : Nat} (hx : p.tables.exec = Jvm.exec) (hb : c.code = code) (hr : meth.sig.returnType = ret) (hlocks : meth.locks = false) {pc : Nat} {H : Heap} {ls : Array Slot} (hdg : decode code pc = .ok (.ireturn, 1)) : W p l e room_1 s m #[Value.ref b] below meth c H [] 600000 7302250 (lw_Z below #[Value.ref b] s) (F0 m pc ls [.int 1]) := by
  intro T hT X
  obtain ⟨fs, hret, hrun, hended, hW, hframe⟩ := X.leave (v := some (.int 1)) (hlocks := hlocks) (fun h => by rw [hr] at h; cases h)
  have hmeth' : T.vm.method? m = some meth := X.method'
  refine ⟨T.setFrames fs, ?_, .returned (some (.int 1)), hrun, hended, rfl, ⟨_, rfl⟩, hW, hframe⟩
  jvm_step X.here [X.here.top, hx, hb, hdg, hmeth', hr, ret, narrow_b1]
  (try refine ⟨rfl, ?_⟩); (try refine ⟨rfl, ?_⟩)
  first | (intro acts; rw [hret _ acts rfl rfl rfl]) | rw [hret _ _ rfl rfl rfl]
  exact Steps.refl _
/-- what holds at the law's entry: the machine, the code, the tables' words (any of lw_tbl by 'hts w (by decide +kernel)'), the script of L ints xs at the cell b, what the Statement gives of the start (any of its parts by flat_of_before) -/
def lw_At (p : Program) (s : State) (m : MethodId) (meth : Method) (c : Code) (b L : Nat) (xs : Nat → Int32) : Prop :=
  p.tables.exec = Jvm.exec ∧ c.code = code ∧ meth.sig.returnType = ret ∧ c.maxLocals = 4 ∧ s.vm.findClass R_law = some m.cls ∧ (∀ w ∈ lw_tbl, w.before #[Value.ref b] s = true) ∧ va_X b L xs s s.heap ∧ b < s.heap.size ∧ meth.locks = false ∧ (Jvm.Cond.and given_1 narrow_1).before #[Value.ref b] s = true
-- ===== YOUR PART BEGINS =====
theorem law_in {x3 : Int32} {k L : Nat} (j : Nat) (e : x3 = nI k) (h : k + j < L) (hL : L ≤ 448) : vp_in (x3 + OfNat.ofNat j) L := by
  have e2 : (OfNat.ofNat j : Int32) = nI j := rfl
  rw [e, e2, nI_add]
  exact vp_in_nI h (by omega)
theorem va_P_app1 {D : va_G} {cl : List vw_C} {w1 w2 : va_W} {H : Heap} (h : va_P D cl (w1 ++ w2) H) : va_P D cl w1 H := fun k q hq => h k q (by rw [List.getElem?_append_left (List.getElem?_eq_some_iff.mp hq).1]; exact hq)
theorem va_P_app2 {D : va_G} {cl : List vw_C} {w1 w2 : va_W} {H : Heap} (h : va_P D cl (w1 ++ w2) H) : va_P D cl w2 H := fun k q hq => h (w1.length + k) q (by rw [List.getElem?_append_right (by omega), Nat.add_sub_cancel_left]; exact hq)
theorem va_D_app1 {A : Nat → Prop} {w1 w2 : va_W} (h : va_D A (w1 ++ w2)) : va_D A w1 := ⟨fun i j p q hp hq e => h.1 i j p q (by rw [List.getElem?_append_left (List.getElem?_eq_some_iff.mp hp).1]; exact hp) (by rw [List.getElem?_append_left (List.getElem?_eq_some_iff.mp hq).1]; exact hq) e, fun k q hq => h.2 k q (by rw [List.getElem?_append_left (List.getElem?_eq_some_iff.mp hq).1]; exact hq)⟩
theorem va_D_app2 {A : Nat → Prop} {w1 w2 : va_W} (h : va_D A (w1 ++ w2)) : va_D A w2 := by
  have g : ∀ k q, w2[k]? = some q → (w1 ++ w2)[w1.length + k]? = some q := fun k q hq => by rw [List.getElem?_append_right (by omega), Nat.add_sub_cancel_left]; exact hq
  refine ⟨fun i j p q hp hq e => ?_, fun k q hq => h.2 _ q (g k q hq)⟩
  have := h.1 _ _ p q (g i p hp) (g j q hq) e
  omega
theorem va_D_dis {A : Nat → Prop} {w1 w2 : va_W} (h : va_D A (w1 ++ w2)) {i j : Nat} {p q : Nat × va_E} (hp : w1[i]? = some p) (hq : w2[j]? = some q) : p.1 ≠ q.1 := by
  intro e
  have h1 := (List.getElem?_eq_some_iff.mp hp).1
  have := h.1 i (w1.length + j) p q (by rw [List.getElem?_append_left h1]; exact hp) (by rw [List.getElem?_append_right (by omega), Nat.add_sub_cancel_left]; exact hq) e
  omega
/-- both memories, in the heap of the law's walk -/
def LW (D : va_G) (cI cZ : ClassId) (adc adm : Nat → Nat) (M J : Mem) (s : State) (H : Heap) (locs : List Loc) : Prop :=
  (va_P D vwCl (mw adc 40 (Ec adc cI M)) H ∧ va_D (fun q => s.heap.size ≤ q) (mw adc 40 (Ec adc cI M))) ∧ (va_P D vwCl (mw adm 14 (Em adm cI cZ J)) H ∧ va_D (fun q => s.heap.size ≤ q) (mw adm 14 (Em adm cI cZ J))) ∧ (∀ i, i < 40 → ∀ j, j < 14 → adc i ≠ adm j) ∧ True ∧ va_S (fun q => s.heap.size ≤ q) s.heap H locs
theorem mw_keep {D : va_G} {ad : Nat → Nat} {n : Nat} {E : Nat → va_E} {H H1 : Heap} {B : Nat → Prop} (h : va_P D vwCl (mw ad n E) H) (hd : ∀ j, j < n → ¬ B (ad j)) (hk : ∀ q : Nat, q < H.size → ¬ B q → H1[q]? = H[q]?) : va_P D vwCl (mw ad n E) H1 := by
  intro k q hq
  have h1 := h k q hq
  refine h1.kept (hk q.1 h1.lt ?_)
  by_cases hk2 : k < n
  · rw [mw_at hk2] at hq; cases hq; exact hd k hk2
  · simp [mw, hk2] at hq
/-- what the class's methods need beside the memory, at a state -/
def xC (adc aS : Nat → Nat) : State → Prop := fun U => va_Nw (.methodLinkNest RX1 107 yX4_clockFor RX4) U ∧ sX adc aS U
/-- the same at the law's own entry, where all that is old stays -/
def xL (aS : Nat → Nat) (s : State) : Prop := va_Nw (.methodLinkNest RX1 107 yX4_clockFor RX4) s ∧ vk_S 3 [4, 4, 4] sB aS (fun i => aS (i + 3)) (fun q => s.heap.size ≤ q) s s.heap ∧ (vk_R RX3 99 "town" (aS 0) s ∧ vk_R RX3 105 "road" (aS 1) s ∧ vk_R RX3 107 "stop" (aS 2) s) ∧ va_Z "java/lang/String" "COMPACT_STRINGS" "Z" (.int 1) (fun q => s.heap.size ≤ q) s s.heap ∧ va_Zq "jdk/internal/util/Preconditions" "SIOOBE_FORMATTER" "Ljava/util/function/BiFunction;" (fun q => s.heap.size ≤ q) s s.heap
theorem xC_of {aS adc : Nat → Nat} {s U : State} {A : Nat → Prop} {H : Heap} {locs : List Loc} (hN : va_Nw (.methodLinkNest RX1 107 yX4_clockFor RX4) s) (h1 : vk_S 3 [4, 4, 4] sB aS (fun i => aS (i + 3)) A s s.heap) (h2 : vk_R RX3 99 "town" (aS 0) s ∧ vk_R RX3 105 "road" (aS 1) s ∧ vk_R RX3 107 "stop" (aS 2) s) (h3 : va_Z "java/lang/String" "COMPACT_STRINGS" "Z" (.int 1) A s s.heap) (h4 : va_Zq "jdk/internal/util/Preconditions" "SIOOBE_FORMATTER" "Ljava/util/function/BiFunction;" A s s.heap) (hW : s.WarmedH U.vm) (hU : U.heap = H) (hS : va_S A s.heap H locs) (hA : ∀ q, mA adc 40 q → A q) : xC adc aS U := by
  refine ⟨va_Nw.warmM hW hN, ?_, ⟨h2.1.warm hW, h2.2.1.warm hW, h2.2.2.warm hW⟩, ?_, ?_⟩
  · rw [hU]; exact ((vk_S.moved hW.alike h1).kept hS.2.1).narrow hA
  · rw [hU]; exact ((va_Z.moved hW.alike h3).kept hS.2.1).narrow hA
  · rw [hU]; exact ((va_Zq.moved hW.alike h4).kept hS.2.1).narrow hA
theorem xC_X (D : va_G) (adc aS : Nat → Nat) : cX D adc aS (xC adc aS) := by
  refine ⟨⟨fun s U H locs h hW hU hS => xC_of h.1 h.2.1 h.2.2.1 h.2.2.2.1 h.2.2.2.2 hW hU hS (fun _ q => q), fun U g mk a h => ?_⟩, fun U h => h.1, fun U h => h.2⟩
  have hv : U.vm = (U.calling g mk a).vm := rfl
  refine ⟨va_Nw.same rfl hv h.1, ?_, ⟨vk_R.same rfl h.2.2.1.1, vk_R.same rfl h.2.2.1.2.1, vk_R.same rfl h.2.2.1.2.2⟩, ?_, ?_⟩
  · exact vk_S.moved (U := U.calling g mk a) (Vm.Alike.refl U.vm) h.2.1
  · exact va_Z.moved (U := U.calling g mk a) (Vm.Alike.refl U.vm) h.2.2.2.1
  · exact va_Zq.moved (U := U.calling g mk a) (Vm.Alike.refl U.vm) h.2.2.2.2
section LAWC
variable {p : Program} {l : Launch} {e : Env} {R : Room} {s : State} {m : MethodId} {args : Array Value} {below : List Frame} {meth : Method} {c : Code} {H : Heap} {locs : List Loc} {cells slots : Nat} {Q : State → Prop}
variable {cc : ByteArray} {pc : Nat} {ls : Array Slot} {rest : List Value} {D : va_G} {cI cZ : ClassId} {adc adm aS : Nat → Nat} {M M' J J' : Mem} {index : Nat} {own : String} {Ts : List Cond}
variable {y : MethodName} {bytes : ByteArray} {maxL nA : Nat} {ret : Option FieldType} {wsy : List Cond} {rm : Room} {As st st1 : List Value} {v : Option Value}
theorem law_callC (hx : p.tables.exec = Jvm.exec) (hb : c.code = cc) (hml : c.maxLocals = ls.size) (hown : s.vm.findClass own = some m.cls) (hts : ∀ w ∈ Ts, w.before args s = true) (hK : va_K D vwCl [(cI, .int), (cZ, .boolean)] s) (hXs : xL aS s) (hX0 : cX D adc aS (xC adc aS)) (hI : LW D cI cZ adc adm M J s H locs)
    (hC : mC l y wsy rm D [(cI, .int)] adc 40 (xC adc aS) (.ref (adc 0) :: As) (Ec adc cI M) v (Ec adc cI M')) (cw : CallW R s args own RX4 index y bytes maxL ret wsy rm 0 0 nA) (hn : As.length = nA) (hst : st = As.reverse ++ .ref (adc 0) :: rest) (hst1 : v.toList ++ rest = st1) (hW : (rest.map fun v => v.category).sum ≤ 8) (hdg : decode cc pc = .ok (.invokevirtual index, 3)) (hf : cells ≤ R.cells ∧ slots ≤ R.slots)
    (kk : ∀ (H1 : Heap) (locs1 : List Loc), LW D cI cZ adc adm M' J s H1 locs1 → W p l e R s m args below meth c H1 locs1 cells slots Q (F0 m (pc + 3) ls st1)) : W p l e R s m args below meth c H locs cells slots Q (F0 m pc ls st) := by
  obtain ⟨⟨hP, hD⟩, ⟨hP2, hD2⟩, hd, -, hS⟩ := hI
  obtain ⟨x1, x2, x3, x4, x5⟩ := hXs
  refine m_callA (X := xC adc aS) (q := 0) hx hb hml hown hts (hK.sub [0] rfl) (fun U hU hW => xC_of x1 x2 x3 x4 x5 hW hU hS (mw_in hD)) hX0.1 hP hD hS hC cw (by decide) at_X4 rfl hn hst hst1 hW hdg hf (fun H1 locs1 hP1 hD1 hS1 hz hk => ?_)
  exact kk H1 locs1 ⟨⟨hP1, hD1⟩, ⟨mw_keep hP2 (fun j hj hq => by obtain ⟨i, hi, e⟩ := hq; exact hd i hi j hj e.symm) hk, hD2⟩, hd, trivial, hS1⟩
theorem law_callM (hx : p.tables.exec = Jvm.exec) (hb : c.code = cc) (hml : c.maxLocals = ls.size) (hown : s.vm.findClass own = some m.cls) (hts : ∀ w ∈ Ts, w.before args s = true) (hK : va_K D vwCl [(cI, .int), (cZ, .boolean)] s) (hI : LW D cI cZ adc adm M J s H locs)
    (hC : mC l y wsy rm D [(cI, .int), (cZ, .boolean)] adm 14 (fun _ => True) (.ref (adm 0) :: As) (Em adm cI cZ J) v (Em adm cI cZ J')) (cw : CallW R s args own RX5 index y bytes maxL ret wsy rm 0 0 nA) (hn : As.length = nA) (hst : st = As.reverse ++ .ref (adm 0) :: rest) (hst1 : v.toList ++ rest = st1) (hW : (rest.map fun v => v.category).sum ≤ 8) (hdg : decode cc pc = .ok (.invokevirtual index, 3)) (hf : cells ≤ R.cells ∧ slots ≤ R.slots)
    (kk : ∀ (H1 : Heap) (locs1 : List Loc), LW D cI cZ adc adm M J' s H1 locs1 → W p l e R s m args below meth c H1 locs1 cells slots Q (F0 m (pc + 3) ls st1)) : W p l e R s m args below meth c H locs cells slots Q (F0 m pc ls st) := by
  obtain ⟨⟨hP, hD⟩, ⟨hP2, hD2⟩, hd, -, hS⟩ := hI
  refine m_callA (X := fun _ => True) (q := 0) hx hb hml hown hts hK (fun _ _ _ => trivial) ⟨fun _ _ _ _ _ _ _ _ => trivial, fun _ _ _ _ _ => trivial⟩ hP2 hD2 hS hC cw (by decide) at_X5 rfl hn hst hst1 hW hdg hf (fun H1 locs1 hP1 hD1 hS1 hz hk => ?_)
  exact kk H1 locs1 ⟨⟨mw_keep hP (fun j hj hq => by obtain ⟨i, hi, e⟩ := hq; exact hd j hj i hi e) hk, hD⟩, ⟨hP1, hD1⟩, hd, trivial, hS1⟩
end LAWC
set_option maxHeartbeats 4000000 in
set_option maxRecDepth 100000 in
theorem law_case_0 {p : Program} {l : Launch} {e : Env} {s : State} {m : MethodId} {below : List Frame} {meth : Method} {c : Code} {D : va_G} {cI cZ : ClassId} {adc adm aS : Nat → Nat} {b L : Nat} {xs : Nat → Int32} (hL : L ≤ 448) (C0 : lw_At p s m meth c b L xs) (hK : va_K D vwCl [(cI, .int), (cZ, .boolean)] s) (hXs : xL aS s) {k : Nat} {x3 : Int32} (ex3 : x3 = nI k) (hk : k + 6 < L) {M J : Mem} (hI : Inv M J) {H : Heap} {locs : List Loc} (hI9 : LW D cI cZ adc adm M J s H locs) {ls : Array Slot} (hl : lv_has ls 4 [(0, .ref b), (1, .ref (adc 0)), (2, .ref (adm 0)), (3, .int x3)])
    (kk : ∀ (M J : Mem), Inv M J → ∀ (H : Heap) (locs : List Loc), LW D cI cZ adc adm M J s H locs → W p l e room_1 s m #[Value.ref b] below meth c H locs 54 1855 (lw_Z below #[Value.ref b] s) (F0 m 1084 ls [])) : W p l e room_1 s m #[Value.ref b] below meth c H locs 54 1855 (lw_Z below #[Value.ref b] s) (F0 m 164 ls []) := by
  obtain ⟨hx, hb, hr, hml, hown, hts, hX, hbl, hlocks, hgv⟩ := C0
  replace hown : s.vm.findClass RL = some m.cls := hown
  have hbA : ¬ (fun q : Nat => s.heap.size ≤ q) b := Nat.not_le.mpr hbl
  have hX0 := xC_X D adc aS
  have hT0 : mX adm 14 (fun _ : State => True) := ⟨fun _ _ _ _ _ _ _ _ => trivial, fun _ _ _ _ _ => trivial⟩
  have hS := hI9.2.2.2.2
  refine lv_aload_n hx hb dL_law_164 rfl (lv_at hl 1 rfl) ?_
  refine lv_aload_n hx hb dL_law_165 rfl (lv_at hl 0 rfl) ?_
  refine lv_iload_n hx hb dL_law_166 rfl (lv_at hl 3 rfl) ?_
  refine lv_iconst (v := (1 : Int32)) hx hb dL_law_167 (by decide) ?_
  refine lv_iadd hx hb dL_law_168 ?_
  refine va_sld hx hb hX hbl hbA hS (law_in 1 ex3 (by omega) hL) dL_law_169 ?_
  refine lv_i2l (v := (Int32.toInt64 (xs (x3 + (1 : Int32)).toNatClampNeg))) hx hb dL_law_170 rfl ?_
  refine lv_bipush (v := (32 : Int32)) hx hb dL_law_171 (by decide) ?_
  refine lv_lshl (v := ((Int32.toInt64 (xs (x3 + (1 : Int32)).toNatClampNeg)) <<< (Int32.toInt64 (32 : Int32) &&& 63))) hx hb dL_law_173 rfl ?_
  refine lv_aload_n hx hb dL_law_174 rfl (lv_at hl 0 rfl) ?_
  refine lv_iload_n hx hb dL_law_175 rfl (lv_at hl 3 rfl) ?_
  refine lv_iconst (v := (2 : Int32)) hx hb dL_law_176 (by decide) ?_
  refine lv_iadd hx hb dL_law_177 ?_
  refine va_sld hx hb hX hbl hbA hS (law_in 2 ex3 (by omega) hL) dL_law_178 ?_
  refine lv_i2l (v := (Int32.toInt64 (xs (x3 + (2 : Int32)).toNatClampNeg))) hx hb dL_law_179 rfl ?_
  refine lv_ldc2 (v := (4294967295 : Int64)) hx hb hown (hts _ wm_99) dL_law_180 ?_
  refine lv_land hx hb dL_law_183 ?_
  refine lv_lor hx hb dL_law_184 ?_
  refine lv_aload_n hx hb dL_law_185 rfl (lv_at hl 0 rfl) ?_
  refine lv_iload_n hx hb dL_law_186 rfl (lv_at hl 3 rfl) ?_
  refine lv_iconst (v := (3 : Int32)) hx hb dL_law_187 (by decide) ?_
  refine lv_iadd hx hb dL_law_188 ?_
  refine va_sld hx hb hX hbl hbA hS (law_in 3 ex3 (by omega) hL) dL_law_189 ?_
  obtain ⟨r, M1, J1, hf, hg, hI⟩ := pu_type (((Int32.toInt64 (xs (x3 + (1 : Int32)).toNatClampNeg)) <<< (Int32.toInt64 (32 : Int32) &&& 63)) ||| ((Int32.toInt64 (xs (x3 + (2 : Int32)).toNatClampNeg)) &&& (4294967295 : Int64))) (xs (x3 + (3 : Int32)).toNatClampNeg) hI
  refine law_callC (As := [.long (((Int32.toInt64 (xs (x3 + (1 : Int32)).toNatClampNeg)) <<< (Int32.toInt64 (32 : Int32) &&& 63)) ||| ((Int32.toInt64 (xs (x3 + (2 : Int32)).toNatClampNeg)) &&& (4294967295 : Int64))), .int (xs (x3 + (3 : Int32)).toNatClampNeg)]) (st1 := [.int r]) hx hb (hml.trans hl.1.symm) hown hts hK hXs hX0 hI9 (kX4_type l D cI adc hX0 (((Int32.toInt64 (xs (x3 + (1 : Int32)).toNatClampNeg)) <<< (Int32.toInt64 (32 : Int32) &&& 63)) ||| ((Int32.toInt64 (xs (x3 + (2 : Int32)).toNatClampNeg)) &&& (4294967295 : Int64))) (xs (x3 + (3 : Int32)).toNatClampNeg)  M  _ hf) (cwV 2 hts GLX4_type rfl rfl rfl (by decide +kernel) ⟨Nat.le_of_ble_eq_true rfl, Nat.le_of_ble_eq_true rfl⟩) rfl rfl rfl (Nat.le_of_ble_eq_true rfl) dL_law_190 ⟨Nat.le_of_ble_eq_true rfl, Nat.le_of_ble_eq_true rfl⟩ (fun H locs hI9 => ?_)
  have hS := hI9.2.2.2.2
  refine lv_aload_n hx hb dL_law_193 rfl (lv_at hl 2 rfl) ?_
  refine lv_aload_n hx hb dL_law_194 rfl (lv_at hl 0 rfl) ?_
  refine lv_iload_n hx hb dL_law_195 rfl (lv_at hl 3 rfl) ?_
  refine lv_iconst (v := (1 : Int32)) hx hb dL_law_196 (by decide) ?_
  refine lv_iadd hx hb dL_law_197 ?_
  refine va_sld hx hb hX hbl hbA hS (law_in 1 ex3 (by omega) hL) dL_law_198 ?_
  refine lv_i2l (v := (Int32.toInt64 (xs (x3 + (1 : Int32)).toNatClampNeg))) hx hb dL_law_199 rfl ?_
  refine lv_bipush (v := (32 : Int32)) hx hb dL_law_200 (by decide) ?_
  refine lv_lshl (v := ((Int32.toInt64 (xs (x3 + (1 : Int32)).toNatClampNeg)) <<< (Int32.toInt64 (32 : Int32) &&& 63))) hx hb dL_law_202 rfl ?_
  refine lv_aload_n hx hb dL_law_203 rfl (lv_at hl 0 rfl) ?_
  refine lv_iload_n hx hb dL_law_204 rfl (lv_at hl 3 rfl) ?_
  refine lv_iconst (v := (2 : Int32)) hx hb dL_law_205 (by decide) ?_
  refine lv_iadd hx hb dL_law_206 ?_
  refine va_sld hx hb hX hbl hbA hS (law_in 2 ex3 (by omega) hL) dL_law_207 ?_
  refine lv_i2l (v := (Int32.toInt64 (xs (x3 + (2 : Int32)).toNatClampNeg))) hx hb dL_law_208 rfl ?_
  refine lv_ldc2 (v := (4294967295 : Int64)) hx hb hown (hts _ wm_99) dL_law_209 ?_
  refine lv_land hx hb dL_law_212 ?_
  refine lv_lor hx hb dL_law_213 ?_
  refine lv_aload_n hx hb dL_law_214 rfl (lv_at hl 0 rfl) ?_
  refine lv_iload_n hx hb dL_law_215 rfl (lv_at hl 3 rfl) ?_
  refine lv_iconst (v := (3 : Int32)) hx hb dL_law_216 (by decide) ?_
  refine lv_iadd hx hb dL_law_217 ?_
  refine va_sld hx hb hX hbl hbA hS (law_in 3 ex3 (by omega) hL) dL_law_218 ?_
  refine law_callM (As := [.long (((Int32.toInt64 (xs (x3 + (1 : Int32)).toNatClampNeg)) <<< (Int32.toInt64 (32 : Int32) &&& 63)) ||| ((Int32.toInt64 (xs (x3 + (2 : Int32)).toNatClampNeg)) &&& (4294967295 : Int64))), .int (xs (x3 + (3 : Int32)).toNatClampNeg)]) (st1 := [.int r, .int r]) hx hb (hml.trans hl.1.symm) hown hts hK  hI9 (kX5_type l D cI cZ adm hT0 (((Int32.toInt64 (xs (x3 + (1 : Int32)).toNatClampNeg)) <<< (Int32.toInt64 (32 : Int32) &&& 63)) ||| ((Int32.toInt64 (xs (x3 + (2 : Int32)).toNatClampNeg)) &&& (4294967295 : Int64))) (xs (x3 + (3 : Int32)).toNatClampNeg)  J  _ hg) (cwV 2 hts GLX5_type rfl rfl rfl (by decide +kernel) ⟨Nat.le_of_ble_eq_true rfl, Nat.le_of_ble_eq_true rfl⟩) rfl rfl rfl (Nat.le_of_ble_eq_true rfl) dL_law_219 ⟨Nat.le_of_ble_eq_true rfl, Nat.le_of_ble_eq_true rfl⟩ (fun H locs hI9 => ?_)
  have hS := hI9.2.2.2.2
  refine lv_icmp_eq (tgt := 1084) hx hb dL_law_222 (by decide) (fun _ => ?_) (fun c => absurd rfl c)
  exact kk _ _ hI _ _ hI9
set_option maxHeartbeats 4000000 in
set_option maxRecDepth 100000 in
theorem law_case_1 {p : Program} {l : Launch} {e : Env} {s : State} {m : MethodId} {below : List Frame} {meth : Method} {c : Code} {D : va_G} {cI cZ : ClassId} {adc adm aS : Nat → Nat} {b L : Nat} {xs : Nat → Int32} (hL : L ≤ 448) (C0 : lw_At p s m meth c b L xs) (hK : va_K D vwCl [(cI, .int), (cZ, .boolean)] s) (hXs : xL aS s) {k : Nat} {x3 : Int32} (ex3 : x3 = nI k) (hk : k + 6 < L) {M J : Mem} (hI : Inv M J) {H : Heap} {locs : List Loc} (hI9 : LW D cI cZ adc adm M J s H locs) {ls : Array Slot} (hl : lv_has ls 4 [(0, .ref b), (1, .ref (adc 0)), (2, .ref (adm 0)), (3, .int x3)])
    (kk : ∀ (M J : Mem), Inv M J → ∀ (H : Heap) (locs : List Loc), LW D cI cZ adc adm M J s H locs → W p l e room_1 s m #[Value.ref b] below meth c H locs 54 1855 (lw_Z below #[Value.ref b] s) (F0 m 1084 ls [])) : W p l e room_1 s m #[Value.ref b] below meth c H locs 54 1855 (lw_Z below #[Value.ref b] s) (F0 m 227 ls []) := by
  obtain ⟨hx, hb, hr, hml, hown, hts, hX, hbl, hlocks, hgv⟩ := C0
  replace hown : s.vm.findClass RL = some m.cls := hown
  have hbA : ¬ (fun q : Nat => s.heap.size ≤ q) b := Nat.not_le.mpr hbl
  have hX0 := xC_X D adc aS
  have hT0 : mX adm 14 (fun _ : State => True) := ⟨fun _ _ _ _ _ _ _ _ => trivial, fun _ _ _ _ _ => trivial⟩
  have hS := hI9.2.2.2.2
  refine lv_aload_n hx hb dL_law_227 rfl (lv_at hl 1 rfl) ?_
  obtain ⟨r, M1, J1, hf, hg, hI⟩ := pu_clear  hI
  refine law_callC (As := []) (st1 := [.int r]) hx hb (hml.trans hl.1.symm) hown hts hK hXs hX0 hI9 (kX4_clear l D cI adc hX0   M  _ hf) (cwV 0 hts GLX4_clear rfl rfl rfl (by decide +kernel) ⟨Nat.le_of_ble_eq_true rfl, Nat.le_of_ble_eq_true rfl⟩) rfl rfl rfl (Nat.le_of_ble_eq_true rfl) dL_law_228 ⟨Nat.le_of_ble_eq_true rfl, Nat.le_of_ble_eq_true rfl⟩ (fun H locs hI9 => ?_)
  have hS := hI9.2.2.2.2
  refine lv_aload_n hx hb dL_law_231 rfl (lv_at hl 2 rfl) ?_
  refine law_callM (As := []) (st1 := [.int r, .int r]) hx hb (hml.trans hl.1.symm) hown hts hK  hI9 (kX5_clear l D cI cZ adm hT0   J  _ hg) (cwV 0 hts GLX5_clear rfl rfl rfl (by decide +kernel) ⟨Nat.le_of_ble_eq_true rfl, Nat.le_of_ble_eq_true rfl⟩) rfl rfl rfl (Nat.le_of_ble_eq_true rfl) dL_law_232 ⟨Nat.le_of_ble_eq_true rfl, Nat.le_of_ble_eq_true rfl⟩ (fun H locs hI9 => ?_)
  have hS := hI9.2.2.2.2
  refine lv_icmp_eq (tgt := 1084) hx hb dL_law_235 (by decide) (fun _ => ?_) (fun c => absurd rfl c)
  exact kk _ _ hI _ _ hI9
set_option maxHeartbeats 4000000 in
set_option maxRecDepth 100000 in
theorem law_case_2 {p : Program} {l : Launch} {e : Env} {s : State} {m : MethodId} {below : List Frame} {meth : Method} {c : Code} {D : va_G} {cI cZ : ClassId} {adc adm aS : Nat → Nat} {b L : Nat} {xs : Nat → Int32} (hL : L ≤ 448) (C0 : lw_At p s m meth c b L xs) (hK : va_K D vwCl [(cI, .int), (cZ, .boolean)] s) (hXs : xL aS s) {k : Nat} {x3 : Int32} (ex3 : x3 = nI k) (hk : k + 6 < L) {M J : Mem} (hI : Inv M J) {H : Heap} {locs : List Loc} (hI9 : LW D cI cZ adc adm M J s H locs) {ls : Array Slot} (hl : lv_has ls 4 [(0, .ref b), (1, .ref (adc 0)), (2, .ref (adm 0)), (3, .int x3)])
    (kk : ∀ (M J : Mem), Inv M J → ∀ (H : Heap) (locs : List Loc), LW D cI cZ adc adm M J s H locs → W p l e room_1 s m #[Value.ref b] below meth c H locs 54 1855 (lw_Z below #[Value.ref b] s) (F0 m 1084 ls [])) : W p l e room_1 s m #[Value.ref b] below meth c H locs 54 1855 (lw_Z below #[Value.ref b] s) (F0 m 240 ls []) := by
  obtain ⟨hx, hb, hr, hml, hown, hts, hX, hbl, hlocks, hgv⟩ := C0
  replace hown : s.vm.findClass RL = some m.cls := hown
  have hbA : ¬ (fun q : Nat => s.heap.size ≤ q) b := Nat.not_le.mpr hbl
  have hX0 := xC_X D adc aS
  have hT0 : mX adm 14 (fun _ : State => True) := ⟨fun _ _ _ _ _ _ _ _ => trivial, fun _ _ _ _ _ => trivial⟩
  have hS := hI9.2.2.2.2
  refine lv_aload_n hx hb dL_law_240 rfl (lv_at hl 1 rfl) ?_
  obtain ⟨r, M1, J1, hf, hg, hI⟩ := pu_land  hI
  refine law_callC (As := []) (st1 := [.int r]) hx hb (hml.trans hl.1.symm) hown hts hK hXs hX0 hI9 (kX4_land l D cI adc hX0   M  _ hf) (cwV 0 hts GLX4_land rfl rfl rfl (by decide +kernel) ⟨Nat.le_of_ble_eq_true rfl, Nat.le_of_ble_eq_true rfl⟩) rfl rfl rfl (Nat.le_of_ble_eq_true rfl) dL_law_241 ⟨Nat.le_of_ble_eq_true rfl, Nat.le_of_ble_eq_true rfl⟩ (fun H locs hI9 => ?_)
  have hS := hI9.2.2.2.2
  refine lv_aload_n hx hb dL_law_244 rfl (lv_at hl 2 rfl) ?_
  refine law_callM (As := []) (st1 := [.int r, .int r]) hx hb (hml.trans hl.1.symm) hown hts hK  hI9 (kX5_land l D cI cZ adm hT0   J  _ hg) (cwV 0 hts GLX5_land rfl rfl rfl (by decide +kernel) ⟨Nat.le_of_ble_eq_true rfl, Nat.le_of_ble_eq_true rfl⟩) rfl rfl rfl (Nat.le_of_ble_eq_true rfl) dL_law_245 ⟨Nat.le_of_ble_eq_true rfl, Nat.le_of_ble_eq_true rfl⟩ (fun H locs hI9 => ?_)
  have hS := hI9.2.2.2.2
  refine lv_icmp_eq (tgt := 1084) hx hb dL_law_248 (by decide) (fun _ => ?_) (fun c => absurd rfl c)
  exact kk _ _ hI _ _ hI9
set_option maxHeartbeats 4000000 in
set_option maxRecDepth 100000 in
theorem law_case_3 {p : Program} {l : Launch} {e : Env} {s : State} {m : MethodId} {below : List Frame} {meth : Method} {c : Code} {D : va_G} {cI cZ : ClassId} {adc adm aS : Nat → Nat} {b L : Nat} {xs : Nat → Int32} (hL : L ≤ 448) (C0 : lw_At p s m meth c b L xs) (hK : va_K D vwCl [(cI, .int), (cZ, .boolean)] s) (hXs : xL aS s) {k : Nat} {x3 : Int32} (ex3 : x3 = nI k) (hk : k + 6 < L) {M J : Mem} (hI : Inv M J) {H : Heap} {locs : List Loc} (hI9 : LW D cI cZ adc adm M J s H locs) {ls : Array Slot} (hl : lv_has ls 4 [(0, .ref b), (1, .ref (adc 0)), (2, .ref (adm 0)), (3, .int x3)])
    (kk : ∀ (M J : Mem), Inv M J → ∀ (H : Heap) (locs : List Loc), LW D cI cZ adc adm M J s H locs → W p l e room_1 s m #[Value.ref b] below meth c H locs 54 1855 (lw_Z below #[Value.ref b] s) (F0 m 1084 ls [])) : W p l e room_1 s m #[Value.ref b] below meth c H locs 54 1855 (lw_Z below #[Value.ref b] s) (F0 m 253 ls []) := by
  obtain ⟨hx, hb, hr, hml, hown, hts, hX, hbl, hlocks, hgv⟩ := C0
  replace hown : s.vm.findClass RL = some m.cls := hown
  have hbA : ¬ (fun q : Nat => s.heap.size ≤ q) b := Nat.not_le.mpr hbl
  have hX0 := xC_X D adc aS
  have hT0 : mX adm 14 (fun _ : State => True) := ⟨fun _ _ _ _ _ _ _ _ => trivial, fun _ _ _ _ _ => trivial⟩
  have hS := hI9.2.2.2.2
  refine lv_aload_n hx hb dL_law_253 rfl (lv_at hl 1 rfl) ?_
  refine lv_aload_n hx hb dL_law_254 rfl (lv_at hl 0 rfl) ?_
  refine lv_iload_n hx hb dL_law_255 rfl (lv_at hl 3 rfl) ?_
  refine lv_iconst (v := (1 : Int32)) hx hb dL_law_256 (by decide) ?_
  refine lv_iadd hx hb dL_law_257 ?_
  refine va_sld hx hb hX hbl hbA hS (law_in 1 ex3 (by omega) hL) dL_law_258 ?_
  refine lv_aload_n hx hb dL_law_259 rfl (lv_at hl 0 rfl) ?_
  refine lv_iload_n hx hb dL_law_260 rfl (lv_at hl 3 rfl) ?_
  refine lv_iconst (v := (2 : Int32)) hx hb dL_law_261 (by decide) ?_
  refine lv_iadd hx hb dL_law_262 ?_
  refine va_sld hx hb hX hbl hbA hS (law_in 2 ex3 (by omega) hL) dL_law_263 ?_
  obtain ⟨r, J1, hf, hg, hI⟩ := pu_town (xs (x3 + (1 : Int32)).toNatClampNeg) (xs (x3 + (2 : Int32)).toNatClampNeg) hI
  refine law_callC (As := [.int (xs (x3 + (1 : Int32)).toNatClampNeg), .int (xs (x3 + (2 : Int32)).toNatClampNeg)]) (st1 := [.int r]) hx hb (hml.trans hl.1.symm) hown hts hK hXs hX0 hI9 (kX4_town l D cI adc hX0 (xs (x3 + (1 : Int32)).toNatClampNeg) (xs (x3 + (2 : Int32)).toNatClampNeg)  M  _ hf) (cwV 2 hts GLX4_town rfl rfl rfl (by decide +kernel) ⟨Nat.le_of_ble_eq_true rfl, Nat.le_of_ble_eq_true rfl⟩) rfl rfl rfl (Nat.le_of_ble_eq_true rfl) dL_law_264 ⟨Nat.le_of_ble_eq_true rfl, Nat.le_of_ble_eq_true rfl⟩ (fun H locs hI9 => ?_)
  have hS := hI9.2.2.2.2
  refine lv_aload_n hx hb dL_law_267 rfl (lv_at hl 2 rfl) ?_
  refine lv_aload_n hx hb dL_law_268 rfl (lv_at hl 0 rfl) ?_
  refine lv_iload_n hx hb dL_law_269 rfl (lv_at hl 3 rfl) ?_
  refine lv_iconst (v := (1 : Int32)) hx hb dL_law_270 (by decide) ?_
  refine lv_iadd hx hb dL_law_271 ?_
  refine va_sld hx hb hX hbl hbA hS (law_in 1 ex3 (by omega) hL) dL_law_272 ?_
  refine lv_aload_n hx hb dL_law_273 rfl (lv_at hl 0 rfl) ?_
  refine lv_iload_n hx hb dL_law_274 rfl (lv_at hl 3 rfl) ?_
  refine lv_iconst (v := (2 : Int32)) hx hb dL_law_275 (by decide) ?_
  refine lv_iadd hx hb dL_law_276 ?_
  refine va_sld hx hb hX hbl hbA hS (law_in 2 ex3 (by omega) hL) dL_law_277 ?_
  refine law_callM (As := [.int (xs (x3 + (1 : Int32)).toNatClampNeg), .int (xs (x3 + (2 : Int32)).toNatClampNeg)]) (st1 := [.int r, .int r]) hx hb (hml.trans hl.1.symm) hown hts hK  hI9 (kX5_town l D cI cZ adm hT0 (xs (x3 + (1 : Int32)).toNatClampNeg) (xs (x3 + (2 : Int32)).toNatClampNeg)  J  _ hg) (cwV 2 hts GLX5_town rfl rfl rfl (by decide +kernel) ⟨Nat.le_of_ble_eq_true rfl, Nat.le_of_ble_eq_true rfl⟩) rfl rfl rfl (Nat.le_of_ble_eq_true rfl) dL_law_278 ⟨Nat.le_of_ble_eq_true rfl, Nat.le_of_ble_eq_true rfl⟩ (fun H locs hI9 => ?_)
  have hS := hI9.2.2.2.2
  refine lv_icmp_eq (tgt := 1084) hx hb dL_law_281 (by decide) (fun _ => ?_) (fun c => absurd rfl c)
  exact kk _ _ hI _ _ hI9
set_option maxHeartbeats 4000000 in
set_option maxRecDepth 100000 in
theorem law_case_4 {p : Program} {l : Launch} {e : Env} {s : State} {m : MethodId} {below : List Frame} {meth : Method} {c : Code} {D : va_G} {cI cZ : ClassId} {adc adm aS : Nat → Nat} {b L : Nat} {xs : Nat → Int32} (hL : L ≤ 448) (C0 : lw_At p s m meth c b L xs) (hK : va_K D vwCl [(cI, .int), (cZ, .boolean)] s) (hXs : xL aS s) {k : Nat} {x3 : Int32} (ex3 : x3 = nI k) (hk : k + 6 < L) {M J : Mem} (hI : Inv M J) {H : Heap} {locs : List Loc} (hI9 : LW D cI cZ adc adm M J s H locs) {ls : Array Slot} (hl : lv_has ls 4 [(0, .ref b), (1, .ref (adc 0)), (2, .ref (adm 0)), (3, .int x3)])
    (kk : ∀ (M J : Mem), Inv M J → ∀ (H : Heap) (locs : List Loc), LW D cI cZ adc adm M J s H locs → W p l e room_1 s m #[Value.ref b] below meth c H locs 54 1855 (lw_Z below #[Value.ref b] s) (F0 m 1084 ls [])) : W p l e room_1 s m #[Value.ref b] below meth c H locs 54 1855 (lw_Z below #[Value.ref b] s) (F0 m 286 ls []) := by
  obtain ⟨hx, hb, hr, hml, hown, hts, hX, hbl, hlocks, hgv⟩ := C0
  replace hown : s.vm.findClass RL = some m.cls := hown
  have hbA : ¬ (fun q : Nat => s.heap.size ≤ q) b := Nat.not_le.mpr hbl
  have hX0 := xC_X D adc aS
  have hT0 : mX adm 14 (fun _ : State => True) := ⟨fun _ _ _ _ _ _ _ _ => trivial, fun _ _ _ _ _ => trivial⟩
  have hS := hI9.2.2.2.2
  refine lv_aload_n hx hb dL_law_286 rfl (lv_at hl 1 rfl) ?_
  refine lv_aload_n hx hb dL_law_287 rfl (lv_at hl 0 rfl) ?_
  refine lv_iload_n hx hb dL_law_288 rfl (lv_at hl 3 rfl) ?_
  refine lv_iconst (v := (1 : Int32)) hx hb dL_law_289 (by decide) ?_
  refine lv_iadd hx hb dL_law_290 ?_
  refine va_sld hx hb hX hbl hbA hS (law_in 1 ex3 (by omega) hL) dL_law_291 ?_
  refine lv_aload_n hx hb dL_law_292 rfl (lv_at hl 0 rfl) ?_
  refine lv_iload_n hx hb dL_law_293 rfl (lv_at hl 3 rfl) ?_
  refine lv_iconst (v := (2 : Int32)) hx hb dL_law_294 (by decide) ?_
  refine lv_iadd hx hb dL_law_295 ?_
  refine va_sld hx hb hX hbl hbA hS (law_in 2 ex3 (by omega) hL) dL_law_296 ?_
  obtain ⟨r, J1, hf, hg, hI⟩ := pu_road (xs (x3 + (1 : Int32)).toNatClampNeg) (xs (x3 + (2 : Int32)).toNatClampNeg) hI
  refine law_callC (As := [.int (xs (x3 + (1 : Int32)).toNatClampNeg), .int (xs (x3 + (2 : Int32)).toNatClampNeg)]) (st1 := [.int r]) hx hb (hml.trans hl.1.symm) hown hts hK hXs hX0 hI9 (kX4_road l D cI adc hX0 (xs (x3 + (1 : Int32)).toNatClampNeg) (xs (x3 + (2 : Int32)).toNatClampNeg)  M  _ hf) (cwV 2 hts GLX4_road rfl rfl rfl (by decide +kernel) ⟨Nat.le_of_ble_eq_true rfl, Nat.le_of_ble_eq_true rfl⟩) rfl rfl rfl (Nat.le_of_ble_eq_true rfl) dL_law_297 ⟨Nat.le_of_ble_eq_true rfl, Nat.le_of_ble_eq_true rfl⟩ (fun H locs hI9 => ?_)
  have hS := hI9.2.2.2.2
  refine lv_aload_n hx hb dL_law_300 rfl (lv_at hl 2 rfl) ?_
  refine lv_aload_n hx hb dL_law_301 rfl (lv_at hl 0 rfl) ?_
  refine lv_iload_n hx hb dL_law_302 rfl (lv_at hl 3 rfl) ?_
  refine lv_iconst (v := (1 : Int32)) hx hb dL_law_303 (by decide) ?_
  refine lv_iadd hx hb dL_law_304 ?_
  refine va_sld hx hb hX hbl hbA hS (law_in 1 ex3 (by omega) hL) dL_law_305 ?_
  refine lv_aload_n hx hb dL_law_306 rfl (lv_at hl 0 rfl) ?_
  refine lv_iload_n hx hb dL_law_307 rfl (lv_at hl 3 rfl) ?_
  refine lv_iconst (v := (2 : Int32)) hx hb dL_law_308 (by decide) ?_
  refine lv_iadd hx hb dL_law_309 ?_
  refine va_sld hx hb hX hbl hbA hS (law_in 2 ex3 (by omega) hL) dL_law_310 ?_
  refine law_callM (As := [.int (xs (x3 + (1 : Int32)).toNatClampNeg), .int (xs (x3 + (2 : Int32)).toNatClampNeg)]) (st1 := [.int r, .int r]) hx hb (hml.trans hl.1.symm) hown hts hK  hI9 (kX5_road l D cI cZ adm hT0 (xs (x3 + (1 : Int32)).toNatClampNeg) (xs (x3 + (2 : Int32)).toNatClampNeg)  J  _ hg) (cwV 2 hts GLX5_road rfl rfl rfl (by decide +kernel) ⟨Nat.le_of_ble_eq_true rfl, Nat.le_of_ble_eq_true rfl⟩) rfl rfl rfl (Nat.le_of_ble_eq_true rfl) dL_law_311 ⟨Nat.le_of_ble_eq_true rfl, Nat.le_of_ble_eq_true rfl⟩ (fun H locs hI9 => ?_)
  have hS := hI9.2.2.2.2
  refine lv_icmp_eq (tgt := 1084) hx hb dL_law_314 (by decide) (fun _ => ?_) (fun c => absurd rfl c)
  exact kk _ _ hI _ _ hI9
set_option maxHeartbeats 4000000 in
set_option maxRecDepth 100000 in
theorem law_case_5 {p : Program} {l : Launch} {e : Env} {s : State} {m : MethodId} {below : List Frame} {meth : Method} {c : Code} {D : va_G} {cI cZ : ClassId} {adc adm aS : Nat → Nat} {b L : Nat} {xs : Nat → Int32} (hL : L ≤ 448) (C0 : lw_At p s m meth c b L xs) (hK : va_K D vwCl [(cI, .int), (cZ, .boolean)] s) (hXs : xL aS s) {k : Nat} {x3 : Int32} (ex3 : x3 = nI k) (hk : k + 6 < L) {M J : Mem} (hI : Inv M J) {H : Heap} {locs : List Loc} (hI9 : LW D cI cZ adc adm M J s H locs) {ls : Array Slot} (hl : lv_has ls 4 [(0, .ref b), (1, .ref (adc 0)), (2, .ref (adm 0)), (3, .int x3)])
    (kk : ∀ (M J : Mem), Inv M J → ∀ (H : Heap) (locs : List Loc), LW D cI cZ adc adm M J s H locs → W p l e room_1 s m #[Value.ref b] below meth c H locs 54 1855 (lw_Z below #[Value.ref b] s) (F0 m 1084 ls [])) : W p l e room_1 s m #[Value.ref b] below meth c H locs 54 1855 (lw_Z below #[Value.ref b] s) (F0 m 319 ls []) := by
  obtain ⟨hx, hb, hr, hml, hown, hts, hX, hbl, hlocks, hgv⟩ := C0
  replace hown : s.vm.findClass RL = some m.cls := hown
  have hbA : ¬ (fun q : Nat => s.heap.size ≤ q) b := Nat.not_le.mpr hbl
  have hX0 := xC_X D adc aS
  have hT0 : mX adm 14 (fun _ : State => True) := ⟨fun _ _ _ _ _ _ _ _ => trivial, fun _ _ _ _ _ => trivial⟩
  have hS := hI9.2.2.2.2
  refine lv_aload_n hx hb dL_law_319 rfl (lv_at hl 1 rfl) ?_
  refine lv_aload_n hx hb dL_law_320 rfl (lv_at hl 0 rfl) ?_
  refine lv_iload_n hx hb dL_law_321 rfl (lv_at hl 3 rfl) ?_
  refine lv_iconst (v := (1 : Int32)) hx hb dL_law_322 (by decide) ?_
  refine lv_iadd hx hb dL_law_323 ?_
  refine va_sld hx hb hX hbl hbA hS (law_in 1 ex3 (by omega) hL) dL_law_324 ?_
  refine lv_aload_n hx hb dL_law_325 rfl (lv_at hl 0 rfl) ?_
  refine lv_iload_n hx hb dL_law_326 rfl (lv_at hl 3 rfl) ?_
  refine lv_iconst (v := (2 : Int32)) hx hb dL_law_327 (by decide) ?_
  refine lv_iadd hx hb dL_law_328 ?_
  refine va_sld hx hb hX hbl hbA hS (law_in 2 ex3 (by omega) hL) dL_law_329 ?_
  obtain ⟨r, J1, hf, hg, hI⟩ := pu_stop (xs (x3 + (1 : Int32)).toNatClampNeg) (xs (x3 + (2 : Int32)).toNatClampNeg) hI
  refine law_callC (As := [.int (xs (x3 + (1 : Int32)).toNatClampNeg), .int (xs (x3 + (2 : Int32)).toNatClampNeg)]) (st1 := [.int r]) hx hb (hml.trans hl.1.symm) hown hts hK hXs hX0 hI9 (kX4_stop l D cI adc hX0 (xs (x3 + (1 : Int32)).toNatClampNeg) (xs (x3 + (2 : Int32)).toNatClampNeg)  M  _ hf) (cwV 2 hts GLX4_stop rfl rfl rfl (by decide +kernel) ⟨Nat.le_of_ble_eq_true rfl, Nat.le_of_ble_eq_true rfl⟩) rfl rfl rfl (Nat.le_of_ble_eq_true rfl) dL_law_330 ⟨Nat.le_of_ble_eq_true rfl, Nat.le_of_ble_eq_true rfl⟩ (fun H locs hI9 => ?_)
  have hS := hI9.2.2.2.2
  refine lv_aload_n hx hb dL_law_333 rfl (lv_at hl 2 rfl) ?_
  refine lv_aload_n hx hb dL_law_334 rfl (lv_at hl 0 rfl) ?_
  refine lv_iload_n hx hb dL_law_335 rfl (lv_at hl 3 rfl) ?_
  refine lv_iconst (v := (1 : Int32)) hx hb dL_law_336 (by decide) ?_
  refine lv_iadd hx hb dL_law_337 ?_
  refine va_sld hx hb hX hbl hbA hS (law_in 1 ex3 (by omega) hL) dL_law_338 ?_
  refine lv_aload_n hx hb dL_law_339 rfl (lv_at hl 0 rfl) ?_
  refine lv_iload_n hx hb dL_law_340 rfl (lv_at hl 3 rfl) ?_
  refine lv_iconst (v := (2 : Int32)) hx hb dL_law_341 (by decide) ?_
  refine lv_iadd hx hb dL_law_342 ?_
  refine va_sld hx hb hX hbl hbA hS (law_in 2 ex3 (by omega) hL) dL_law_343 ?_
  refine law_callM (As := [.int (xs (x3 + (1 : Int32)).toNatClampNeg), .int (xs (x3 + (2 : Int32)).toNatClampNeg)]) (st1 := [.int r, .int r]) hx hb (hml.trans hl.1.symm) hown hts hK  hI9 (kX5_stop l D cI cZ adm hT0 (xs (x3 + (1 : Int32)).toNatClampNeg) (xs (x3 + (2 : Int32)).toNatClampNeg)  J  _ hg) (cwV 2 hts GLX5_stop rfl rfl rfl (by decide +kernel) ⟨Nat.le_of_ble_eq_true rfl, Nat.le_of_ble_eq_true rfl⟩) rfl rfl rfl (Nat.le_of_ble_eq_true rfl) dL_law_344 ⟨Nat.le_of_ble_eq_true rfl, Nat.le_of_ble_eq_true rfl⟩ (fun H locs hI9 => ?_)
  have hS := hI9.2.2.2.2
  refine lv_icmp_eq (tgt := 1084) hx hb dL_law_347 (by decide) (fun _ => ?_) (fun c => absurd rfl c)
  exact kk _ _ hI _ _ hI9
set_option maxHeartbeats 4000000 in
set_option maxRecDepth 100000 in
theorem law_case_6 {p : Program} {l : Launch} {e : Env} {s : State} {m : MethodId} {below : List Frame} {meth : Method} {c : Code} {D : va_G} {cI cZ : ClassId} {adc adm aS : Nat → Nat} {b L : Nat} {xs : Nat → Int32} (hL : L ≤ 448) (C0 : lw_At p s m meth c b L xs) (hK : va_K D vwCl [(cI, .int), (cZ, .boolean)] s) (hXs : xL aS s) {k : Nat} {x3 : Int32} (ex3 : x3 = nI k) (hk : k + 6 < L) {M J : Mem} (hI : Inv M J) {H : Heap} {locs : List Loc} (hI9 : LW D cI cZ adc adm M J s H locs) {ls : Array Slot} (hl : lv_has ls 4 [(0, .ref b), (1, .ref (adc 0)), (2, .ref (adm 0)), (3, .int x3)])
    (kk : ∀ (M J : Mem), Inv M J → ∀ (H : Heap) (locs : List Loc), LW D cI cZ adc adm M J s H locs → W p l e room_1 s m #[Value.ref b] below meth c H locs 54 1855 (lw_Z below #[Value.ref b] s) (F0 m 1084 ls [])) : W p l e room_1 s m #[Value.ref b] below meth c H locs 54 1855 (lw_Z below #[Value.ref b] s) (F0 m 352 ls []) := by
  obtain ⟨hx, hb, hr, hml, hown, hts, hX, hbl, hlocks, hgv⟩ := C0
  replace hown : s.vm.findClass RL = some m.cls := hown
  have hbA : ¬ (fun q : Nat => s.heap.size ≤ q) b := Nat.not_le.mpr hbl
  have hX0 := xC_X D adc aS
  have hT0 : mX adm 14 (fun _ : State => True) := ⟨fun _ _ _ _ _ _ _ _ => trivial, fun _ _ _ _ _ => trivial⟩
  have hS := hI9.2.2.2.2
  refine lv_aload_n hx hb dL_law_352 rfl (lv_at hl 1 rfl) ?_
  refine lv_aload_n hx hb dL_law_353 rfl (lv_at hl 0 rfl) ?_
  refine lv_iload_n hx hb dL_law_354 rfl (lv_at hl 3 rfl) ?_
  refine lv_iconst (v := (1 : Int32)) hx hb dL_law_355 (by decide) ?_
  refine lv_iadd hx hb dL_law_356 ?_
  refine va_sld hx hb hX hbl hbA hS (law_in 1 ex3 (by omega) hL) dL_law_357 ?_
  refine lv_aload_n hx hb dL_law_358 rfl (lv_at hl 0 rfl) ?_
  refine lv_iload_n hx hb dL_law_359 rfl (lv_at hl 3 rfl) ?_
  refine lv_iconst (v := (2 : Int32)) hx hb dL_law_360 (by decide) ?_
  refine lv_iadd hx hb dL_law_361 ?_
  refine va_sld hx hb hX hbl hbA hS (law_in 2 ex3 (by omega) hL) dL_law_362 ?_
  obtain ⟨r, J1, hf, hg, hI⟩ := pu_far (xs (x3 + (1 : Int32)).toNatClampNeg) (xs (x3 + (2 : Int32)).toNatClampNeg) hI
  refine law_callC (As := [.int (xs (x3 + (1 : Int32)).toNatClampNeg), .int (xs (x3 + (2 : Int32)).toNatClampNeg)]) (st1 := [.int r]) hx hb (hml.trans hl.1.symm) hown hts hK hXs hX0 hI9 (kX4_far l D cI adc hX0 (xs (x3 + (1 : Int32)).toNatClampNeg) (xs (x3 + (2 : Int32)).toNatClampNeg)  M  _ hf) (cwV 2 hts GLX4_far rfl rfl rfl (by decide +kernel) ⟨Nat.le_of_ble_eq_true rfl, Nat.le_of_ble_eq_true rfl⟩) rfl rfl rfl (Nat.le_of_ble_eq_true rfl) dL_law_363 ⟨Nat.le_of_ble_eq_true rfl, Nat.le_of_ble_eq_true rfl⟩ (fun H locs hI9 => ?_)
  have hS := hI9.2.2.2.2
  refine lv_aload_n hx hb dL_law_366 rfl (lv_at hl 2 rfl) ?_
  refine lv_aload_n hx hb dL_law_367 rfl (lv_at hl 0 rfl) ?_
  refine lv_iload_n hx hb dL_law_368 rfl (lv_at hl 3 rfl) ?_
  refine lv_iconst (v := (1 : Int32)) hx hb dL_law_369 (by decide) ?_
  refine lv_iadd hx hb dL_law_370 ?_
  refine va_sld hx hb hX hbl hbA hS (law_in 1 ex3 (by omega) hL) dL_law_371 ?_
  refine lv_aload_n hx hb dL_law_372 rfl (lv_at hl 0 rfl) ?_
  refine lv_iload_n hx hb dL_law_373 rfl (lv_at hl 3 rfl) ?_
  refine lv_iconst (v := (2 : Int32)) hx hb dL_law_374 (by decide) ?_
  refine lv_iadd hx hb dL_law_375 ?_
  refine va_sld hx hb hX hbl hbA hS (law_in 2 ex3 (by omega) hL) dL_law_376 ?_
  refine law_callM (As := [.int (xs (x3 + (1 : Int32)).toNatClampNeg), .int (xs (x3 + (2 : Int32)).toNatClampNeg)]) (st1 := [.int r, .int r]) hx hb (hml.trans hl.1.symm) hown hts hK  hI9 (kX5_far l D cI cZ adm hT0 (xs (x3 + (1 : Int32)).toNatClampNeg) (xs (x3 + (2 : Int32)).toNatClampNeg)  J  _ hg) (cwV 2 hts GLX5_far rfl rfl rfl (by decide +kernel) ⟨Nat.le_of_ble_eq_true rfl, Nat.le_of_ble_eq_true rfl⟩) rfl rfl rfl (Nat.le_of_ble_eq_true rfl) dL_law_377 ⟨Nat.le_of_ble_eq_true rfl, Nat.le_of_ble_eq_true rfl⟩ (fun H locs hI9 => ?_)
  have hS := hI9.2.2.2.2
  refine lv_icmp_eq (tgt := 1084) hx hb dL_law_380 (by decide) (fun _ => ?_) (fun c => absurd rfl c)
  exact kk _ _ hI _ _ hI9
set_option maxHeartbeats 4000000 in
set_option maxRecDepth 100000 in
theorem law_case_7 {p : Program} {l : Launch} {e : Env} {s : State} {m : MethodId} {below : List Frame} {meth : Method} {c : Code} {D : va_G} {cI cZ : ClassId} {adc adm aS : Nat → Nat} {b L : Nat} {xs : Nat → Int32} (hL : L ≤ 448) (C0 : lw_At p s m meth c b L xs) (hK : va_K D vwCl [(cI, .int), (cZ, .boolean)] s) (hXs : xL aS s) {k : Nat} {x3 : Int32} (ex3 : x3 = nI k) (hk : k + 6 < L) {M J : Mem} (hI : Inv M J) {H : Heap} {locs : List Loc} (hI9 : LW D cI cZ adc adm M J s H locs) {ls : Array Slot} (hl : lv_has ls 4 [(0, .ref b), (1, .ref (adc 0)), (2, .ref (adm 0)), (3, .int x3)])
    (kk : ∀ (M J : Mem), Inv M J → ∀ (H : Heap) (locs : List Loc), LW D cI cZ adc adm M J s H locs → W p l e room_1 s m #[Value.ref b] below meth c H locs 54 1855 (lw_Z below #[Value.ref b] s) (F0 m 1084 ls [])) : W p l e room_1 s m #[Value.ref b] below meth c H locs 54 1855 (lw_Z below #[Value.ref b] s) (F0 m 385 ls []) := by
  obtain ⟨hx, hb, hr, hml, hown, hts, hX, hbl, hlocks, hgv⟩ := C0
  replace hown : s.vm.findClass RL = some m.cls := hown
  have hbA : ¬ (fun q : Nat => s.heap.size ≤ q) b := Nat.not_le.mpr hbl
  have hX0 := xC_X D adc aS
  have hT0 : mX adm 14 (fun _ : State => True) := ⟨fun _ _ _ _ _ _ _ _ => trivial, fun _ _ _ _ _ => trivial⟩
  have hS := hI9.2.2.2.2
  refine lv_aload_n hx hb dL_law_385 rfl (lv_at hl 1 rfl) ?_
  refine lv_aload_n hx hb dL_law_386 rfl (lv_at hl 0 rfl) ?_
  refine lv_iload_n hx hb dL_law_387 rfl (lv_at hl 3 rfl) ?_
  refine lv_iconst (v := (1 : Int32)) hx hb dL_law_388 (by decide) ?_
  refine lv_iadd hx hb dL_law_389 ?_
  refine va_sld hx hb hX hbl hbA hS (law_in 1 ex3 (by omega) hL) dL_law_390 ?_
  refine lv_aload_n hx hb dL_law_391 rfl (lv_at hl 0 rfl) ?_
  refine lv_iload_n hx hb dL_law_392 rfl (lv_at hl 3 rfl) ?_
  refine lv_iconst (v := (2 : Int32)) hx hb dL_law_393 (by decide) ?_
  refine lv_iadd hx hb dL_law_394 ?_
  refine va_sld hx hb hX hbl hbA hS (law_in 2 ex3 (by omega) hL) dL_law_395 ?_
  obtain ⟨r, J1, hf, hg, hI⟩ := pu_where (xs (x3 + (1 : Int32)).toNatClampNeg) (xs (x3 + (2 : Int32)).toNatClampNeg) hI
  refine law_callC (As := [.int (xs (x3 + (1 : Int32)).toNatClampNeg), .int (xs (x3 + (2 : Int32)).toNatClampNeg)]) (st1 := [.int r]) hx hb (hml.trans hl.1.symm) hown hts hK hXs hX0 hI9 (kX4_where l D cI adc hX0 (xs (x3 + (1 : Int32)).toNatClampNeg) (xs (x3 + (2 : Int32)).toNatClampNeg)  M  _ hf) (cwV 2 hts GLX4_where rfl rfl rfl (by decide +kernel) ⟨Nat.le_of_ble_eq_true rfl, Nat.le_of_ble_eq_true rfl⟩) rfl rfl rfl (Nat.le_of_ble_eq_true rfl) dL_law_396 ⟨Nat.le_of_ble_eq_true rfl, Nat.le_of_ble_eq_true rfl⟩ (fun H locs hI9 => ?_)
  have hS := hI9.2.2.2.2
  refine lv_aload_n hx hb dL_law_399 rfl (lv_at hl 2 rfl) ?_
  refine lv_aload_n hx hb dL_law_400 rfl (lv_at hl 0 rfl) ?_
  refine lv_iload_n hx hb dL_law_401 rfl (lv_at hl 3 rfl) ?_
  refine lv_iconst (v := (1 : Int32)) hx hb dL_law_402 (by decide) ?_
  refine lv_iadd hx hb dL_law_403 ?_
  refine va_sld hx hb hX hbl hbA hS (law_in 1 ex3 (by omega) hL) dL_law_404 ?_
  refine lv_aload_n hx hb dL_law_405 rfl (lv_at hl 0 rfl) ?_
  refine lv_iload_n hx hb dL_law_406 rfl (lv_at hl 3 rfl) ?_
  refine lv_iconst (v := (2 : Int32)) hx hb dL_law_407 (by decide) ?_
  refine lv_iadd hx hb dL_law_408 ?_
  refine va_sld hx hb hX hbl hbA hS (law_in 2 ex3 (by omega) hL) dL_law_409 ?_
  refine law_callM (As := [.int (xs (x3 + (1 : Int32)).toNatClampNeg), .int (xs (x3 + (2 : Int32)).toNatClampNeg)]) (st1 := [.int r, .int r]) hx hb (hml.trans hl.1.symm) hown hts hK  hI9 (kX5_where l D cI cZ adm hT0 (xs (x3 + (1 : Int32)).toNatClampNeg) (xs (x3 + (2 : Int32)).toNatClampNeg)  J  _ hg) (cwV 2 hts GLX5_where rfl rfl rfl (by decide +kernel) ⟨Nat.le_of_ble_eq_true rfl, Nat.le_of_ble_eq_true rfl⟩) rfl rfl rfl (Nat.le_of_ble_eq_true rfl) dL_law_410 ⟨Nat.le_of_ble_eq_true rfl, Nat.le_of_ble_eq_true rfl⟩ (fun H locs hI9 => ?_)
  have hS := hI9.2.2.2.2
  refine lv_icmp_eq (tgt := 1084) hx hb dL_law_413 (by decide) (fun _ => ?_) (fun c => absurd rfl c)
  exact kk _ _ hI _ _ hI9
set_option maxHeartbeats 4000000 in
set_option maxRecDepth 100000 in
theorem law_case_8 {p : Program} {l : Launch} {e : Env} {s : State} {m : MethodId} {below : List Frame} {meth : Method} {c : Code} {D : va_G} {cI cZ : ClassId} {adc adm aS : Nat → Nat} {b L : Nat} {xs : Nat → Int32} (hL : L ≤ 448) (C0 : lw_At p s m meth c b L xs) (hK : va_K D vwCl [(cI, .int), (cZ, .boolean)] s) (hXs : xL aS s) {k : Nat} {x3 : Int32} (ex3 : x3 = nI k) (hk : k + 6 < L) {M J : Mem} (hI : Inv M J) {H : Heap} {locs : List Loc} (hI9 : LW D cI cZ adc adm M J s H locs) {ls : Array Slot} (hl : lv_has ls 4 [(0, .ref b), (1, .ref (adc 0)), (2, .ref (adm 0)), (3, .int x3)])
    (kk : ∀ (M J : Mem), Inv M J → ∀ (H : Heap) (locs : List Loc), LW D cI cZ adc adm M J s H locs → W p l e room_1 s m #[Value.ref b] below meth c H locs 54 1855 (lw_Z below #[Value.ref b] s) (F0 m 1084 ls [])) : W p l e room_1 s m #[Value.ref b] below meth c H locs 54 1855 (lw_Z below #[Value.ref b] s) (F0 m 418 ls []) := by
  obtain ⟨hx, hb, hr, hml, hown, hts, hX, hbl, hlocks, hgv⟩ := C0
  replace hown : s.vm.findClass RL = some m.cls := hown
  have hbA : ¬ (fun q : Nat => s.heap.size ≤ q) b := Nat.not_le.mpr hbl
  have hX0 := xC_X D adc aS
  have hT0 : mX adm 14 (fun _ : State => True) := ⟨fun _ _ _ _ _ _ _ _ => trivial, fun _ _ _ _ _ => trivial⟩
  have hS := hI9.2.2.2.2
  refine lv_aload_n hx hb dL_law_418 rfl (lv_at hl 1 rfl) ?_
  refine lv_aload_n hx hb dL_law_419 rfl (lv_at hl 0 rfl) ?_
  refine lv_iload_n hx hb dL_law_420 rfl (lv_at hl 3 rfl) ?_
  refine lv_iconst (v := (1 : Int32)) hx hb dL_law_421 (by decide) ?_
  refine lv_iadd hx hb dL_law_422 ?_
  refine va_sld hx hb hX hbl hbA hS (law_in 1 ex3 (by omega) hL) dL_law_423 ?_
  refine lv_aload_n hx hb dL_law_424 rfl (lv_at hl 0 rfl) ?_
  refine lv_iload_n hx hb dL_law_425 rfl (lv_at hl 3 rfl) ?_
  refine lv_iconst (v := (2 : Int32)) hx hb dL_law_426 (by decide) ?_
  refine lv_iadd hx hb dL_law_427 ?_
  refine va_sld hx hb hX hbl hbA hS (law_in 2 ex3 (by omega) hL) dL_law_428 ?_
  obtain ⟨r, J1, hf, hg, hI⟩ := pu_off (xs (x3 + (1 : Int32)).toNatClampNeg) (xs (x3 + (2 : Int32)).toNatClampNeg) hI
  refine law_callC (As := [.int (xs (x3 + (1 : Int32)).toNatClampNeg), .int (xs (x3 + (2 : Int32)).toNatClampNeg)]) (st1 := [.int r]) hx hb (hml.trans hl.1.symm) hown hts hK hXs hX0 hI9 (kX4_off l D cI adc hX0 (xs (x3 + (1 : Int32)).toNatClampNeg) (xs (x3 + (2 : Int32)).toNatClampNeg)  M  _ hf) (cwV 2 hts GLX4_off rfl rfl rfl (by decide +kernel) ⟨Nat.le_of_ble_eq_true rfl, Nat.le_of_ble_eq_true rfl⟩) rfl rfl rfl (Nat.le_of_ble_eq_true rfl) dL_law_429 ⟨Nat.le_of_ble_eq_true rfl, Nat.le_of_ble_eq_true rfl⟩ (fun H locs hI9 => ?_)
  have hS := hI9.2.2.2.2
  refine lv_aload_n hx hb dL_law_432 rfl (lv_at hl 2 rfl) ?_
  refine lv_aload_n hx hb dL_law_433 rfl (lv_at hl 0 rfl) ?_
  refine lv_iload_n hx hb dL_law_434 rfl (lv_at hl 3 rfl) ?_
  refine lv_iconst (v := (1 : Int32)) hx hb dL_law_435 (by decide) ?_
  refine lv_iadd hx hb dL_law_436 ?_
  refine va_sld hx hb hX hbl hbA hS (law_in 1 ex3 (by omega) hL) dL_law_437 ?_
  refine lv_aload_n hx hb dL_law_438 rfl (lv_at hl 0 rfl) ?_
  refine lv_iload_n hx hb dL_law_439 rfl (lv_at hl 3 rfl) ?_
  refine lv_iconst (v := (2 : Int32)) hx hb dL_law_440 (by decide) ?_
  refine lv_iadd hx hb dL_law_441 ?_
  refine va_sld hx hb hX hbl hbA hS (law_in 2 ex3 (by omega) hL) dL_law_442 ?_
  refine law_callM (As := [.int (xs (x3 + (1 : Int32)).toNatClampNeg), .int (xs (x3 + (2 : Int32)).toNatClampNeg)]) (st1 := [.int r, .int r]) hx hb (hml.trans hl.1.symm) hown hts hK  hI9 (kX5_off l D cI cZ adm hT0 (xs (x3 + (1 : Int32)).toNatClampNeg) (xs (x3 + (2 : Int32)).toNatClampNeg)  J  _ hg) (cwV 2 hts GLX5_off rfl rfl rfl (by decide +kernel) ⟨Nat.le_of_ble_eq_true rfl, Nat.le_of_ble_eq_true rfl⟩) rfl rfl rfl (Nat.le_of_ble_eq_true rfl) dL_law_443 ⟨Nat.le_of_ble_eq_true rfl, Nat.le_of_ble_eq_true rfl⟩ (fun H locs hI9 => ?_)
  have hS := hI9.2.2.2.2
  refine lv_icmp_eq (tgt := 1084) hx hb dL_law_446 (by decide) (fun _ => ?_) (fun c => absurd rfl c)
  exact kk _ _ hI _ _ hI9
set_option maxHeartbeats 4000000 in
set_option maxRecDepth 100000 in
theorem law_case_9 {p : Program} {l : Launch} {e : Env} {s : State} {m : MethodId} {below : List Frame} {meth : Method} {c : Code} {D : va_G} {cI cZ : ClassId} {adc adm aS : Nat → Nat} {b L : Nat} {xs : Nat → Int32} (hL : L ≤ 448) (C0 : lw_At p s m meth c b L xs) (hK : va_K D vwCl [(cI, .int), (cZ, .boolean)] s) (hXs : xL aS s) {k : Nat} {x3 : Int32} (ex3 : x3 = nI k) (hk : k + 6 < L) {M J : Mem} (hI : Inv M J) {H : Heap} {locs : List Loc} (hI9 : LW D cI cZ adc adm M J s H locs) {ls : Array Slot} (hl : lv_has ls 4 [(0, .ref b), (1, .ref (adc 0)), (2, .ref (adm 0)), (3, .int x3)])
    (kk : ∀ (M J : Mem), Inv M J → ∀ (H : Heap) (locs : List Loc), LW D cI cZ adc adm M J s H locs → W p l e room_1 s m #[Value.ref b] below meth c H locs 54 1855 (lw_Z below #[Value.ref b] s) (F0 m 1084 ls [])) : W p l e room_1 s m #[Value.ref b] below meth c H locs 54 1855 (lw_Z below #[Value.ref b] s) (F0 m 451 ls []) := by
  obtain ⟨hx, hb, hr, hml, hown, hts, hX, hbl, hlocks, hgv⟩ := C0
  replace hown : s.vm.findClass RL = some m.cls := hown
  have hbA : ¬ (fun q : Nat => s.heap.size ≤ q) b := Nat.not_le.mpr hbl
  have hX0 := xC_X D adc aS
  have hT0 : mX adm 14 (fun _ : State => True) := ⟨fun _ _ _ _ _ _ _ _ => trivial, fun _ _ _ _ _ => trivial⟩
  have hS := hI9.2.2.2.2
  refine lv_aload_n hx hb dL_law_451 rfl (lv_at hl 1 rfl) ?_
  refine lv_aload_n hx hb dL_law_452 rfl (lv_at hl 0 rfl) ?_
  refine lv_iload_n hx hb dL_law_453 rfl (lv_at hl 3 rfl) ?_
  refine lv_iconst (v := (1 : Int32)) hx hb dL_law_454 (by decide) ?_
  refine lv_iadd hx hb dL_law_455 ?_
  refine va_sld hx hb hX hbl hbA hS (law_in 1 ex3 (by omega) hL) dL_law_456 ?_
  refine lv_aload_n hx hb dL_law_457 rfl (lv_at hl 0 rfl) ?_
  refine lv_iload_n hx hb dL_law_458 rfl (lv_at hl 3 rfl) ?_
  refine lv_iconst (v := (2 : Int32)) hx hb dL_law_459 (by decide) ?_
  refine lv_iadd hx hb dL_law_460 ?_
  refine va_sld hx hb hX hbl hbA hS (law_in 2 ex3 (by omega) hL) dL_law_461 ?_
  obtain ⟨r, J1, hf, hg, hI⟩ := pu_clock (xs (x3 + (1 : Int32)).toNatClampNeg) (xs (x3 + (2 : Int32)).toNatClampNeg) hI
  refine law_callC (As := [.int (xs (x3 + (1 : Int32)).toNatClampNeg), .int (xs (x3 + (2 : Int32)).toNatClampNeg)]) (st1 := [.int r]) hx hb (hml.trans hl.1.symm) hown hts hK hXs hX0 hI9 (kX4_clock l D cI adc hX0 (xs (x3 + (1 : Int32)).toNatClampNeg) (xs (x3 + (2 : Int32)).toNatClampNeg)  M  _ hf) (cwV 2 hts GLX4_clock rfl rfl rfl (by decide +kernel) ⟨Nat.le_of_ble_eq_true rfl, Nat.le_of_ble_eq_true rfl⟩) rfl rfl rfl (Nat.le_of_ble_eq_true rfl) dL_law_462 ⟨Nat.le_of_ble_eq_true rfl, Nat.le_of_ble_eq_true rfl⟩ (fun H locs hI9 => ?_)
  have hS := hI9.2.2.2.2
  refine lv_aload_n hx hb dL_law_465 rfl (lv_at hl 2 rfl) ?_
  refine lv_aload_n hx hb dL_law_466 rfl (lv_at hl 0 rfl) ?_
  refine lv_iload_n hx hb dL_law_467 rfl (lv_at hl 3 rfl) ?_
  refine lv_iconst (v := (1 : Int32)) hx hb dL_law_468 (by decide) ?_
  refine lv_iadd hx hb dL_law_469 ?_
  refine va_sld hx hb hX hbl hbA hS (law_in 1 ex3 (by omega) hL) dL_law_470 ?_
  refine lv_aload_n hx hb dL_law_471 rfl (lv_at hl 0 rfl) ?_
  refine lv_iload_n hx hb dL_law_472 rfl (lv_at hl 3 rfl) ?_
  refine lv_iconst (v := (2 : Int32)) hx hb dL_law_473 (by decide) ?_
  refine lv_iadd hx hb dL_law_474 ?_
  refine va_sld hx hb hX hbl hbA hS (law_in 2 ex3 (by omega) hL) dL_law_475 ?_
  refine law_callM (As := [.int (xs (x3 + (1 : Int32)).toNatClampNeg), .int (xs (x3 + (2 : Int32)).toNatClampNeg)]) (st1 := [.int r, .int r]) hx hb (hml.trans hl.1.symm) hown hts hK  hI9 (kX5_clock l D cI cZ adm hT0 (xs (x3 + (1 : Int32)).toNatClampNeg) (xs (x3 + (2 : Int32)).toNatClampNeg)  J  _ hg) (cwV 2 hts GLX5_clock rfl rfl rfl (by decide +kernel) ⟨Nat.le_of_ble_eq_true rfl, Nat.le_of_ble_eq_true rfl⟩) rfl rfl rfl (Nat.le_of_ble_eq_true rfl) dL_law_476 ⟨Nat.le_of_ble_eq_true rfl, Nat.le_of_ble_eq_true rfl⟩ (fun H locs hI9 => ?_)
  have hS := hI9.2.2.2.2
  refine lv_icmp_eq (tgt := 1084) hx hb dL_law_479 (by decide) (fun _ => ?_) (fun c => absurd rfl c)
  exact kk _ _ hI _ _ hI9
set_option maxHeartbeats 4000000 in
set_option maxRecDepth 100000 in
theorem law_case_10 {p : Program} {l : Launch} {e : Env} {s : State} {m : MethodId} {below : List Frame} {meth : Method} {c : Code} {D : va_G} {cI cZ : ClassId} {adc adm aS : Nat → Nat} {b L : Nat} {xs : Nat → Int32} (hL : L ≤ 448) (C0 : lw_At p s m meth c b L xs) (hK : va_K D vwCl [(cI, .int), (cZ, .boolean)] s) (hXs : xL aS s) {k : Nat} {x3 : Int32} (ex3 : x3 = nI k) (hk : k + 6 < L) {M J : Mem} (hI : Inv M J) {H : Heap} {locs : List Loc} (hI9 : LW D cI cZ adc adm M J s H locs) {ls : Array Slot} (hl : lv_has ls 4 [(0, .ref b), (1, .ref (adc 0)), (2, .ref (adm 0)), (3, .int x3)])
    (kk : ∀ (M J : Mem), Inv M J → ∀ (H : Heap) (locs : List Loc), LW D cI cZ adc adm M J s H locs → W p l e room_1 s m #[Value.ref b] below meth c H locs 54 1855 (lw_Z below #[Value.ref b] s) (F0 m 1084 ls [])) : W p l e room_1 s m #[Value.ref b] below meth c H locs 54 1855 (lw_Z below #[Value.ref b] s) (F0 m 484 ls []) := by
  obtain ⟨hx, hb, hr, hml, hown, hts, hX, hbl, hlocks, hgv⟩ := C0
  replace hown : s.vm.findClass RL = some m.cls := hown
  have hbA : ¬ (fun q : Nat => s.heap.size ≤ q) b := Nat.not_le.mpr hbl
  have hX0 := xC_X D adc aS
  have hT0 : mX adm 14 (fun _ : State => True) := ⟨fun _ _ _ _ _ _ _ _ => trivial, fun _ _ _ _ _ => trivial⟩
  have hS := hI9.2.2.2.2
  refine lv_aload_n hx hb dL_law_484 rfl (lv_at hl 1 rfl) ?_
  refine lv_aload_n hx hb dL_law_485 rfl (lv_at hl 0 rfl) ?_
  refine lv_iload_n hx hb dL_law_486 rfl (lv_at hl 3 rfl) ?_
  refine lv_iconst (v := (1 : Int32)) hx hb dL_law_487 (by decide) ?_
  refine lv_iadd hx hb dL_law_488 ?_
  refine va_sld hx hb hX hbl hbA hS (law_in 1 ex3 (by omega) hL) dL_law_489 ?_
  refine lv_aload_n hx hb dL_law_490 rfl (lv_at hl 0 rfl) ?_
  refine lv_iload_n hx hb dL_law_491 rfl (lv_at hl 3 rfl) ?_
  refine lv_iconst (v := (2 : Int32)) hx hb dL_law_492 (by decide) ?_
  refine lv_iadd hx hb dL_law_493 ?_
  refine va_sld hx hb hX hbl hbA hS (law_in 2 ex3 (by omega) hL) dL_law_494 ?_
  obtain ⟨r, J1, hf, hg, hI⟩ := pu_light (xs (x3 + (1 : Int32)).toNatClampNeg) (xs (x3 + (2 : Int32)).toNatClampNeg) hI
  refine law_callC (As := [.int (xs (x3 + (1 : Int32)).toNatClampNeg), .int (xs (x3 + (2 : Int32)).toNatClampNeg)]) (st1 := [.int r]) hx hb (hml.trans hl.1.symm) hown hts hK hXs hX0 hI9 (kX4_light l D cI adc hX0 (xs (x3 + (1 : Int32)).toNatClampNeg) (xs (x3 + (2 : Int32)).toNatClampNeg)  M  _ hf) (cwV 2 hts GLX4_light rfl rfl rfl (by decide +kernel) ⟨Nat.le_of_ble_eq_true rfl, Nat.le_of_ble_eq_true rfl⟩) rfl rfl rfl (Nat.le_of_ble_eq_true rfl) dL_law_495 ⟨Nat.le_of_ble_eq_true rfl, Nat.le_of_ble_eq_true rfl⟩ (fun H locs hI9 => ?_)
  have hS := hI9.2.2.2.2
  refine lv_aload_n hx hb dL_law_498 rfl (lv_at hl 2 rfl) ?_
  refine lv_aload_n hx hb dL_law_499 rfl (lv_at hl 0 rfl) ?_
  refine lv_iload_n hx hb dL_law_500 rfl (lv_at hl 3 rfl) ?_
  refine lv_iconst (v := (1 : Int32)) hx hb dL_law_501 (by decide) ?_
  refine lv_iadd hx hb dL_law_502 ?_
  refine va_sld hx hb hX hbl hbA hS (law_in 1 ex3 (by omega) hL) dL_law_503 ?_
  refine lv_aload_n hx hb dL_law_504 rfl (lv_at hl 0 rfl) ?_
  refine lv_iload_n hx hb dL_law_505 rfl (lv_at hl 3 rfl) ?_
  refine lv_iconst (v := (2 : Int32)) hx hb dL_law_506 (by decide) ?_
  refine lv_iadd hx hb dL_law_507 ?_
  refine va_sld hx hb hX hbl hbA hS (law_in 2 ex3 (by omega) hL) dL_law_508 ?_
  refine law_callM (As := [.int (xs (x3 + (1 : Int32)).toNatClampNeg), .int (xs (x3 + (2 : Int32)).toNatClampNeg)]) (st1 := [.int r, .int r]) hx hb (hml.trans hl.1.symm) hown hts hK  hI9 (kX5_light l D cI cZ adm hT0 (xs (x3 + (1 : Int32)).toNatClampNeg) (xs (x3 + (2 : Int32)).toNatClampNeg)  J  _ hg) (cwV 2 hts GLX5_light rfl rfl rfl (by decide +kernel) ⟨Nat.le_of_ble_eq_true rfl, Nat.le_of_ble_eq_true rfl⟩) rfl rfl rfl (Nat.le_of_ble_eq_true rfl) dL_law_509 ⟨Nat.le_of_ble_eq_true rfl, Nat.le_of_ble_eq_true rfl⟩ (fun H locs hI9 => ?_)
  have hS := hI9.2.2.2.2
  refine lv_icmp_eq (tgt := 1084) hx hb dL_law_512 (by decide) (fun _ => ?_) (fun c => absurd rfl c)
  exact kk _ _ hI _ _ hI9
set_option maxHeartbeats 4000000 in
set_option maxRecDepth 100000 in
theorem law_case_11 {p : Program} {l : Launch} {e : Env} {s : State} {m : MethodId} {below : List Frame} {meth : Method} {c : Code} {D : va_G} {cI cZ : ClassId} {adc adm aS : Nat → Nat} {b L : Nat} {xs : Nat → Int32} (hL : L ≤ 448) (C0 : lw_At p s m meth c b L xs) (hK : va_K D vwCl [(cI, .int), (cZ, .boolean)] s) (hXs : xL aS s) {k : Nat} {x3 : Int32} (ex3 : x3 = nI k) (hk : k + 6 < L) {M J : Mem} (hI : Inv M J) {H : Heap} {locs : List Loc} (hI9 : LW D cI cZ adc adm M J s H locs) {ls : Array Slot} (hl : lv_has ls 4 [(0, .ref b), (1, .ref (adc 0)), (2, .ref (adm 0)), (3, .int x3)])
    (kk : ∀ (M J : Mem), Inv M J → ∀ (H : Heap) (locs : List Loc), LW D cI cZ adc adm M J s H locs → W p l e room_1 s m #[Value.ref b] below meth c H locs 54 1855 (lw_Z below #[Value.ref b] s) (F0 m 1084 ls [])) : W p l e room_1 s m #[Value.ref b] below meth c H locs 54 1855 (lw_Z below #[Value.ref b] s) (F0 m 517 ls []) := by
  obtain ⟨hx, hb, hr, hml, hown, hts, hX, hbl, hlocks, hgv⟩ := C0
  replace hown : s.vm.findClass RL = some m.cls := hown
  have hbA : ¬ (fun q : Nat => s.heap.size ≤ q) b := Nat.not_le.mpr hbl
  have hX0 := xC_X D adc aS
  have hT0 : mX adm 14 (fun _ : State => True) := ⟨fun _ _ _ _ _ _ _ _ => trivial, fun _ _ _ _ _ => trivial⟩
  have hS := hI9.2.2.2.2
  refine lv_aload_n hx hb dL_law_517 rfl (lv_at hl 1 rfl) ?_
  refine lv_aload_n hx hb dL_law_518 rfl (lv_at hl 0 rfl) ?_
  refine lv_iload_n hx hb dL_law_519 rfl (lv_at hl 3 rfl) ?_
  refine lv_iconst (v := (1 : Int32)) hx hb dL_law_520 (by decide) ?_
  refine lv_iadd hx hb dL_law_521 ?_
  refine va_sld hx hb hX hbl hbA hS (law_in 1 ex3 (by omega) hL) dL_law_522 ?_
  refine lv_aload_n hx hb dL_law_523 rfl (lv_at hl 0 rfl) ?_
  refine lv_iload_n hx hb dL_law_524 rfl (lv_at hl 3 rfl) ?_
  refine lv_iconst (v := (2 : Int32)) hx hb dL_law_525 (by decide) ?_
  refine lv_iadd hx hb dL_law_526 ?_
  refine va_sld hx hb hX hbl hbA hS (law_in 2 ex3 (by omega) hL) dL_law_527 ?_
  obtain ⟨r, J1, hf, hg, hI⟩ := pu_pace (xs (x3 + (1 : Int32)).toNatClampNeg) (xs (x3 + (2 : Int32)).toNatClampNeg) hI
  refine law_callC (As := [.int (xs (x3 + (1 : Int32)).toNatClampNeg), .int (xs (x3 + (2 : Int32)).toNatClampNeg)]) (st1 := [.int r]) hx hb (hml.trans hl.1.symm) hown hts hK hXs hX0 hI9 (kX4_pace l D cI adc hX0 (xs (x3 + (1 : Int32)).toNatClampNeg) (xs (x3 + (2 : Int32)).toNatClampNeg)  M  _ hf) (cwV 2 hts GLX4_pace rfl rfl rfl (by decide +kernel) ⟨Nat.le_of_ble_eq_true rfl, Nat.le_of_ble_eq_true rfl⟩) rfl rfl rfl (Nat.le_of_ble_eq_true rfl) dL_law_528 ⟨Nat.le_of_ble_eq_true rfl, Nat.le_of_ble_eq_true rfl⟩ (fun H locs hI9 => ?_)
  have hS := hI9.2.2.2.2
  refine lv_aload_n hx hb dL_law_531 rfl (lv_at hl 2 rfl) ?_
  refine lv_aload_n hx hb dL_law_532 rfl (lv_at hl 0 rfl) ?_
  refine lv_iload_n hx hb dL_law_533 rfl (lv_at hl 3 rfl) ?_
  refine lv_iconst (v := (1 : Int32)) hx hb dL_law_534 (by decide) ?_
  refine lv_iadd hx hb dL_law_535 ?_
  refine va_sld hx hb hX hbl hbA hS (law_in 1 ex3 (by omega) hL) dL_law_536 ?_
  refine lv_aload_n hx hb dL_law_537 rfl (lv_at hl 0 rfl) ?_
  refine lv_iload_n hx hb dL_law_538 rfl (lv_at hl 3 rfl) ?_
  refine lv_iconst (v := (2 : Int32)) hx hb dL_law_539 (by decide) ?_
  refine lv_iadd hx hb dL_law_540 ?_
  refine va_sld hx hb hX hbl hbA hS (law_in 2 ex3 (by omega) hL) dL_law_541 ?_
  refine law_callM (As := [.int (xs (x3 + (1 : Int32)).toNatClampNeg), .int (xs (x3 + (2 : Int32)).toNatClampNeg)]) (st1 := [.int r, .int r]) hx hb (hml.trans hl.1.symm) hown hts hK  hI9 (kX5_pace l D cI cZ adm hT0 (xs (x3 + (1 : Int32)).toNatClampNeg) (xs (x3 + (2 : Int32)).toNatClampNeg)  J  _ hg) (cwV 2 hts GLX5_pace rfl rfl rfl (by decide +kernel) ⟨Nat.le_of_ble_eq_true rfl, Nat.le_of_ble_eq_true rfl⟩) rfl rfl rfl (Nat.le_of_ble_eq_true rfl) dL_law_542 ⟨Nat.le_of_ble_eq_true rfl, Nat.le_of_ble_eq_true rfl⟩ (fun H locs hI9 => ?_)
  have hS := hI9.2.2.2.2
  refine lv_icmp_eq (tgt := 1084) hx hb dL_law_545 (by decide) (fun _ => ?_) (fun c => absurd rfl c)
  exact kk _ _ hI _ _ hI9
set_option maxHeartbeats 4000000 in
set_option maxRecDepth 100000 in
theorem law_case_12 {p : Program} {l : Launch} {e : Env} {s : State} {m : MethodId} {below : List Frame} {meth : Method} {c : Code} {D : va_G} {cI cZ : ClassId} {adc adm aS : Nat → Nat} {b L : Nat} {xs : Nat → Int32} (hL : L ≤ 448) (C0 : lw_At p s m meth c b L xs) (hK : va_K D vwCl [(cI, .int), (cZ, .boolean)] s) (hXs : xL aS s) {k : Nat} {x3 : Int32} (ex3 : x3 = nI k) (hk : k + 6 < L) {M J : Mem} (hI : Inv M J) {H : Heap} {locs : List Loc} (hI9 : LW D cI cZ adc adm M J s H locs) {ls : Array Slot} (hl : lv_has ls 4 [(0, .ref b), (1, .ref (adc 0)), (2, .ref (adm 0)), (3, .int x3)])
    (kk : ∀ (M J : Mem), Inv M J → ∀ (H : Heap) (locs : List Loc), LW D cI cZ adc adm M J s H locs → W p l e room_1 s m #[Value.ref b] below meth c H locs 54 1855 (lw_Z below #[Value.ref b] s) (F0 m 1084 ls [])) : W p l e room_1 s m #[Value.ref b] below meth c H locs 54 1855 (lw_Z below #[Value.ref b] s) (F0 m 550 ls []) := by
  obtain ⟨hx, hb, hr, hml, hown, hts, hX, hbl, hlocks, hgv⟩ := C0
  replace hown : s.vm.findClass RL = some m.cls := hown
  have hbA : ¬ (fun q : Nat => s.heap.size ≤ q) b := Nat.not_le.mpr hbl
  have hX0 := xC_X D adc aS
  have hT0 : mX adm 14 (fun _ : State => True) := ⟨fun _ _ _ _ _ _ _ _ => trivial, fun _ _ _ _ _ => trivial⟩
  have hS := hI9.2.2.2.2
  refine lv_aload_n hx hb dL_law_550 rfl (lv_at hl 1 rfl) ?_
  refine lv_aload_n hx hb dL_law_551 rfl (lv_at hl 0 rfl) ?_
  refine lv_iload_n hx hb dL_law_552 rfl (lv_at hl 3 rfl) ?_
  refine lv_iconst (v := (1 : Int32)) hx hb dL_law_553 (by decide) ?_
  refine lv_iadd hx hb dL_law_554 ?_
  refine va_sld hx hb hX hbl hbA hS (law_in 1 ex3 (by omega) hL) dL_law_555 ?_
  refine lv_aload_n hx hb dL_law_556 rfl (lv_at hl 0 rfl) ?_
  refine lv_iload_n hx hb dL_law_557 rfl (lv_at hl 3 rfl) ?_
  refine lv_iconst (v := (2 : Int32)) hx hb dL_law_558 (by decide) ?_
  refine lv_iadd hx hb dL_law_559 ?_
  refine va_sld hx hb hX hbl hbA hS (law_in 2 ex3 (by omega) hL) dL_law_560 ?_
  refine lv_aload_n hx hb dL_law_561 rfl (lv_at hl 0 rfl) ?_
  refine lv_iload_n hx hb dL_law_562 rfl (lv_at hl 3 rfl) ?_
  refine lv_iconst (v := (3 : Int32)) hx hb dL_law_563 (by decide) ?_
  refine lv_iadd hx hb dL_law_564 ?_
  refine va_sld hx hb hX hbl hbA hS (law_in 3 ex3 (by omega) hL) dL_law_565 ?_
  obtain ⟨r, J1, hf, hg, hI⟩ := pu_early (xs (x3 + (1 : Int32)).toNatClampNeg) (xs (x3 + (2 : Int32)).toNatClampNeg) (xs (x3 + (3 : Int32)).toNatClampNeg) hI
  refine law_callC (As := [.int (xs (x3 + (1 : Int32)).toNatClampNeg), .int (xs (x3 + (2 : Int32)).toNatClampNeg), .int (xs (x3 + (3 : Int32)).toNatClampNeg)]) (st1 := [.int r]) hx hb (hml.trans hl.1.symm) hown hts hK hXs hX0 hI9 (kX4_early l D cI adc hX0 (xs (x3 + (1 : Int32)).toNatClampNeg) (xs (x3 + (2 : Int32)).toNatClampNeg) (xs (x3 + (3 : Int32)).toNatClampNeg)  M  _ hf) (cwV 3 hts GLX4_early rfl rfl rfl (by decide +kernel) ⟨Nat.le_of_ble_eq_true rfl, Nat.le_of_ble_eq_true rfl⟩) rfl rfl rfl (Nat.le_of_ble_eq_true rfl) dL_law_566 ⟨Nat.le_of_ble_eq_true rfl, Nat.le_of_ble_eq_true rfl⟩ (fun H locs hI9 => ?_)
  have hS := hI9.2.2.2.2
  refine lv_aload_n hx hb dL_law_569 rfl (lv_at hl 2 rfl) ?_
  refine lv_aload_n hx hb dL_law_570 rfl (lv_at hl 0 rfl) ?_
  refine lv_iload_n hx hb dL_law_571 rfl (lv_at hl 3 rfl) ?_
  refine lv_iconst (v := (1 : Int32)) hx hb dL_law_572 (by decide) ?_
  refine lv_iadd hx hb dL_law_573 ?_
  refine va_sld hx hb hX hbl hbA hS (law_in 1 ex3 (by omega) hL) dL_law_574 ?_
  refine lv_aload_n hx hb dL_law_575 rfl (lv_at hl 0 rfl) ?_
  refine lv_iload_n hx hb dL_law_576 rfl (lv_at hl 3 rfl) ?_
  refine lv_iconst (v := (2 : Int32)) hx hb dL_law_577 (by decide) ?_
  refine lv_iadd hx hb dL_law_578 ?_
  refine va_sld hx hb hX hbl hbA hS (law_in 2 ex3 (by omega) hL) dL_law_579 ?_
  refine lv_aload_n hx hb dL_law_580 rfl (lv_at hl 0 rfl) ?_
  refine lv_iload_n hx hb dL_law_581 rfl (lv_at hl 3 rfl) ?_
  refine lv_iconst (v := (3 : Int32)) hx hb dL_law_582 (by decide) ?_
  refine lv_iadd hx hb dL_law_583 ?_
  refine va_sld hx hb hX hbl hbA hS (law_in 3 ex3 (by omega) hL) dL_law_584 ?_
  refine law_callM (As := [.int (xs (x3 + (1 : Int32)).toNatClampNeg), .int (xs (x3 + (2 : Int32)).toNatClampNeg), .int (xs (x3 + (3 : Int32)).toNatClampNeg)]) (st1 := [.int r, .int r]) hx hb (hml.trans hl.1.symm) hown hts hK  hI9 (kX5_early l D cI cZ adm hT0 (xs (x3 + (1 : Int32)).toNatClampNeg) (xs (x3 + (2 : Int32)).toNatClampNeg) (xs (x3 + (3 : Int32)).toNatClampNeg)  J  _ hg) (cwV 3 hts GLX5_early rfl rfl rfl (by decide +kernel) ⟨Nat.le_of_ble_eq_true rfl, Nat.le_of_ble_eq_true rfl⟩) rfl rfl rfl (Nat.le_of_ble_eq_true rfl) dL_law_585 ⟨Nat.le_of_ble_eq_true rfl, Nat.le_of_ble_eq_true rfl⟩ (fun H locs hI9 => ?_)
  have hS := hI9.2.2.2.2
  refine lv_icmp_eq (tgt := 1084) hx hb dL_law_588 (by decide) (fun _ => ?_) (fun c => absurd rfl c)
  exact kk _ _ hI _ _ hI9
set_option maxHeartbeats 4000000 in
set_option maxRecDepth 100000 in
theorem law_case_13 {p : Program} {l : Launch} {e : Env} {s : State} {m : MethodId} {below : List Frame} {meth : Method} {c : Code} {D : va_G} {cI cZ : ClassId} {adc adm aS : Nat → Nat} {b L : Nat} {xs : Nat → Int32} (hL : L ≤ 448) (C0 : lw_At p s m meth c b L xs) (hK : va_K D vwCl [(cI, .int), (cZ, .boolean)] s) (hXs : xL aS s) {k : Nat} {x3 : Int32} (ex3 : x3 = nI k) (hk : k + 6 < L) {M J : Mem} (hI : Inv M J) {H : Heap} {locs : List Loc} (hI9 : LW D cI cZ adc adm M J s H locs) {ls : Array Slot} (hl : lv_has ls 4 [(0, .ref b), (1, .ref (adc 0)), (2, .ref (adm 0)), (3, .int x3)])
    (kk : ∀ (M J : Mem), Inv M J → ∀ (H : Heap) (locs : List Loc), LW D cI cZ adc adm M J s H locs → W p l e room_1 s m #[Value.ref b] below meth c H locs 54 1855 (lw_Z below #[Value.ref b] s) (F0 m 1084 ls [])) : W p l e room_1 s m #[Value.ref b] below meth c H locs 54 1855 (lw_Z below #[Value.ref b] s) (F0 m 593 ls []) := by
  obtain ⟨hx, hb, hr, hml, hown, hts, hX, hbl, hlocks, hgv⟩ := C0
  replace hown : s.vm.findClass RL = some m.cls := hown
  have hbA : ¬ (fun q : Nat => s.heap.size ≤ q) b := Nat.not_le.mpr hbl
  have hX0 := xC_X D adc aS
  have hT0 : mX adm 14 (fun _ : State => True) := ⟨fun _ _ _ _ _ _ _ _ => trivial, fun _ _ _ _ _ => trivial⟩
  have hS := hI9.2.2.2.2
  refine lv_aload_n hx hb dL_law_593 rfl (lv_at hl 1 rfl) ?_
  refine lv_aload_n hx hb dL_law_594 rfl (lv_at hl 0 rfl) ?_
  refine lv_iload_n hx hb dL_law_595 rfl (lv_at hl 3 rfl) ?_
  refine lv_iconst (v := (1 : Int32)) hx hb dL_law_596 (by decide) ?_
  refine lv_iadd hx hb dL_law_597 ?_
  refine va_sld hx hb hX hbl hbA hS (law_in 1 ex3 (by omega) hL) dL_law_598 ?_
  refine lv_aload_n hx hb dL_law_599 rfl (lv_at hl 0 rfl) ?_
  refine lv_iload_n hx hb dL_law_600 rfl (lv_at hl 3 rfl) ?_
  refine lv_iconst (v := (2 : Int32)) hx hb dL_law_601 (by decide) ?_
  refine lv_iadd hx hb dL_law_602 ?_
  refine va_sld hx hb hX hbl hbA hS (law_in 2 ex3 (by omega) hL) dL_law_603 ?_
  refine lv_aload_n hx hb dL_law_604 rfl (lv_at hl 0 rfl) ?_
  refine lv_iload_n hx hb dL_law_605 rfl (lv_at hl 3 rfl) ?_
  refine lv_iconst (v := (3 : Int32)) hx hb dL_law_606 (by decide) ?_
  refine lv_iadd hx hb dL_law_607 ?_
  refine va_sld hx hb hX hbl hbA hS (law_in 3 ex3 (by omega) hL) dL_law_608 ?_
  refine lv_aload_n hx hb dL_law_609 rfl (lv_at hl 0 rfl) ?_
  refine lv_iload_n hx hb dL_law_610 rfl (lv_at hl 3 rfl) ?_
  refine lv_iconst (v := (4 : Int32)) hx hb dL_law_611 (by decide) ?_
  refine lv_iadd hx hb dL_law_612 ?_
  refine va_sld hx hb hX hbl hbA hS (law_in 4 ex3 (by omega) hL) dL_law_613 ?_
  refine lv_aload_n hx hb dL_law_614 rfl (lv_at hl 0 rfl) ?_
  refine lv_iload_n hx hb dL_law_615 rfl (lv_at hl 3 rfl) ?_
  refine lv_iconst (v := (5 : Int32)) hx hb dL_law_616 (by decide) ?_
  refine lv_iadd hx hb dL_law_617 ?_
  refine va_sld hx hb hX hbl hbA hS (law_in 5 ex3 (by omega) hL) dL_law_618 ?_
  refine lv_aload_n hx hb dL_law_619 rfl (lv_at hl 0 rfl) ?_
  refine lv_iload_n hx hb dL_law_620 rfl (lv_at hl 3 rfl) ?_
  refine lv_bipush (v := (6 : Int32)) hx hb dL_law_621 (by decide) ?_
  refine lv_iadd hx hb dL_law_623 ?_
  refine va_sld hx hb hX hbl hbA hS (law_in 6 ex3 (by omega) hL) dL_law_624 ?_
  obtain ⟨r, J1, hf, hg, hI⟩ := pu_meets (xs (x3 + (1 : Int32)).toNatClampNeg) (xs (x3 + (2 : Int32)).toNatClampNeg) (xs (x3 + (3 : Int32)).toNatClampNeg) (xs (x3 + (4 : Int32)).toNatClampNeg) (xs (x3 + (5 : Int32)).toNatClampNeg) (xs (x3 + (6 : Int32)).toNatClampNeg) hI
  refine law_callC (As := [.int (xs (x3 + (1 : Int32)).toNatClampNeg), .int (xs (x3 + (2 : Int32)).toNatClampNeg), .int (xs (x3 + (3 : Int32)).toNatClampNeg), .int (xs (x3 + (4 : Int32)).toNatClampNeg), .int (xs (x3 + (5 : Int32)).toNatClampNeg), .int (xs (x3 + (6 : Int32)).toNatClampNeg)]) (st1 := [.int r]) hx hb (hml.trans hl.1.symm) hown hts hK hXs hX0 hI9 (kX4_meets l D cI adc hX0 (xs (x3 + (1 : Int32)).toNatClampNeg) (xs (x3 + (2 : Int32)).toNatClampNeg) (xs (x3 + (3 : Int32)).toNatClampNeg) (xs (x3 + (4 : Int32)).toNatClampNeg) (xs (x3 + (5 : Int32)).toNatClampNeg) (xs (x3 + (6 : Int32)).toNatClampNeg)  M  _ hf) (cwV 6 hts GLX4_meets rfl rfl rfl (by decide +kernel) ⟨Nat.le_of_ble_eq_true rfl, Nat.le_of_ble_eq_true rfl⟩) rfl rfl rfl (Nat.le_of_ble_eq_true rfl) dL_law_625 ⟨Nat.le_of_ble_eq_true rfl, Nat.le_of_ble_eq_true rfl⟩ (fun H locs hI9 => ?_)
  have hS := hI9.2.2.2.2
  refine lv_aload_n hx hb dL_law_628 rfl (lv_at hl 2 rfl) ?_
  refine lv_aload_n hx hb dL_law_629 rfl (lv_at hl 0 rfl) ?_
  refine lv_iload_n hx hb dL_law_630 rfl (lv_at hl 3 rfl) ?_
  refine lv_iconst (v := (1 : Int32)) hx hb dL_law_631 (by decide) ?_
  refine lv_iadd hx hb dL_law_632 ?_
  refine va_sld hx hb hX hbl hbA hS (law_in 1 ex3 (by omega) hL) dL_law_633 ?_
  refine lv_aload_n hx hb dL_law_634 rfl (lv_at hl 0 rfl) ?_
  refine lv_iload_n hx hb dL_law_635 rfl (lv_at hl 3 rfl) ?_
  refine lv_iconst (v := (2 : Int32)) hx hb dL_law_636 (by decide) ?_
  refine lv_iadd hx hb dL_law_637 ?_
  refine va_sld hx hb hX hbl hbA hS (law_in 2 ex3 (by omega) hL) dL_law_638 ?_
  refine lv_aload_n hx hb dL_law_639 rfl (lv_at hl 0 rfl) ?_
  refine lv_iload_n hx hb dL_law_640 rfl (lv_at hl 3 rfl) ?_
  refine lv_iconst (v := (3 : Int32)) hx hb dL_law_641 (by decide) ?_
  refine lv_iadd hx hb dL_law_642 ?_
  refine va_sld hx hb hX hbl hbA hS (law_in 3 ex3 (by omega) hL) dL_law_643 ?_
  refine lv_aload_n hx hb dL_law_644 rfl (lv_at hl 0 rfl) ?_
  refine lv_iload_n hx hb dL_law_645 rfl (lv_at hl 3 rfl) ?_
  refine lv_iconst (v := (4 : Int32)) hx hb dL_law_646 (by decide) ?_
  refine lv_iadd hx hb dL_law_647 ?_
  refine va_sld hx hb hX hbl hbA hS (law_in 4 ex3 (by omega) hL) dL_law_648 ?_
  refine lv_aload_n hx hb dL_law_649 rfl (lv_at hl 0 rfl) ?_
  refine lv_iload_n hx hb dL_law_650 rfl (lv_at hl 3 rfl) ?_
  refine lv_iconst (v := (5 : Int32)) hx hb dL_law_651 (by decide) ?_
  refine lv_iadd hx hb dL_law_652 ?_
  refine va_sld hx hb hX hbl hbA hS (law_in 5 ex3 (by omega) hL) dL_law_653 ?_
  refine lv_aload_n hx hb dL_law_654 rfl (lv_at hl 0 rfl) ?_
  refine lv_iload_n hx hb dL_law_655 rfl (lv_at hl 3 rfl) ?_
  refine lv_bipush (v := (6 : Int32)) hx hb dL_law_656 (by decide) ?_
  refine lv_iadd hx hb dL_law_658 ?_
  refine va_sld hx hb hX hbl hbA hS (law_in 6 ex3 (by omega) hL) dL_law_659 ?_
  refine law_callM (As := [.int (xs (x3 + (1 : Int32)).toNatClampNeg), .int (xs (x3 + (2 : Int32)).toNatClampNeg), .int (xs (x3 + (3 : Int32)).toNatClampNeg), .int (xs (x3 + (4 : Int32)).toNatClampNeg), .int (xs (x3 + (5 : Int32)).toNatClampNeg), .int (xs (x3 + (6 : Int32)).toNatClampNeg)]) (st1 := [.int r, .int r]) hx hb (hml.trans hl.1.symm) hown hts hK  hI9 (kX5_meets l D cI cZ adm hT0 (xs (x3 + (1 : Int32)).toNatClampNeg) (xs (x3 + (2 : Int32)).toNatClampNeg) (xs (x3 + (3 : Int32)).toNatClampNeg) (xs (x3 + (4 : Int32)).toNatClampNeg) (xs (x3 + (5 : Int32)).toNatClampNeg) (xs (x3 + (6 : Int32)).toNatClampNeg)  J  _ hg) (cwV 6 hts GLX5_meets rfl rfl rfl (by decide +kernel) ⟨Nat.le_of_ble_eq_true rfl, Nat.le_of_ble_eq_true rfl⟩) rfl rfl rfl (Nat.le_of_ble_eq_true rfl) dL_law_660 ⟨Nat.le_of_ble_eq_true rfl, Nat.le_of_ble_eq_true rfl⟩ (fun H locs hI9 => ?_)
  have hS := hI9.2.2.2.2
  refine lv_icmp_eq (tgt := 1084) hx hb dL_law_663 (by decide) (fun _ => ?_) (fun c => absurd rfl c)
  exact kk _ _ hI _ _ hI9
set_option maxHeartbeats 4000000 in
set_option maxRecDepth 100000 in
theorem law_case_14 {p : Program} {l : Launch} {e : Env} {s : State} {m : MethodId} {below : List Frame} {meth : Method} {c : Code} {D : va_G} {cI cZ : ClassId} {adc adm aS : Nat → Nat} {b L : Nat} {xs : Nat → Int32} (hL : L ≤ 448) (C0 : lw_At p s m meth c b L xs) (hK : va_K D vwCl [(cI, .int), (cZ, .boolean)] s) (hXs : xL aS s) {k : Nat} {x3 : Int32} (ex3 : x3 = nI k) (hk : k + 6 < L) {M J : Mem} (hI : Inv M J) {H : Heap} {locs : List Loc} (hI9 : LW D cI cZ adc adm M J s H locs) {ls : Array Slot} (hl : lv_has ls 4 [(0, .ref b), (1, .ref (adc 0)), (2, .ref (adm 0)), (3, .int x3)])
    (kk : ∀ (M J : Mem), Inv M J → ∀ (H : Heap) (locs : List Loc), LW D cI cZ adc adm M J s H locs → W p l e room_1 s m #[Value.ref b] below meth c H locs 54 1855 (lw_Z below #[Value.ref b] s) (F0 m 1084 ls [])) : W p l e room_1 s m #[Value.ref b] below meth c H locs 54 1855 (lw_Z below #[Value.ref b] s) (F0 m 668 ls []) := by
  obtain ⟨hx, hb, hr, hml, hown, hts, hX, hbl, hlocks, hgv⟩ := C0
  replace hown : s.vm.findClass RL = some m.cls := hown
  have hbA : ¬ (fun q : Nat => s.heap.size ≤ q) b := Nat.not_le.mpr hbl
  have hX0 := xC_X D adc aS
  have hT0 : mX adm 14 (fun _ : State => True) := ⟨fun _ _ _ _ _ _ _ _ => trivial, fun _ _ _ _ _ => trivial⟩
  have hS := hI9.2.2.2.2
  refine lv_aload_n hx hb dL_law_668 rfl (lv_at hl 1 rfl) ?_
  refine lv_aload_n hx hb dL_law_669 rfl (lv_at hl 0 rfl) ?_
  refine lv_iload_n hx hb dL_law_670 rfl (lv_at hl 3 rfl) ?_
  refine lv_iconst (v := (1 : Int32)) hx hb dL_law_671 (by decide) ?_
  refine lv_iadd hx hb dL_law_672 ?_
  refine va_sld hx hb hX hbl hbA hS (law_in 1 ex3 (by omega) hL) dL_law_673 ?_
  refine lv_aload_n hx hb dL_law_674 rfl (lv_at hl 0 rfl) ?_
  refine lv_iload_n hx hb dL_law_675 rfl (lv_at hl 3 rfl) ?_
  refine lv_iconst (v := (2 : Int32)) hx hb dL_law_676 (by decide) ?_
  refine lv_iadd hx hb dL_law_677 ?_
  refine va_sld hx hb hX hbl hbA hS (law_in 2 ex3 (by omega) hL) dL_law_678 ?_
  refine lv_aload_n hx hb dL_law_679 rfl (lv_at hl 0 rfl) ?_
  refine lv_iload_n hx hb dL_law_680 rfl (lv_at hl 3 rfl) ?_
  refine lv_iconst (v := (3 : Int32)) hx hb dL_law_681 (by decide) ?_
  refine lv_iadd hx hb dL_law_682 ?_
  refine va_sld hx hb hX hbl hbA hS (law_in 3 ex3 (by omega) hL) dL_law_683 ?_
  obtain ⟨r, J1, hf, hg, hI⟩ := pu_midnights (xs (x3 + (1 : Int32)).toNatClampNeg) (xs (x3 + (2 : Int32)).toNatClampNeg) (xs (x3 + (3 : Int32)).toNatClampNeg) hI
  refine law_callC (As := [.int (xs (x3 + (1 : Int32)).toNatClampNeg), .int (xs (x3 + (2 : Int32)).toNatClampNeg), .int (xs (x3 + (3 : Int32)).toNatClampNeg)]) (st1 := [.int r]) hx hb (hml.trans hl.1.symm) hown hts hK hXs hX0 hI9 (kX4_midnights l D cI adc hX0 (xs (x3 + (1 : Int32)).toNatClampNeg) (xs (x3 + (2 : Int32)).toNatClampNeg) (xs (x3 + (3 : Int32)).toNatClampNeg)  M  _ hf) (cwV 3 hts GLX4_midnights rfl rfl rfl (by decide +kernel) ⟨Nat.le_of_ble_eq_true rfl, Nat.le_of_ble_eq_true rfl⟩) rfl rfl rfl (Nat.le_of_ble_eq_true rfl) dL_law_684 ⟨Nat.le_of_ble_eq_true rfl, Nat.le_of_ble_eq_true rfl⟩ (fun H locs hI9 => ?_)
  have hS := hI9.2.2.2.2
  refine lv_aload_n hx hb dL_law_687 rfl (lv_at hl 2 rfl) ?_
  refine lv_aload_n hx hb dL_law_688 rfl (lv_at hl 0 rfl) ?_
  refine lv_iload_n hx hb dL_law_689 rfl (lv_at hl 3 rfl) ?_
  refine lv_iconst (v := (1 : Int32)) hx hb dL_law_690 (by decide) ?_
  refine lv_iadd hx hb dL_law_691 ?_
  refine va_sld hx hb hX hbl hbA hS (law_in 1 ex3 (by omega) hL) dL_law_692 ?_
  refine lv_aload_n hx hb dL_law_693 rfl (lv_at hl 0 rfl) ?_
  refine lv_iload_n hx hb dL_law_694 rfl (lv_at hl 3 rfl) ?_
  refine lv_iconst (v := (2 : Int32)) hx hb dL_law_695 (by decide) ?_
  refine lv_iadd hx hb dL_law_696 ?_
  refine va_sld hx hb hX hbl hbA hS (law_in 2 ex3 (by omega) hL) dL_law_697 ?_
  refine lv_aload_n hx hb dL_law_698 rfl (lv_at hl 0 rfl) ?_
  refine lv_iload_n hx hb dL_law_699 rfl (lv_at hl 3 rfl) ?_
  refine lv_iconst (v := (3 : Int32)) hx hb dL_law_700 (by decide) ?_
  refine lv_iadd hx hb dL_law_701 ?_
  refine va_sld hx hb hX hbl hbA hS (law_in 3 ex3 (by omega) hL) dL_law_702 ?_
  refine law_callM (As := [.int (xs (x3 + (1 : Int32)).toNatClampNeg), .int (xs (x3 + (2 : Int32)).toNatClampNeg), .int (xs (x3 + (3 : Int32)).toNatClampNeg)]) (st1 := [.int r, .int r]) hx hb (hml.trans hl.1.symm) hown hts hK  hI9 (kX5_midnights l D cI cZ adm hT0 (xs (x3 + (1 : Int32)).toNatClampNeg) (xs (x3 + (2 : Int32)).toNatClampNeg) (xs (x3 + (3 : Int32)).toNatClampNeg)  J  _ hg) (cwV 3 hts GLX5_midnights rfl rfl rfl (by decide +kernel) ⟨Nat.le_of_ble_eq_true rfl, Nat.le_of_ble_eq_true rfl⟩) rfl rfl rfl (Nat.le_of_ble_eq_true rfl) dL_law_703 ⟨Nat.le_of_ble_eq_true rfl, Nat.le_of_ble_eq_true rfl⟩ (fun H locs hI9 => ?_)
  have hS := hI9.2.2.2.2
  refine lv_icmp_eq (tgt := 1084) hx hb dL_law_706 (by decide) (fun _ => ?_) (fun c => absurd rfl c)
  exact kk _ _ hI _ _ hI9
set_option maxHeartbeats 4000000 in
set_option maxRecDepth 100000 in
theorem law_case_15 {p : Program} {l : Launch} {e : Env} {s : State} {m : MethodId} {below : List Frame} {meth : Method} {c : Code} {D : va_G} {cI cZ : ClassId} {adc adm aS : Nat → Nat} {b L : Nat} {xs : Nat → Int32} (hL : L ≤ 448) (C0 : lw_At p s m meth c b L xs) (hK : va_K D vwCl [(cI, .int), (cZ, .boolean)] s) (hXs : xL aS s) {k : Nat} {x3 : Int32} (ex3 : x3 = nI k) (hk : k + 6 < L) {M J : Mem} (hI : Inv M J) {H : Heap} {locs : List Loc} (hI9 : LW D cI cZ adc adm M J s H locs) {ls : Array Slot} (hl : lv_has ls 4 [(0, .ref b), (1, .ref (adc 0)), (2, .ref (adm 0)), (3, .int x3)])
    (kk : ∀ (M J : Mem), Inv M J → ∀ (H : Heap) (locs : List Loc), LW D cI cZ adc adm M J s H locs → W p l e room_1 s m #[Value.ref b] below meth c H locs 54 1855 (lw_Z below #[Value.ref b] s) (F0 m 1084 ls [])) : W p l e room_1 s m #[Value.ref b] below meth c H locs 54 1855 (lw_Z below #[Value.ref b] s) (F0 m 711 ls []) := by
  obtain ⟨hx, hb, hr, hml, hown, hts, hX, hbl, hlocks, hgv⟩ := C0
  replace hown : s.vm.findClass RL = some m.cls := hown
  have hbA : ¬ (fun q : Nat => s.heap.size ≤ q) b := Nat.not_le.mpr hbl
  have hX0 := xC_X D adc aS
  have hT0 : mX adm 14 (fun _ : State => True) := ⟨fun _ _ _ _ _ _ _ _ => trivial, fun _ _ _ _ _ => trivial⟩
  have hS := hI9.2.2.2.2
  refine lv_aload_n hx hb dL_law_711 rfl (lv_at hl 1 rfl) ?_
  refine lv_aload_n hx hb dL_law_712 rfl (lv_at hl 0 rfl) ?_
  refine lv_iload_n hx hb dL_law_713 rfl (lv_at hl 3 rfl) ?_
  refine lv_iconst (v := (1 : Int32)) hx hb dL_law_714 (by decide) ?_
  refine lv_iadd hx hb dL_law_715 ?_
  refine va_sld hx hb hX hbl hbA hS (law_in 1 ex3 (by omega) hL) dL_law_716 ?_
  refine lv_aload_n hx hb dL_law_717 rfl (lv_at hl 0 rfl) ?_
  refine lv_iload_n hx hb dL_law_718 rfl (lv_at hl 3 rfl) ?_
  refine lv_iconst (v := (2 : Int32)) hx hb dL_law_719 (by decide) ?_
  refine lv_iadd hx hb dL_law_720 ?_
  refine va_sld hx hb hX hbl hbA hS (law_in 2 ex3 (by omega) hL) dL_law_721 ?_
  refine lv_aload_n hx hb dL_law_722 rfl (lv_at hl 0 rfl) ?_
  refine lv_iload_n hx hb dL_law_723 rfl (lv_at hl 3 rfl) ?_
  refine lv_iconst (v := (3 : Int32)) hx hb dL_law_724 (by decide) ?_
  refine lv_iadd hx hb dL_law_725 ?_
  refine va_sld hx hb hX hbl hbA hS (law_in 3 ex3 (by omega) hL) dL_law_726 ?_
  refine lv_aload_n hx hb dL_law_727 rfl (lv_at hl 0 rfl) ?_
  refine lv_iload_n hx hb dL_law_728 rfl (lv_at hl 3 rfl) ?_
  refine lv_iconst (v := (4 : Int32)) hx hb dL_law_729 (by decide) ?_
  refine lv_iadd hx hb dL_law_730 ?_
  refine va_sld hx hb hX hbl hbA hS (law_in 4 ex3 (by omega) hL) dL_law_731 ?_
  obtain ⟨r, J1, hf, hg, hI⟩ := pu_gains (xs (x3 + (1 : Int32)).toNatClampNeg) (xs (x3 + (2 : Int32)).toNatClampNeg) (xs (x3 + (3 : Int32)).toNatClampNeg) (xs (x3 + (4 : Int32)).toNatClampNeg) hI
  refine law_callC (As := [.int (xs (x3 + (1 : Int32)).toNatClampNeg), .int (xs (x3 + (2 : Int32)).toNatClampNeg), .int (xs (x3 + (3 : Int32)).toNatClampNeg), .int (xs (x3 + (4 : Int32)).toNatClampNeg)]) (st1 := [.int r]) hx hb (hml.trans hl.1.symm) hown hts hK hXs hX0 hI9 (kX4_gains l D cI adc hX0 (xs (x3 + (1 : Int32)).toNatClampNeg) (xs (x3 + (2 : Int32)).toNatClampNeg) (xs (x3 + (3 : Int32)).toNatClampNeg) (xs (x3 + (4 : Int32)).toNatClampNeg)  M  _ hf) (cwV 4 hts GLX4_gains rfl rfl rfl (by decide +kernel) ⟨Nat.le_of_ble_eq_true rfl, Nat.le_of_ble_eq_true rfl⟩) rfl rfl rfl (Nat.le_of_ble_eq_true rfl) dL_law_732 ⟨Nat.le_of_ble_eq_true rfl, Nat.le_of_ble_eq_true rfl⟩ (fun H locs hI9 => ?_)
  have hS := hI9.2.2.2.2
  refine lv_aload_n hx hb dL_law_735 rfl (lv_at hl 2 rfl) ?_
  refine lv_aload_n hx hb dL_law_736 rfl (lv_at hl 0 rfl) ?_
  refine lv_iload_n hx hb dL_law_737 rfl (lv_at hl 3 rfl) ?_
  refine lv_iconst (v := (1 : Int32)) hx hb dL_law_738 (by decide) ?_
  refine lv_iadd hx hb dL_law_739 ?_
  refine va_sld hx hb hX hbl hbA hS (law_in 1 ex3 (by omega) hL) dL_law_740 ?_
  refine lv_aload_n hx hb dL_law_741 rfl (lv_at hl 0 rfl) ?_
  refine lv_iload_n hx hb dL_law_742 rfl (lv_at hl 3 rfl) ?_
  refine lv_iconst (v := (2 : Int32)) hx hb dL_law_743 (by decide) ?_
  refine lv_iadd hx hb dL_law_744 ?_
  refine va_sld hx hb hX hbl hbA hS (law_in 2 ex3 (by omega) hL) dL_law_745 ?_
  refine lv_aload_n hx hb dL_law_746 rfl (lv_at hl 0 rfl) ?_
  refine lv_iload_n hx hb dL_law_747 rfl (lv_at hl 3 rfl) ?_
  refine lv_iconst (v := (3 : Int32)) hx hb dL_law_748 (by decide) ?_
  refine lv_iadd hx hb dL_law_749 ?_
  refine va_sld hx hb hX hbl hbA hS (law_in 3 ex3 (by omega) hL) dL_law_750 ?_
  refine lv_aload_n hx hb dL_law_751 rfl (lv_at hl 0 rfl) ?_
  refine lv_iload_n hx hb dL_law_752 rfl (lv_at hl 3 rfl) ?_
  refine lv_iconst (v := (4 : Int32)) hx hb dL_law_753 (by decide) ?_
  refine lv_iadd hx hb dL_law_754 ?_
  refine va_sld hx hb hX hbl hbA hS (law_in 4 ex3 (by omega) hL) dL_law_755 ?_
  refine law_callM (As := [.int (xs (x3 + (1 : Int32)).toNatClampNeg), .int (xs (x3 + (2 : Int32)).toNatClampNeg), .int (xs (x3 + (3 : Int32)).toNatClampNeg), .int (xs (x3 + (4 : Int32)).toNatClampNeg)]) (st1 := [.int r, .int r]) hx hb (hml.trans hl.1.symm) hown hts hK  hI9 (kX5_gains l D cI cZ adm hT0 (xs (x3 + (1 : Int32)).toNatClampNeg) (xs (x3 + (2 : Int32)).toNatClampNeg) (xs (x3 + (3 : Int32)).toNatClampNeg) (xs (x3 + (4 : Int32)).toNatClampNeg)  J  _ hg) (cwV 4 hts GLX5_gains rfl rfl rfl (by decide +kernel) ⟨Nat.le_of_ble_eq_true rfl, Nat.le_of_ble_eq_true rfl⟩) rfl rfl rfl (Nat.le_of_ble_eq_true rfl) dL_law_756 ⟨Nat.le_of_ble_eq_true rfl, Nat.le_of_ble_eq_true rfl⟩ (fun H locs hI9 => ?_)
  have hS := hI9.2.2.2.2
  refine lv_icmp_eq (tgt := 1084) hx hb dL_law_759 (by decide) (fun _ => ?_) (fun c => absurd rfl c)
  exact kk _ _ hI _ _ hI9
set_option maxHeartbeats 4000000 in
set_option maxRecDepth 100000 in
theorem law_case_16 {p : Program} {l : Launch} {e : Env} {s : State} {m : MethodId} {below : List Frame} {meth : Method} {c : Code} {D : va_G} {cI cZ : ClassId} {adc adm aS : Nat → Nat} {b L : Nat} {xs : Nat → Int32} (hL : L ≤ 448) (C0 : lw_At p s m meth c b L xs) (hK : va_K D vwCl [(cI, .int), (cZ, .boolean)] s) (hXs : xL aS s) {k : Nat} {x3 : Int32} (ex3 : x3 = nI k) (hk : k + 6 < L) {M J : Mem} (hI : Inv M J) {H : Heap} {locs : List Loc} (hI9 : LW D cI cZ adc adm M J s H locs) {ls : Array Slot} (hl : lv_has ls 4 [(0, .ref b), (1, .ref (adc 0)), (2, .ref (adm 0)), (3, .int x3)])
    (kk : ∀ (M J : Mem), Inv M J → ∀ (H : Heap) (locs : List Loc), LW D cI cZ adc adm M J s H locs → W p l e room_1 s m #[Value.ref b] below meth c H locs 54 1855 (lw_Z below #[Value.ref b] s) (F0 m 1084 ls [])) : W p l e room_1 s m #[Value.ref b] below meth c H locs 54 1855 (lw_Z below #[Value.ref b] s) (F0 m 764 ls []) := by
  obtain ⟨hx, hb, hr, hml, hown, hts, hX, hbl, hlocks, hgv⟩ := C0
  replace hown : s.vm.findClass RL = some m.cls := hown
  have hbA : ¬ (fun q : Nat => s.heap.size ≤ q) b := Nat.not_le.mpr hbl
  have hX0 := xC_X D adc aS
  have hT0 : mX adm 14 (fun _ : State => True) := ⟨fun _ _ _ _ _ _ _ _ => trivial, fun _ _ _ _ _ => trivial⟩
  have hS := hI9.2.2.2.2
  refine lv_aload_n hx hb dL_law_764 rfl (lv_at hl 1 rfl) ?_
  refine lv_aload_n hx hb dL_law_765 rfl (lv_at hl 0 rfl) ?_
  refine lv_iload_n hx hb dL_law_766 rfl (lv_at hl 3 rfl) ?_
  refine lv_iconst (v := (1 : Int32)) hx hb dL_law_767 (by decide) ?_
  refine lv_iadd hx hb dL_law_768 ?_
  refine va_sld hx hb hX hbl hbA hS (law_in 1 ex3 (by omega) hL) dL_law_769 ?_
  refine lv_aload_n hx hb dL_law_770 rfl (lv_at hl 0 rfl) ?_
  refine lv_iload_n hx hb dL_law_771 rfl (lv_at hl 3 rfl) ?_
  refine lv_iconst (v := (2 : Int32)) hx hb dL_law_772 (by decide) ?_
  refine lv_iadd hx hb dL_law_773 ?_
  refine va_sld hx hb hX hbl hbA hS (law_in 2 ex3 (by omega) hL) dL_law_774 ?_
  obtain ⟨r, M1, J1, hf, hg, hI⟩ := pu_best (xs (x3 + (1 : Int32)).toNatClampNeg) (xs (x3 + (2 : Int32)).toNatClampNeg) hI
  refine law_callC (As := [.int (xs (x3 + (1 : Int32)).toNatClampNeg), .int (xs (x3 + (2 : Int32)).toNatClampNeg)]) (st1 := [.int r]) hx hb (hml.trans hl.1.symm) hown hts hK hXs hX0 hI9 (kX4_best l D cI adc hX0 (xs (x3 + (1 : Int32)).toNatClampNeg) (xs (x3 + (2 : Int32)).toNatClampNeg)  M  _ hf) (cwV 2 hts GLX4_best rfl rfl rfl (by decide +kernel) ⟨Nat.le_of_ble_eq_true rfl, Nat.le_of_ble_eq_true rfl⟩) rfl rfl rfl (Nat.le_of_ble_eq_true rfl) dL_law_775 ⟨Nat.le_of_ble_eq_true rfl, Nat.le_of_ble_eq_true rfl⟩ (fun H locs hI9 => ?_)
  have hS := hI9.2.2.2.2
  refine lv_aload_n hx hb dL_law_778 rfl (lv_at hl 2 rfl) ?_
  refine lv_aload_n hx hb dL_law_779 rfl (lv_at hl 0 rfl) ?_
  refine lv_iload_n hx hb dL_law_780 rfl (lv_at hl 3 rfl) ?_
  refine lv_iconst (v := (1 : Int32)) hx hb dL_law_781 (by decide) ?_
  refine lv_iadd hx hb dL_law_782 ?_
  refine va_sld hx hb hX hbl hbA hS (law_in 1 ex3 (by omega) hL) dL_law_783 ?_
  refine lv_aload_n hx hb dL_law_784 rfl (lv_at hl 0 rfl) ?_
  refine lv_iload_n hx hb dL_law_785 rfl (lv_at hl 3 rfl) ?_
  refine lv_iconst (v := (2 : Int32)) hx hb dL_law_786 (by decide) ?_
  refine lv_iadd hx hb dL_law_787 ?_
  refine va_sld hx hb hX hbl hbA hS (law_in 2 ex3 (by omega) hL) dL_law_788 ?_
  refine law_callM (As := [.int (xs (x3 + (1 : Int32)).toNatClampNeg), .int (xs (x3 + (2 : Int32)).toNatClampNeg)]) (st1 := [.int r, .int r]) hx hb (hml.trans hl.1.symm) hown hts hK  hI9 (kX5_best l D cI cZ adm hT0 (xs (x3 + (1 : Int32)).toNatClampNeg) (xs (x3 + (2 : Int32)).toNatClampNeg)  J  _ hg) (cwV 2 hts GLX5_best rfl rfl rfl (by decide +kernel) ⟨Nat.le_of_ble_eq_true rfl, Nat.le_of_ble_eq_true rfl⟩) rfl rfl rfl (Nat.le_of_ble_eq_true rfl) dL_law_789 ⟨Nat.le_of_ble_eq_true rfl, Nat.le_of_ble_eq_true rfl⟩ (fun H locs hI9 => ?_)
  have hS := hI9.2.2.2.2
  refine lv_icmp_eq (tgt := 1084) hx hb dL_law_792 (by decide) (fun _ => ?_) (fun c => absurd rfl c)
  exact kk _ _ hI _ _ hI9
set_option maxHeartbeats 4000000 in
set_option maxRecDepth 100000 in
theorem law_case_17 {p : Program} {l : Launch} {e : Env} {s : State} {m : MethodId} {below : List Frame} {meth : Method} {c : Code} {D : va_G} {cI cZ : ClassId} {adc adm aS : Nat → Nat} {b L : Nat} {xs : Nat → Int32} (hL : L ≤ 448) (C0 : lw_At p s m meth c b L xs) (hK : va_K D vwCl [(cI, .int), (cZ, .boolean)] s) (hXs : xL aS s) {k : Nat} {x3 : Int32} (ex3 : x3 = nI k) (hk : k + 6 < L) {M J : Mem} (hI : Inv M J) {H : Heap} {locs : List Loc} (hI9 : LW D cI cZ adc adm M J s H locs) {ls : Array Slot} (hl : lv_has ls 4 [(0, .ref b), (1, .ref (adc 0)), (2, .ref (adm 0)), (3, .int x3)])
    (kk : ∀ (M J : Mem), Inv M J → ∀ (H : Heap) (locs : List Loc), LW D cI cZ adc adm M J s H locs → W p l e room_1 s m #[Value.ref b] below meth c H locs 54 1855 (lw_Z below #[Value.ref b] s) (F0 m 1084 ls [])) : W p l e room_1 s m #[Value.ref b] below meth c H locs 54 1855 (lw_Z below #[Value.ref b] s) (F0 m 797 ls []) := by
  obtain ⟨hx, hb, hr, hml, hown, hts, hX, hbl, hlocks, hgv⟩ := C0
  replace hown : s.vm.findClass RL = some m.cls := hown
  have hbA : ¬ (fun q : Nat => s.heap.size ≤ q) b := Nat.not_le.mpr hbl
  have hX0 := xC_X D adc aS
  have hT0 : mX adm 14 (fun _ : State => True) := ⟨fun _ _ _ _ _ _ _ _ => trivial, fun _ _ _ _ _ => trivial⟩
  have hS := hI9.2.2.2.2
  refine lv_aload_n hx hb dL_law_797 rfl (lv_at hl 1 rfl) ?_
  refine lv_aload_n hx hb dL_law_798 rfl (lv_at hl 0 rfl) ?_
  refine lv_iload_n hx hb dL_law_799 rfl (lv_at hl 3 rfl) ?_
  refine lv_iconst (v := (1 : Int32)) hx hb dL_law_800 (by decide) ?_
  refine lv_iadd hx hb dL_law_801 ?_
  refine va_sld hx hb hX hbl hbA hS (law_in 1 ex3 (by omega) hL) dL_law_802 ?_
  refine lv_aload_n hx hb dL_law_803 rfl (lv_at hl 0 rfl) ?_
  refine lv_iload_n hx hb dL_law_804 rfl (lv_at hl 3 rfl) ?_
  refine lv_iconst (v := (2 : Int32)) hx hb dL_law_805 (by decide) ?_
  refine lv_iadd hx hb dL_law_806 ?_
  refine va_sld hx hb hX hbl hbA hS (law_in 2 ex3 (by omega) hL) dL_law_807 ?_
  refine lv_aload_n hx hb dL_law_808 rfl (lv_at hl 0 rfl) ?_
  refine lv_iload_n hx hb dL_law_809 rfl (lv_at hl 3 rfl) ?_
  refine lv_iconst (v := (3 : Int32)) hx hb dL_law_810 (by decide) ?_
  refine lv_iadd hx hb dL_law_811 ?_
  refine va_sld hx hb hX hbl hbA hS (law_in 3 ex3 (by omega) hL) dL_law_812 ?_
  obtain ⟨r, M1, J1, hf, hg, hI⟩ := pu_saw (xs (x3 + (1 : Int32)).toNatClampNeg) (xs (x3 + (2 : Int32)).toNatClampNeg) (xs (x3 + (3 : Int32)).toNatClampNeg) hI
  refine law_callC (As := [.int (xs (x3 + (1 : Int32)).toNatClampNeg), .int (xs (x3 + (2 : Int32)).toNatClampNeg), .int (xs (x3 + (3 : Int32)).toNatClampNeg)]) (st1 := [.int r]) hx hb (hml.trans hl.1.symm) hown hts hK hXs hX0 hI9 (kX4_saw l D cI adc hX0 (xs (x3 + (1 : Int32)).toNatClampNeg) (xs (x3 + (2 : Int32)).toNatClampNeg) (xs (x3 + (3 : Int32)).toNatClampNeg)  M  _ hf) (cwV 3 hts GLX4_saw rfl rfl rfl (by decide +kernel) ⟨Nat.le_of_ble_eq_true rfl, Nat.le_of_ble_eq_true rfl⟩) rfl rfl rfl (Nat.le_of_ble_eq_true rfl) dL_law_813 ⟨Nat.le_of_ble_eq_true rfl, Nat.le_of_ble_eq_true rfl⟩ (fun H locs hI9 => ?_)
  have hS := hI9.2.2.2.2
  refine lv_aload_n hx hb dL_law_816 rfl (lv_at hl 2 rfl) ?_
  refine lv_aload_n hx hb dL_law_817 rfl (lv_at hl 0 rfl) ?_
  refine lv_iload_n hx hb dL_law_818 rfl (lv_at hl 3 rfl) ?_
  refine lv_iconst (v := (1 : Int32)) hx hb dL_law_819 (by decide) ?_
  refine lv_iadd hx hb dL_law_820 ?_
  refine va_sld hx hb hX hbl hbA hS (law_in 1 ex3 (by omega) hL) dL_law_821 ?_
  refine lv_aload_n hx hb dL_law_822 rfl (lv_at hl 0 rfl) ?_
  refine lv_iload_n hx hb dL_law_823 rfl (lv_at hl 3 rfl) ?_
  refine lv_iconst (v := (2 : Int32)) hx hb dL_law_824 (by decide) ?_
  refine lv_iadd hx hb dL_law_825 ?_
  refine va_sld hx hb hX hbl hbA hS (law_in 2 ex3 (by omega) hL) dL_law_826 ?_
  refine lv_aload_n hx hb dL_law_827 rfl (lv_at hl 0 rfl) ?_
  refine lv_iload_n hx hb dL_law_828 rfl (lv_at hl 3 rfl) ?_
  refine lv_iconst (v := (3 : Int32)) hx hb dL_law_829 (by decide) ?_
  refine lv_iadd hx hb dL_law_830 ?_
  refine va_sld hx hb hX hbl hbA hS (law_in 3 ex3 (by omega) hL) dL_law_831 ?_
  refine law_callM (As := [.int (xs (x3 + (1 : Int32)).toNatClampNeg), .int (xs (x3 + (2 : Int32)).toNatClampNeg), .int (xs (x3 + (3 : Int32)).toNatClampNeg)]) (st1 := [.int r, .int r]) hx hb (hml.trans hl.1.symm) hown hts hK  hI9 (kX5_saw l D cI cZ adm hT0 (xs (x3 + (1 : Int32)).toNatClampNeg) (xs (x3 + (2 : Int32)).toNatClampNeg) (xs (x3 + (3 : Int32)).toNatClampNeg)  J  _ hg) (cwV 3 hts GLX5_saw rfl rfl rfl (by decide +kernel) ⟨Nat.le_of_ble_eq_true rfl, Nat.le_of_ble_eq_true rfl⟩) rfl rfl rfl (Nat.le_of_ble_eq_true rfl) dL_law_832 ⟨Nat.le_of_ble_eq_true rfl, Nat.le_of_ble_eq_true rfl⟩ (fun H locs hI9 => ?_)
  have hS := hI9.2.2.2.2
  refine lv_icmp_eq (tgt := 1084) hx hb dL_law_835 (by decide) (fun _ => ?_) (fun c => absurd rfl c)
  exact kk _ _ hI _ _ hI9
set_option maxHeartbeats 4000000 in
set_option maxRecDepth 100000 in
theorem law_case_18 {p : Program} {l : Launch} {e : Env} {s : State} {m : MethodId} {below : List Frame} {meth : Method} {c : Code} {D : va_G} {cI cZ : ClassId} {adc adm aS : Nat → Nat} {b L : Nat} {xs : Nat → Int32} (hL : L ≤ 448) (C0 : lw_At p s m meth c b L xs) (hK : va_K D vwCl [(cI, .int), (cZ, .boolean)] s) (hXs : xL aS s) {k : Nat} {x3 : Int32} (ex3 : x3 = nI k) (hk : k + 6 < L) {M J : Mem} (hI : Inv M J) {H : Heap} {locs : List Loc} (hI9 : LW D cI cZ adc adm M J s H locs) {ls : Array Slot} (hl : lv_has ls 4 [(0, .ref b), (1, .ref (adc 0)), (2, .ref (adm 0)), (3, .int x3)])
    (kk : ∀ (M J : Mem), Inv M J → ∀ (H : Heap) (locs : List Loc), LW D cI cZ adc adm M J s H locs → W p l e room_1 s m #[Value.ref b] below meth c H locs 54 1855 (lw_Z below #[Value.ref b] s) (F0 m 1084 ls [])) : W p l e room_1 s m #[Value.ref b] below meth c H locs 54 1855 (lw_Z below #[Value.ref b] s) (F0 m 840 ls []) := by
  obtain ⟨hx, hb, hr, hml, hown, hts, hX, hbl, hlocks, hgv⟩ := C0
  replace hown : s.vm.findClass RL = some m.cls := hown
  have hbA : ¬ (fun q : Nat => s.heap.size ≤ q) b := Nat.not_le.mpr hbl
  have hX0 := xC_X D adc aS
  have hT0 : mX adm 14 (fun _ : State => True) := ⟨fun _ _ _ _ _ _ _ _ => trivial, fun _ _ _ _ _ => trivial⟩
  have hS := hI9.2.2.2.2
  refine lv_aload_n hx hb dL_law_840 rfl (lv_at hl 1 rfl) ?_
  obtain ⟨r, M1, J1, hf, hg, hI⟩ := pu_forget  hI
  refine law_callC (As := []) (st1 := [.int r]) hx hb (hml.trans hl.1.symm) hown hts hK hXs hX0 hI9 (kX4_forget l D cI adc hX0   M  _ hf) (cwV 0 hts GLX4_forget rfl rfl rfl (by decide +kernel) ⟨Nat.le_of_ble_eq_true rfl, Nat.le_of_ble_eq_true rfl⟩) rfl rfl rfl (Nat.le_of_ble_eq_true rfl) dL_law_841 ⟨Nat.le_of_ble_eq_true rfl, Nat.le_of_ble_eq_true rfl⟩ (fun H locs hI9 => ?_)
  have hS := hI9.2.2.2.2
  refine lv_aload_n hx hb dL_law_844 rfl (lv_at hl 2 rfl) ?_
  refine law_callM (As := []) (st1 := [.int r, .int r]) hx hb (hml.trans hl.1.symm) hown hts hK  hI9 (kX5_forget l D cI cZ adm hT0   J  _ hg) (cwV 0 hts GLX5_forget rfl rfl rfl (by decide +kernel) ⟨Nat.le_of_ble_eq_true rfl, Nat.le_of_ble_eq_true rfl⟩) rfl rfl rfl (Nat.le_of_ble_eq_true rfl) dL_law_845 ⟨Nat.le_of_ble_eq_true rfl, Nat.le_of_ble_eq_true rfl⟩ (fun H locs hI9 => ?_)
  have hS := hI9.2.2.2.2
  refine lv_icmp_eq (tgt := 1084) hx hb dL_law_848 (by decide) (fun _ => ?_) (fun c => absurd rfl c)
  exact kk _ _ hI _ _ hI9
set_option maxHeartbeats 4000000 in
set_option maxRecDepth 100000 in
theorem law_case_19 {p : Program} {l : Launch} {e : Env} {s : State} {m : MethodId} {below : List Frame} {meth : Method} {c : Code} {D : va_G} {cI cZ : ClassId} {adc adm aS : Nat → Nat} {b L : Nat} {xs : Nat → Int32} (hL : L ≤ 448) (C0 : lw_At p s m meth c b L xs) (hK : va_K D vwCl [(cI, .int), (cZ, .boolean)] s) (hXs : xL aS s) {k : Nat} {x3 : Int32} (ex3 : x3 = nI k) (hk : k + 6 < L) {M J : Mem} (hI : Inv M J) {H : Heap} {locs : List Loc} (hI9 : LW D cI cZ adc adm M J s H locs) {ls : Array Slot} (hl : lv_has ls 4 [(0, .ref b), (1, .ref (adc 0)), (2, .ref (adm 0)), (3, .int x3)])
    (kk : ∀ (M J : Mem), Inv M J → ∀ (H : Heap) (locs : List Loc), LW D cI cZ adc adm M J s H locs → W p l e room_1 s m #[Value.ref b] below meth c H locs 54 1855 (lw_Z below #[Value.ref b] s) (F0 m 1084 ls [])) : W p l e room_1 s m #[Value.ref b] below meth c H locs 54 1855 (lw_Z below #[Value.ref b] s) (F0 m 853 ls []) := by
  obtain ⟨hx, hb, hr, hml, hown, hts, hX, hbl, hlocks, hgv⟩ := C0
  replace hown : s.vm.findClass RL = some m.cls := hown
  have hbA : ¬ (fun q : Nat => s.heap.size ≤ q) b := Nat.not_le.mpr hbl
  have hX0 := xC_X D adc aS
  have hT0 : mX adm 14 (fun _ : State => True) := ⟨fun _ _ _ _ _ _ _ _ => trivial, fun _ _ _ _ _ => trivial⟩
  have hS := hI9.2.2.2.2
  refine lv_aload_n hx hb dL_law_853 rfl (lv_at hl 1 rfl) ?_
  obtain ⟨r, J1, hf, hg, hI⟩ := pu_so  hI
  refine law_callC (As := []) (st1 := [.int r]) hx hb (hml.trans hl.1.symm) hown hts hK hXs hX0 hI9 (kX4_so l D cI adc hX0   M  _ hf) (cwV 0 hts GLX4_so rfl rfl rfl (by decide +kernel) ⟨Nat.le_of_ble_eq_true rfl, Nat.le_of_ble_eq_true rfl⟩) rfl rfl rfl (Nat.le_of_ble_eq_true rfl) dL_law_854 ⟨Nat.le_of_ble_eq_true rfl, Nat.le_of_ble_eq_true rfl⟩ (fun H locs hI9 => ?_)
  have hS := hI9.2.2.2.2
  refine lv_aload_n hx hb dL_law_857 rfl (lv_at hl 2 rfl) ?_
  refine law_callM (As := []) (st1 := [.int r, .int r]) hx hb (hml.trans hl.1.symm) hown hts hK  hI9 (kX5_so l D cI cZ adm hT0   J  _ hg) (cwV 0 hts GLX5_so rfl rfl rfl (by decide +kernel) ⟨Nat.le_of_ble_eq_true rfl, Nat.le_of_ble_eq_true rfl⟩) rfl rfl rfl (Nat.le_of_ble_eq_true rfl) dL_law_858 ⟨Nat.le_of_ble_eq_true rfl, Nat.le_of_ble_eq_true rfl⟩ (fun H locs hI9 => ?_)
  have hS := hI9.2.2.2.2
  refine lv_icmp_eq (tgt := 1084) hx hb dL_law_861 (by decide) (fun _ => ?_) (fun c => absurd rfl c)
  exact kk _ _ hI _ _ hI9
set_option maxHeartbeats 4000000 in
set_option maxRecDepth 100000 in
theorem law_case_20 {p : Program} {l : Launch} {e : Env} {s : State} {m : MethodId} {below : List Frame} {meth : Method} {c : Code} {D : va_G} {cI cZ : ClassId} {adc adm aS : Nat → Nat} {b L : Nat} {xs : Nat → Int32} (hL : L ≤ 448) (C0 : lw_At p s m meth c b L xs) (hK : va_K D vwCl [(cI, .int), (cZ, .boolean)] s) (hXs : xL aS s) {k : Nat} {x3 : Int32} (ex3 : x3 = nI k) (hk : k + 6 < L) {M J : Mem} (hI : Inv M J) {H : Heap} {locs : List Loc} (hI9 : LW D cI cZ adc adm M J s H locs) {ls : Array Slot} (hl : lv_has ls 4 [(0, .ref b), (1, .ref (adc 0)), (2, .ref (adm 0)), (3, .int x3)])
    (kk : ∀ (M J : Mem), Inv M J → ∀ (H : Heap) (locs : List Loc), LW D cI cZ adc adm M J s H locs → W p l e room_1 s m #[Value.ref b] below meth c H locs 54 1855 (lw_Z below #[Value.ref b] s) (F0 m 1084 ls [])) : W p l e room_1 s m #[Value.ref b] below meth c H locs 54 1855 (lw_Z below #[Value.ref b] s) (F0 m 866 ls []) := by
  obtain ⟨hx, hb, hr, hml, hown, hts, hX, hbl, hlocks, hgv⟩ := C0
  replace hown : s.vm.findClass RL = some m.cls := hown
  have hbA : ¬ (fun q : Nat => s.heap.size ≤ q) b := Nat.not_le.mpr hbl
  have hX0 := xC_X D adc aS
  have hT0 : mX adm 14 (fun _ : State => True) := ⟨fun _ _ _ _ _ _ _ _ => trivial, fun _ _ _ _ _ => trivial⟩
  have hS := hI9.2.2.2.2
  refine lv_aload_n hx hb dL_law_866 rfl (lv_at hl 1 rfl) ?_
  refine lv_aload_n hx hb dL_law_867 rfl (lv_at hl 0 rfl) ?_
  refine lv_iload_n hx hb dL_law_868 rfl (lv_at hl 3 rfl) ?_
  refine lv_iconst (v := (1 : Int32)) hx hb dL_law_869 (by decide) ?_
  refine lv_iadd hx hb dL_law_870 ?_
  refine va_sld hx hb hX hbl hbA hS (law_in 1 ex3 (by omega) hL) dL_law_871 ?_
  refine lv_aload_n hx hb dL_law_872 rfl (lv_at hl 0 rfl) ?_
  refine lv_iload_n hx hb dL_law_873 rfl (lv_at hl 3 rfl) ?_
  refine lv_iconst (v := (2 : Int32)) hx hb dL_law_874 (by decide) ?_
  refine lv_iadd hx hb dL_law_875 ?_
  refine va_sld hx hb hX hbl hbA hS (law_in 2 ex3 (by omega) hL) dL_law_876 ?_
  obtain ⟨r, J1, hf, hg, hI⟩ := pu_stood (xs (x3 + (1 : Int32)).toNatClampNeg) (xs (x3 + (2 : Int32)).toNatClampNeg) hI
  refine law_callC (As := [.int (xs (x3 + (1 : Int32)).toNatClampNeg), .int (xs (x3 + (2 : Int32)).toNatClampNeg)]) (st1 := [.int r]) hx hb (hml.trans hl.1.symm) hown hts hK hXs hX0 hI9 (kX4_stood l D cI adc hX0 (xs (x3 + (1 : Int32)).toNatClampNeg) (xs (x3 + (2 : Int32)).toNatClampNeg)  M  _ hf) (cwV 2 hts GLX4_stood rfl rfl rfl (by decide +kernel) ⟨Nat.le_of_ble_eq_true rfl, Nat.le_of_ble_eq_true rfl⟩) rfl rfl rfl (Nat.le_of_ble_eq_true rfl) dL_law_877 ⟨Nat.le_of_ble_eq_true rfl, Nat.le_of_ble_eq_true rfl⟩ (fun H locs hI9 => ?_)
  have hS := hI9.2.2.2.2
  refine lv_aload_n hx hb dL_law_880 rfl (lv_at hl 2 rfl) ?_
  refine lv_aload_n hx hb dL_law_881 rfl (lv_at hl 0 rfl) ?_
  refine lv_iload_n hx hb dL_law_882 rfl (lv_at hl 3 rfl) ?_
  refine lv_iconst (v := (1 : Int32)) hx hb dL_law_883 (by decide) ?_
  refine lv_iadd hx hb dL_law_884 ?_
  refine va_sld hx hb hX hbl hbA hS (law_in 1 ex3 (by omega) hL) dL_law_885 ?_
  refine lv_aload_n hx hb dL_law_886 rfl (lv_at hl 0 rfl) ?_
  refine lv_iload_n hx hb dL_law_887 rfl (lv_at hl 3 rfl) ?_
  refine lv_iconst (v := (2 : Int32)) hx hb dL_law_888 (by decide) ?_
  refine lv_iadd hx hb dL_law_889 ?_
  refine va_sld hx hb hX hbl hbA hS (law_in 2 ex3 (by omega) hL) dL_law_890 ?_
  refine law_callM (As := [.int (xs (x3 + (1 : Int32)).toNatClampNeg), .int (xs (x3 + (2 : Int32)).toNatClampNeg)]) (st1 := [.int r, .int r]) hx hb (hml.trans hl.1.symm) hown hts hK  hI9 (kX5_stood l D cI cZ adm hT0 (xs (x3 + (1 : Int32)).toNatClampNeg) (xs (x3 + (2 : Int32)).toNatClampNeg)  J  _ hg) (cwV 2 hts GLX5_stood rfl rfl rfl (by decide +kernel) ⟨Nat.le_of_ble_eq_true rfl, Nat.le_of_ble_eq_true rfl⟩) rfl rfl rfl (Nat.le_of_ble_eq_true rfl) dL_law_891 ⟨Nat.le_of_ble_eq_true rfl, Nat.le_of_ble_eq_true rfl⟩ (fun H locs hI9 => ?_)
  have hS := hI9.2.2.2.2
  refine lv_icmp_eq (tgt := 1084) hx hb dL_law_894 (by decide) (fun _ => ?_) (fun c => absurd rfl c)
  exact kk _ _ hI _ _ hI9
set_option maxHeartbeats 4000000 in
set_option maxRecDepth 100000 in
theorem law_case_21 {p : Program} {l : Launch} {e : Env} {s : State} {m : MethodId} {below : List Frame} {meth : Method} {c : Code} {D : va_G} {cI cZ : ClassId} {adc adm aS : Nat → Nat} {b L : Nat} {xs : Nat → Int32} (hL : L ≤ 448) (C0 : lw_At p s m meth c b L xs) (hK : va_K D vwCl [(cI, .int), (cZ, .boolean)] s) (hXs : xL aS s) {k : Nat} {x3 : Int32} (ex3 : x3 = nI k) (hk : k + 6 < L) {M J : Mem} (hI : Inv M J) {H : Heap} {locs : List Loc} (hI9 : LW D cI cZ adc adm M J s H locs) {ls : Array Slot} (hl : lv_has ls 4 [(0, .ref b), (1, .ref (adc 0)), (2, .ref (adm 0)), (3, .int x3)])
    (kk : ∀ (M J : Mem), Inv M J → ∀ (H : Heap) (locs : List Loc), LW D cI cZ adc adm M J s H locs → W p l e room_1 s m #[Value.ref b] below meth c H locs 54 1855 (lw_Z below #[Value.ref b] s) (F0 m 1084 ls [])) : W p l e room_1 s m #[Value.ref b] below meth c H locs 54 1855 (lw_Z below #[Value.ref b] s) (F0 m 899 ls []) := by
  obtain ⟨hx, hb, hr, hml, hown, hts, hX, hbl, hlocks, hgv⟩ := C0
  replace hown : s.vm.findClass RL = some m.cls := hown
  have hbA : ¬ (fun q : Nat => s.heap.size ≤ q) b := Nat.not_le.mpr hbl
  have hX0 := xC_X D adc aS
  have hT0 : mX adm 14 (fun _ : State => True) := ⟨fun _ _ _ _ _ _ _ _ => trivial, fun _ _ _ _ _ => trivial⟩
  have hS := hI9.2.2.2.2
  refine lv_aload_n hx hb dL_law_899 rfl (lv_at hl 1 rfl) ?_
  obtain ⟨r, J1, hf, hg, hI⟩ := pu_two  hI
  refine law_callC (As := []) (st1 := [.int r]) hx hb (hml.trans hl.1.symm) hown hts hK hXs hX0 hI9 (kX4_two l D cI adc hX0   M  _ hf) (cwV 0 hts GLX4_two rfl rfl rfl (by decide +kernel) ⟨Nat.le_of_ble_eq_true rfl, Nat.le_of_ble_eq_true rfl⟩) rfl rfl rfl (Nat.le_of_ble_eq_true rfl) dL_law_900 ⟨Nat.le_of_ble_eq_true rfl, Nat.le_of_ble_eq_true rfl⟩ (fun H locs hI9 => ?_)
  have hS := hI9.2.2.2.2
  refine lv_aload_n hx hb dL_law_903 rfl (lv_at hl 2 rfl) ?_
  refine law_callM (As := []) (st1 := [.int r, .int r]) hx hb (hml.trans hl.1.symm) hown hts hK  hI9 (kX5_two l D cI cZ adm hT0   J  _ hg) (cwV 0 hts GLX5_two rfl rfl rfl (by decide +kernel) ⟨Nat.le_of_ble_eq_true rfl, Nat.le_of_ble_eq_true rfl⟩) rfl rfl rfl (Nat.le_of_ble_eq_true rfl) dL_law_904 ⟨Nat.le_of_ble_eq_true rfl, Nat.le_of_ble_eq_true rfl⟩ (fun H locs hI9 => ?_)
  have hS := hI9.2.2.2.2
  refine lv_icmp_eq (tgt := 1084) hx hb dL_law_907 (by decide) (fun _ => ?_) (fun c => absurd rfl c)
  exact kk _ _ hI _ _ hI9
set_option maxHeartbeats 4000000 in
set_option maxRecDepth 100000 in
theorem law_case_22 {p : Program} {l : Launch} {e : Env} {s : State} {m : MethodId} {below : List Frame} {meth : Method} {c : Code} {D : va_G} {cI cZ : ClassId} {adc adm aS : Nat → Nat} {b L : Nat} {xs : Nat → Int32} (hL : L ≤ 448) (C0 : lw_At p s m meth c b L xs) (hK : va_K D vwCl [(cI, .int), (cZ, .boolean)] s) (hXs : xL aS s) {k : Nat} {x3 : Int32} (ex3 : x3 = nI k) (hk : k + 6 < L) {M J : Mem} (hI : Inv M J) {H : Heap} {locs : List Loc} (hI9 : LW D cI cZ adc adm M J s H locs) {ls : Array Slot} (hl : lv_has ls 4 [(0, .ref b), (1, .ref (adc 0)), (2, .ref (adm 0)), (3, .int x3)])
    (kk : ∀ (M J : Mem), Inv M J → ∀ (H : Heap) (locs : List Loc), LW D cI cZ adc adm M J s H locs → W p l e room_1 s m #[Value.ref b] below meth c H locs 54 1855 (lw_Z below #[Value.ref b] s) (F0 m 1084 ls [])) : W p l e room_1 s m #[Value.ref b] below meth c H locs 54 1855 (lw_Z below #[Value.ref b] s) (F0 m 912 ls []) := by
  obtain ⟨hx, hb, hr, hml, hown, hts, hX, hbl, hlocks, hgv⟩ := C0
  replace hown : s.vm.findClass RL = some m.cls := hown
  have hbA : ¬ (fun q : Nat => s.heap.size ≤ q) b := Nat.not_le.mpr hbl
  have hX0 := xC_X D adc aS
  have hT0 : mX adm 14 (fun _ : State => True) := ⟨fun _ _ _ _ _ _ _ _ => trivial, fun _ _ _ _ _ => trivial⟩
  have hS := hI9.2.2.2.2
  refine lv_aload_n hx hb dL_law_912 rfl (lv_at hl 1 rfl) ?_
  refine lv_aload_n hx hb dL_law_913 rfl (lv_at hl 0 rfl) ?_
  refine lv_iload_n hx hb dL_law_914 rfl (lv_at hl 3 rfl) ?_
  refine lv_iconst (v := (1 : Int32)) hx hb dL_law_915 (by decide) ?_
  refine lv_iadd hx hb dL_law_916 ?_
  refine va_sld hx hb hX hbl hbA hS (law_in 1 ex3 (by omega) hL) dL_law_917 ?_
  obtain ⟨r, M1, J1, hf, hg, hI⟩ := pu_go (xs (x3 + (1 : Int32)).toNatClampNeg) hI
  refine law_callC (As := [.int (xs (x3 + (1 : Int32)).toNatClampNeg)]) (st1 := [.int r]) hx hb (hml.trans hl.1.symm) hown hts hK hXs hX0 hI9 (kX4_go l D cI adc hX0 (xs (x3 + (1 : Int32)).toNatClampNeg)  M  _ hf) (cwV 1 hts GLX4_go rfl rfl rfl (by decide +kernel) ⟨Nat.le_of_ble_eq_true rfl, Nat.le_of_ble_eq_true rfl⟩) rfl rfl rfl (Nat.le_of_ble_eq_true rfl) dL_law_918 ⟨Nat.le_of_ble_eq_true rfl, Nat.le_of_ble_eq_true rfl⟩ (fun H locs hI9 => ?_)
  have hS := hI9.2.2.2.2
  refine lv_aload_n hx hb dL_law_921 rfl (lv_at hl 2 rfl) ?_
  refine lv_aload_n hx hb dL_law_922 rfl (lv_at hl 0 rfl) ?_
  refine lv_iload_n hx hb dL_law_923 rfl (lv_at hl 3 rfl) ?_
  refine lv_iconst (v := (1 : Int32)) hx hb dL_law_924 (by decide) ?_
  refine lv_iadd hx hb dL_law_925 ?_
  refine va_sld hx hb hX hbl hbA hS (law_in 1 ex3 (by omega) hL) dL_law_926 ?_
  refine law_callM (As := [.int (xs (x3 + (1 : Int32)).toNatClampNeg)]) (st1 := [.int r, .int r]) hx hb (hml.trans hl.1.symm) hown hts hK  hI9 (kX5_go l D cI cZ adm hT0 (xs (x3 + (1 : Int32)).toNatClampNeg)  J  _ hg) (cwV 1 hts GLX5_go rfl rfl rfl (by decide +kernel) ⟨Nat.le_of_ble_eq_true rfl, Nat.le_of_ble_eq_true rfl⟩) rfl rfl rfl (Nat.le_of_ble_eq_true rfl) dL_law_927 ⟨Nat.le_of_ble_eq_true rfl, Nat.le_of_ble_eq_true rfl⟩ (fun H locs hI9 => ?_)
  have hS := hI9.2.2.2.2
  refine lv_icmp_eq (tgt := 1084) hx hb dL_law_930 (by decide) (fun _ => ?_) (fun c => absurd rfl c)
  exact kk _ _ hI _ _ hI9
set_option maxHeartbeats 4000000 in
set_option maxRecDepth 100000 in
theorem law_case_23 {p : Program} {l : Launch} {e : Env} {s : State} {m : MethodId} {below : List Frame} {meth : Method} {c : Code} {D : va_G} {cI cZ : ClassId} {adc adm aS : Nat → Nat} {b L : Nat} {xs : Nat → Int32} (hL : L ≤ 448) (C0 : lw_At p s m meth c b L xs) (hK : va_K D vwCl [(cI, .int), (cZ, .boolean)] s) (hXs : xL aS s) {k : Nat} {x3 : Int32} (ex3 : x3 = nI k) (hk : k + 6 < L) {M J : Mem} (hI : Inv M J) {H : Heap} {locs : List Loc} (hI9 : LW D cI cZ adc adm M J s H locs) {ls : Array Slot} (hl : lv_has ls 4 [(0, .ref b), (1, .ref (adc 0)), (2, .ref (adm 0)), (3, .int x3)])
    (kk : ∀ (M J : Mem), Inv M J → ∀ (H : Heap) (locs : List Loc), LW D cI cZ adc adm M J s H locs → W p l e room_1 s m #[Value.ref b] below meth c H locs 54 1855 (lw_Z below #[Value.ref b] s) (F0 m 1084 ls [])) : W p l e room_1 s m #[Value.ref b] below meth c H locs 54 1855 (lw_Z below #[Value.ref b] s) (F0 m 935 ls []) := by
  obtain ⟨hx, hb, hr, hml, hown, hts, hX, hbl, hlocks, hgv⟩ := C0
  replace hown : s.vm.findClass RL = some m.cls := hown
  have hbA : ¬ (fun q : Nat => s.heap.size ≤ q) b := Nat.not_le.mpr hbl
  have hX0 := xC_X D adc aS
  have hT0 : mX adm 14 (fun _ : State => True) := ⟨fun _ _ _ _ _ _ _ _ => trivial, fun _ _ _ _ _ => trivial⟩
  have hS := hI9.2.2.2.2
  refine lv_aload_n hx hb dL_law_935 rfl (lv_at hl 1 rfl) ?_
  refine lv_aload_n hx hb dL_law_936 rfl (lv_at hl 0 rfl) ?_
  refine lv_iload_n hx hb dL_law_937 rfl (lv_at hl 3 rfl) ?_
  refine lv_iconst (v := (1 : Int32)) hx hb dL_law_938 (by decide) ?_
  refine lv_iadd hx hb dL_law_939 ?_
  refine va_sld hx hb hX hbl hbA hS (law_in 1 ex3 (by omega) hL) dL_law_940 ?_
  refine lv_aload_n hx hb dL_law_941 rfl (lv_at hl 0 rfl) ?_
  refine lv_iload_n hx hb dL_law_942 rfl (lv_at hl 3 rfl) ?_
  refine lv_iconst (v := (2 : Int32)) hx hb dL_law_943 (by decide) ?_
  refine lv_iadd hx hb dL_law_944 ?_
  refine va_sld hx hb hX hbl hbA hS (law_in 2 ex3 (by omega) hL) dL_law_945 ?_
  obtain ⟨r, J1, hf, hg, hI⟩ := pu_ill (xs (x3 + (1 : Int32)).toNatClampNeg) (xs (x3 + (2 : Int32)).toNatClampNeg) hI
  refine law_callC (As := [.int (xs (x3 + (1 : Int32)).toNatClampNeg), .int (xs (x3 + (2 : Int32)).toNatClampNeg)]) (st1 := [.int r]) hx hb (hml.trans hl.1.symm) hown hts hK hXs hX0 hI9 (kX4_ill l D cI adc hX0 (xs (x3 + (1 : Int32)).toNatClampNeg) (xs (x3 + (2 : Int32)).toNatClampNeg)  M  _ hf) (cwV 2 hts GLX4_ill rfl rfl rfl (by decide +kernel) ⟨Nat.le_of_ble_eq_true rfl, Nat.le_of_ble_eq_true rfl⟩) rfl rfl rfl (Nat.le_of_ble_eq_true rfl) dL_law_946 ⟨Nat.le_of_ble_eq_true rfl, Nat.le_of_ble_eq_true rfl⟩ (fun H locs hI9 => ?_)
  have hS := hI9.2.2.2.2
  refine lv_aload_n hx hb dL_law_949 rfl (lv_at hl 2 rfl) ?_
  refine lv_aload_n hx hb dL_law_950 rfl (lv_at hl 0 rfl) ?_
  refine lv_iload_n hx hb dL_law_951 rfl (lv_at hl 3 rfl) ?_
  refine lv_iconst (v := (1 : Int32)) hx hb dL_law_952 (by decide) ?_
  refine lv_iadd hx hb dL_law_953 ?_
  refine va_sld hx hb hX hbl hbA hS (law_in 1 ex3 (by omega) hL) dL_law_954 ?_
  refine lv_aload_n hx hb dL_law_955 rfl (lv_at hl 0 rfl) ?_
  refine lv_iload_n hx hb dL_law_956 rfl (lv_at hl 3 rfl) ?_
  refine lv_iconst (v := (2 : Int32)) hx hb dL_law_957 (by decide) ?_
  refine lv_iadd hx hb dL_law_958 ?_
  refine va_sld hx hb hX hbl hbA hS (law_in 2 ex3 (by omega) hL) dL_law_959 ?_
  refine law_callM (As := [.int (xs (x3 + (1 : Int32)).toNatClampNeg), .int (xs (x3 + (2 : Int32)).toNatClampNeg)]) (st1 := [.int r, .int r]) hx hb (hml.trans hl.1.symm) hown hts hK  hI9 (kX5_ill l D cI cZ adm hT0 (xs (x3 + (1 : Int32)).toNatClampNeg) (xs (x3 + (2 : Int32)).toNatClampNeg)  J  _ hg) (cwV 2 hts GLX5_ill rfl rfl rfl (by decide +kernel) ⟨Nat.le_of_ble_eq_true rfl, Nat.le_of_ble_eq_true rfl⟩) rfl rfl rfl (Nat.le_of_ble_eq_true rfl) dL_law_960 ⟨Nat.le_of_ble_eq_true rfl, Nat.le_of_ble_eq_true rfl⟩ (fun H locs hI9 => ?_)
  have hS := hI9.2.2.2.2
  refine lv_icmp_eq (tgt := 1084) hx hb dL_law_963 (by decide) (fun _ => ?_) (fun c => absurd rfl c)
  exact kk _ _ hI _ _ hI9
set_option maxHeartbeats 4000000 in
set_option maxRecDepth 100000 in
theorem law_case_24 {p : Program} {l : Launch} {e : Env} {s : State} {m : MethodId} {below : List Frame} {meth : Method} {c : Code} {D : va_G} {cI cZ : ClassId} {adc adm aS : Nat → Nat} {b L : Nat} {xs : Nat → Int32} (hL : L ≤ 448) (C0 : lw_At p s m meth c b L xs) (hK : va_K D vwCl [(cI, .int), (cZ, .boolean)] s) (hXs : xL aS s) {k : Nat} {x3 : Int32} (ex3 : x3 = nI k) (hk : k + 6 < L) {M J : Mem} (hI : Inv M J) {H : Heap} {locs : List Loc} (hI9 : LW D cI cZ adc adm M J s H locs) {ls : Array Slot} (hl : lv_has ls 4 [(0, .ref b), (1, .ref (adc 0)), (2, .ref (adm 0)), (3, .int x3)])
    (kk : ∀ (M J : Mem), Inv M J → ∀ (H : Heap) (locs : List Loc), LW D cI cZ adc adm M J s H locs → W p l e room_1 s m #[Value.ref b] below meth c H locs 54 1855 (lw_Z below #[Value.ref b] s) (F0 m 1084 ls [])) : W p l e room_1 s m #[Value.ref b] below meth c H locs 54 1855 (lw_Z below #[Value.ref b] s) (F0 m 968 ls []) := by
  obtain ⟨hx, hb, hr, hml, hown, hts, hX, hbl, hlocks, hgv⟩ := C0
  replace hown : s.vm.findClass RL = some m.cls := hown
  have hbA : ¬ (fun q : Nat => s.heap.size ≤ q) b := Nat.not_le.mpr hbl
  have hX0 := xC_X D adc aS
  have hT0 : mX adm 14 (fun _ : State => True) := ⟨fun _ _ _ _ _ _ _ _ => trivial, fun _ _ _ _ _ => trivial⟩
  have hS := hI9.2.2.2.2
  refine lv_aload_n hx hb dL_law_968 rfl (lv_at hl 1 rfl) ?_
  refine lv_aload_n hx hb dL_law_969 rfl (lv_at hl 0 rfl) ?_
  refine lv_iload_n hx hb dL_law_970 rfl (lv_at hl 3 rfl) ?_
  refine lv_iconst (v := (1 : Int32)) hx hb dL_law_971 (by decide) ?_
  refine lv_iadd hx hb dL_law_972 ?_
  refine va_sld hx hb hX hbl hbA hS (law_in 1 ex3 (by omega) hL) dL_law_973 ?_
  refine lv_aload_n hx hb dL_law_974 rfl (lv_at hl 0 rfl) ?_
  refine lv_iload_n hx hb dL_law_975 rfl (lv_at hl 3 rfl) ?_
  refine lv_iconst (v := (2 : Int32)) hx hb dL_law_976 (by decide) ?_
  refine lv_iadd hx hb dL_law_977 ?_
  refine va_sld hx hb hX hbl hbA hS (law_in 2 ex3 (by omega) hL) dL_law_978 ?_
  obtain ⟨r, M1, J1, hf, hg, hI⟩ := pu_rate (xs (x3 + (1 : Int32)).toNatClampNeg) (xs (x3 + (2 : Int32)).toNatClampNeg) hI
  refine law_callC (As := [.int (xs (x3 + (1 : Int32)).toNatClampNeg), .int (xs (x3 + (2 : Int32)).toNatClampNeg)]) (st1 := [.int r]) hx hb (hml.trans hl.1.symm) hown hts hK hXs hX0 hI9 (kX4_rate l D cI adc hX0 (xs (x3 + (1 : Int32)).toNatClampNeg) (xs (x3 + (2 : Int32)).toNatClampNeg)  M  _ hf) (cwV 2 hts GLX4_rate rfl rfl rfl (by decide +kernel) ⟨Nat.le_of_ble_eq_true rfl, Nat.le_of_ble_eq_true rfl⟩) rfl rfl rfl (Nat.le_of_ble_eq_true rfl) dL_law_979 ⟨Nat.le_of_ble_eq_true rfl, Nat.le_of_ble_eq_true rfl⟩ (fun H locs hI9 => ?_)
  have hS := hI9.2.2.2.2
  refine lv_aload_n hx hb dL_law_982 rfl (lv_at hl 2 rfl) ?_
  refine lv_aload_n hx hb dL_law_983 rfl (lv_at hl 0 rfl) ?_
  refine lv_iload_n hx hb dL_law_984 rfl (lv_at hl 3 rfl) ?_
  refine lv_iconst (v := (1 : Int32)) hx hb dL_law_985 (by decide) ?_
  refine lv_iadd hx hb dL_law_986 ?_
  refine va_sld hx hb hX hbl hbA hS (law_in 1 ex3 (by omega) hL) dL_law_987 ?_
  refine lv_aload_n hx hb dL_law_988 rfl (lv_at hl 0 rfl) ?_
  refine lv_iload_n hx hb dL_law_989 rfl (lv_at hl 3 rfl) ?_
  refine lv_iconst (v := (2 : Int32)) hx hb dL_law_990 (by decide) ?_
  refine lv_iadd hx hb dL_law_991 ?_
  refine va_sld hx hb hX hbl hbA hS (law_in 2 ex3 (by omega) hL) dL_law_992 ?_
  refine law_callM (As := [.int (xs (x3 + (1 : Int32)).toNatClampNeg), .int (xs (x3 + (2 : Int32)).toNatClampNeg)]) (st1 := [.int r, .int r]) hx hb (hml.trans hl.1.symm) hown hts hK  hI9 (kX5_rate l D cI cZ adm hT0 (xs (x3 + (1 : Int32)).toNatClampNeg) (xs (x3 + (2 : Int32)).toNatClampNeg)  J  _ hg) (cwV 2 hts GLX5_rate rfl rfl rfl (by decide +kernel) ⟨Nat.le_of_ble_eq_true rfl, Nat.le_of_ble_eq_true rfl⟩) rfl rfl rfl (Nat.le_of_ble_eq_true rfl) dL_law_993 ⟨Nat.le_of_ble_eq_true rfl, Nat.le_of_ble_eq_true rfl⟩ (fun H locs hI9 => ?_)
  have hS := hI9.2.2.2.2
  refine lv_icmp_eq (tgt := 1084) hx hb dL_law_996 (by decide) (fun _ => ?_) (fun c => absurd rfl c)
  exact kk _ _ hI _ _ hI9
set_option maxHeartbeats 4000000 in
set_option maxRecDepth 100000 in
theorem law_case_25 {p : Program} {l : Launch} {e : Env} {s : State} {m : MethodId} {below : List Frame} {meth : Method} {c : Code} {D : va_G} {cI cZ : ClassId} {adc adm aS : Nat → Nat} {b L : Nat} {xs : Nat → Int32} (hL : L ≤ 448) (C0 : lw_At p s m meth c b L xs) (hK : va_K D vwCl [(cI, .int), (cZ, .boolean)] s) (hXs : xL aS s) {k : Nat} {x3 : Int32} (ex3 : x3 = nI k) (hk : k + 6 < L) {M J : Mem} (hI : Inv M J) {H : Heap} {locs : List Loc} (hI9 : LW D cI cZ adc adm M J s H locs) {ls : Array Slot} (hl : lv_has ls 4 [(0, .ref b), (1, .ref (adc 0)), (2, .ref (adm 0)), (3, .int x3)])
    (kk : ∀ (M J : Mem), Inv M J → ∀ (H : Heap) (locs : List Loc), LW D cI cZ adc adm M J s H locs → W p l e room_1 s m #[Value.ref b] below meth c H locs 54 1855 (lw_Z below #[Value.ref b] s) (F0 m 1084 ls [])) : W p l e room_1 s m #[Value.ref b] below meth c H locs 54 1855 (lw_Z below #[Value.ref b] s) (F0 m 1001 ls []) := by
  obtain ⟨hx, hb, hr, hml, hown, hts, hX, hbl, hlocks, hgv⟩ := C0
  replace hown : s.vm.findClass RL = some m.cls := hown
  have hbA : ¬ (fun q : Nat => s.heap.size ≤ q) b := Nat.not_le.mpr hbl
  have hX0 := xC_X D adc aS
  have hT0 : mX adm 14 (fun _ : State => True) := ⟨fun _ _ _ _ _ _ _ _ => trivial, fun _ _ _ _ _ => trivial⟩
  have hS := hI9.2.2.2.2
  refine lv_aload_n hx hb dL_law_1001 rfl (lv_at hl 1 rfl) ?_
  refine lv_aload_n hx hb dL_law_1002 rfl (lv_at hl 0 rfl) ?_
  refine lv_iload_n hx hb dL_law_1003 rfl (lv_at hl 3 rfl) ?_
  refine lv_iconst (v := (1 : Int32)) hx hb dL_law_1004 (by decide) ?_
  refine lv_iadd hx hb dL_law_1005 ?_
  refine va_sld hx hb hX hbl hbA hS (law_in 1 ex3 (by omega) hL) dL_law_1006 ?_
  obtain ⟨r, M1, J1, hf, hg, hI⟩ := pu_keep (xs (x3 + (1 : Int32)).toNatClampNeg) hI
  refine law_callC (As := [.int (xs (x3 + (1 : Int32)).toNatClampNeg)]) (st1 := [.int r]) hx hb (hml.trans hl.1.symm) hown hts hK hXs hX0 hI9 (kX4_keep l D cI adc hX0 (xs (x3 + (1 : Int32)).toNatClampNeg)  M  _ hf) (cwV 1 hts GLX4_keep rfl rfl rfl (by decide +kernel) ⟨Nat.le_of_ble_eq_true rfl, Nat.le_of_ble_eq_true rfl⟩) rfl rfl rfl (Nat.le_of_ble_eq_true rfl) dL_law_1007 ⟨Nat.le_of_ble_eq_true rfl, Nat.le_of_ble_eq_true rfl⟩ (fun H locs hI9 => ?_)
  have hS := hI9.2.2.2.2
  refine lv_aload_n hx hb dL_law_1010 rfl (lv_at hl 2 rfl) ?_
  refine lv_aload_n hx hb dL_law_1011 rfl (lv_at hl 0 rfl) ?_
  refine lv_iload_n hx hb dL_law_1012 rfl (lv_at hl 3 rfl) ?_
  refine lv_iconst (v := (1 : Int32)) hx hb dL_law_1013 (by decide) ?_
  refine lv_iadd hx hb dL_law_1014 ?_
  refine va_sld hx hb hX hbl hbA hS (law_in 1 ex3 (by omega) hL) dL_law_1015 ?_
  refine law_callM (As := [.int (xs (x3 + (1 : Int32)).toNatClampNeg)]) (st1 := [.int r, .int r]) hx hb (hml.trans hl.1.symm) hown hts hK  hI9 (kX5_keep l D cI cZ adm hT0 (xs (x3 + (1 : Int32)).toNatClampNeg)  J  _ hg) (cwV 1 hts GLX5_keep rfl rfl rfl (by decide +kernel) ⟨Nat.le_of_ble_eq_true rfl, Nat.le_of_ble_eq_true rfl⟩) rfl rfl rfl (Nat.le_of_ble_eq_true rfl) dL_law_1016 ⟨Nat.le_of_ble_eq_true rfl, Nat.le_of_ble_eq_true rfl⟩ (fun H locs hI9 => ?_)
  have hS := hI9.2.2.2.2
  refine lv_icmp_eq (tgt := 1084) hx hb dL_law_1019 (by decide) (fun _ => ?_) (fun c => absurd rfl c)
  exact kk _ _ hI _ _ hI9
set_option maxHeartbeats 4000000 in
set_option maxRecDepth 100000 in
theorem law_case_26 {p : Program} {l : Launch} {e : Env} {s : State} {m : MethodId} {below : List Frame} {meth : Method} {c : Code} {D : va_G} {cI cZ : ClassId} {adc adm aS : Nat → Nat} {b L : Nat} {xs : Nat → Int32} (hL : L ≤ 448) (C0 : lw_At p s m meth c b L xs) (hK : va_K D vwCl [(cI, .int), (cZ, .boolean)] s) (hXs : xL aS s) {k : Nat} {x3 : Int32} (ex3 : x3 = nI k) (hk : k + 6 < L) {M J : Mem} (hI : Inv M J) {H : Heap} {locs : List Loc} (hI9 : LW D cI cZ adc adm M J s H locs) {ls : Array Slot} (hl : lv_has ls 4 [(0, .ref b), (1, .ref (adc 0)), (2, .ref (adm 0)), (3, .int x3)])
    (kk : ∀ (M J : Mem), Inv M J → ∀ (H : Heap) (locs : List Loc), LW D cI cZ adc adm M J s H locs → W p l e room_1 s m #[Value.ref b] below meth c H locs 54 1855 (lw_Z below #[Value.ref b] s) (F0 m 1084 ls [])) : W p l e room_1 s m #[Value.ref b] below meth c H locs 54 1855 (lw_Z below #[Value.ref b] s) (F0 m 1024 ls []) := by
  obtain ⟨hx, hb, hr, hml, hown, hts, hX, hbl, hlocks, hgv⟩ := C0
  replace hown : s.vm.findClass RL = some m.cls := hown
  have hbA : ¬ (fun q : Nat => s.heap.size ≤ q) b := Nat.not_le.mpr hbl
  have hX0 := xC_X D adc aS
  have hT0 : mX adm 14 (fun _ : State => True) := ⟨fun _ _ _ _ _ _ _ _ => trivial, fun _ _ _ _ _ => trivial⟩
  have hS := hI9.2.2.2.2
  refine lv_aload_n hx hb dL_law_1024 rfl (lv_at hl 1 rfl) ?_
  refine lv_aload_n hx hb dL_law_1025 rfl (lv_at hl 0 rfl) ?_
  refine lv_iload_n hx hb dL_law_1026 rfl (lv_at hl 3 rfl) ?_
  refine lv_iconst (v := (1 : Int32)) hx hb dL_law_1027 (by decide) ?_
  refine lv_iadd hx hb dL_law_1028 ?_
  refine va_sld hx hb hX hbl hbA hS (law_in 1 ex3 (by omega) hL) dL_law_1029 ?_
  obtain ⟨r, M1, J1, hf, hg, hI⟩ := pu_back (xs (x3 + (1 : Int32)).toNatClampNeg) hI
  refine law_callC (As := [.int (xs (x3 + (1 : Int32)).toNatClampNeg)]) (st1 := [.int r]) hx hb (hml.trans hl.1.symm) hown hts hK hXs hX0 hI9 (kX4_back l D cI adc hX0 (xs (x3 + (1 : Int32)).toNatClampNeg)  M  _ hf) (cwV 1 hts GLX4_back rfl rfl rfl (by decide +kernel) ⟨Nat.le_of_ble_eq_true rfl, Nat.le_of_ble_eq_true rfl⟩) rfl rfl rfl (Nat.le_of_ble_eq_true rfl) dL_law_1030 ⟨Nat.le_of_ble_eq_true rfl, Nat.le_of_ble_eq_true rfl⟩ (fun H locs hI9 => ?_)
  have hS := hI9.2.2.2.2
  refine lv_aload_n hx hb dL_law_1033 rfl (lv_at hl 2 rfl) ?_
  refine lv_aload_n hx hb dL_law_1034 rfl (lv_at hl 0 rfl) ?_
  refine lv_iload_n hx hb dL_law_1035 rfl (lv_at hl 3 rfl) ?_
  refine lv_iconst (v := (1 : Int32)) hx hb dL_law_1036 (by decide) ?_
  refine lv_iadd hx hb dL_law_1037 ?_
  refine va_sld hx hb hX hbl hbA hS (law_in 1 ex3 (by omega) hL) dL_law_1038 ?_
  refine law_callM (As := [.int (xs (x3 + (1 : Int32)).toNatClampNeg)]) (st1 := [.int r, .int r]) hx hb (hml.trans hl.1.symm) hown hts hK  hI9 (kX5_back l D cI cZ adm hT0 (xs (x3 + (1 : Int32)).toNatClampNeg)  J  _ hg) (cwV 1 hts GLX5_back rfl rfl rfl (by decide +kernel) ⟨Nat.le_of_ble_eq_true rfl, Nat.le_of_ble_eq_true rfl⟩) rfl rfl rfl (Nat.le_of_ble_eq_true rfl) dL_law_1039 ⟨Nat.le_of_ble_eq_true rfl, Nat.le_of_ble_eq_true rfl⟩ (fun H locs hI9 => ?_)
  have hS := hI9.2.2.2.2
  refine lv_icmp_eq (tgt := 1084) hx hb dL_law_1042 (by decide) (fun _ => ?_) (fun c => absurd rfl c)
  exact kk _ _ hI _ _ hI9
set_option maxHeartbeats 4000000 in
set_option maxRecDepth 100000 in
theorem law_case_27 {p : Program} {l : Launch} {e : Env} {s : State} {m : MethodId} {below : List Frame} {meth : Method} {c : Code} {D : va_G} {cI cZ : ClassId} {adc adm aS : Nat → Nat} {b L : Nat} {xs : Nat → Int32} (hL : L ≤ 448) (C0 : lw_At p s m meth c b L xs) (hK : va_K D vwCl [(cI, .int), (cZ, .boolean)] s) (hXs : xL aS s) {k : Nat} {x3 : Int32} (ex3 : x3 = nI k) (hk : k + 6 < L) {M J : Mem} (hI : Inv M J) {H : Heap} {locs : List Loc} (hI9 : LW D cI cZ adc adm M J s H locs) {ls : Array Slot} (hl : lv_has ls 4 [(0, .ref b), (1, .ref (adc 0)), (2, .ref (adm 0)), (3, .int x3)])
    (kk : ∀ (M J : Mem), Inv M J → ∀ (H : Heap) (locs : List Loc), LW D cI cZ adc adm M J s H locs → W p l e room_1 s m #[Value.ref b] below meth c H locs 54 1855 (lw_Z below #[Value.ref b] s) (F0 m 1084 ls [])) : W p l e room_1 s m #[Value.ref b] below meth c H locs 54 1855 (lw_Z below #[Value.ref b] s) (F0 m 1047 ls []) := by
  obtain ⟨hx, hb, hr, hml, hown, hts, hX, hbl, hlocks, hgv⟩ := C0
  replace hown : s.vm.findClass RL = some m.cls := hown
  have hbA : ¬ (fun q : Nat => s.heap.size ≤ q) b := Nat.not_le.mpr hbl
  have hX0 := xC_X D adc aS
  have hT0 : mX adm 14 (fun _ : State => True) := ⟨fun _ _ _ _ _ _ _ _ => trivial, fun _ _ _ _ _ => trivial⟩
  have hS := hI9.2.2.2.2
  refine lv_aload_n hx hb dL_law_1047 rfl (lv_at hl 1 rfl) ?_
  refine lv_aload_n hx hb dL_law_1048 rfl (lv_at hl 0 rfl) ?_
  refine lv_iload_n hx hb dL_law_1049 rfl (lv_at hl 3 rfl) ?_
  refine lv_iconst (v := (1 : Int32)) hx hb dL_law_1050 (by decide) ?_
  refine lv_iadd hx hb dL_law_1051 ?_
  refine va_sld hx hb hX hbl hbA hS (law_in 1 ex3 (by omega) hL) dL_law_1052 ?_
  obtain ⟨r, J1, hf, hg, hI⟩ := pu_count (xs (x3 + (1 : Int32)).toNatClampNeg) hI
  refine law_callC (As := [.int (xs (x3 + (1 : Int32)).toNatClampNeg)]) (st1 := [.int r]) hx hb (hml.trans hl.1.symm) hown hts hK hXs hX0 hI9 (kX4_count l D cI adc hX0 (xs (x3 + (1 : Int32)).toNatClampNeg)  M  _ hf) (cwV 1 hts GLX4_count rfl rfl rfl (by decide +kernel) ⟨Nat.le_of_ble_eq_true rfl, Nat.le_of_ble_eq_true rfl⟩) rfl rfl rfl (Nat.le_of_ble_eq_true rfl) dL_law_1053 ⟨Nat.le_of_ble_eq_true rfl, Nat.le_of_ble_eq_true rfl⟩ (fun H locs hI9 => ?_)
  have hS := hI9.2.2.2.2
  refine lv_aload_n hx hb dL_law_1056 rfl (lv_at hl 2 rfl) ?_
  refine lv_aload_n hx hb dL_law_1057 rfl (lv_at hl 0 rfl) ?_
  refine lv_iload_n hx hb dL_law_1058 rfl (lv_at hl 3 rfl) ?_
  refine lv_iconst (v := (1 : Int32)) hx hb dL_law_1059 (by decide) ?_
  refine lv_iadd hx hb dL_law_1060 ?_
  refine va_sld hx hb hX hbl hbA hS (law_in 1 ex3 (by omega) hL) dL_law_1061 ?_
  refine law_callM (As := [.int (xs (x3 + (1 : Int32)).toNatClampNeg)]) (st1 := [.int r, .int r]) hx hb (hml.trans hl.1.symm) hown hts hK  hI9 (kX5_count l D cI cZ adm hT0 (xs (x3 + (1 : Int32)).toNatClampNeg)  J  _ hg) (cwV 1 hts GLX5_count rfl rfl rfl (by decide +kernel) ⟨Nat.le_of_ble_eq_true rfl, Nat.le_of_ble_eq_true rfl⟩) rfl rfl rfl (Nat.le_of_ble_eq_true rfl) dL_law_1062 ⟨Nat.le_of_ble_eq_true rfl, Nat.le_of_ble_eq_true rfl⟩ (fun H locs hI9 => ?_)
  have hS := hI9.2.2.2.2
  refine lv_icmp_eq (tgt := 1084) hx hb dL_law_1065 (by decide) (fun _ => ?_) (fun c => absurd rfl c)
  exact kk _ _ hI _ _ hI9
set_option maxHeartbeats 4000000 in
set_option maxRecDepth 100000 in
theorem law_case_28 {p : Program} {l : Launch} {e : Env} {s : State} {m : MethodId} {below : List Frame} {meth : Method} {c : Code} {D : va_G} {cI cZ : ClassId} {adc adm aS : Nat → Nat} {b L : Nat} {xs : Nat → Int32} (hL : L ≤ 448) (C0 : lw_At p s m meth c b L xs) (hK : va_K D vwCl [(cI, .int), (cZ, .boolean)] s) (hXs : xL aS s) {k : Nat} {x3 : Int32} (ex3 : x3 = nI k) (hk : k + 6 < L) {M J : Mem} (hI : Inv M J) {H : Heap} {locs : List Loc} (hI9 : LW D cI cZ adc adm M J s H locs) {ls : Array Slot} (hl : lv_has ls 4 [(0, .ref b), (1, .ref (adc 0)), (2, .ref (adm 0)), (3, .int x3)])
    (kk : ∀ (M J : Mem), Inv M J → ∀ (H : Heap) (locs : List Loc), LW D cI cZ adc adm M J s H locs → W p l e room_1 s m #[Value.ref b] below meth c H locs 54 1855 (lw_Z below #[Value.ref b] s) (F0 m 1084 ls [])) : W p l e room_1 s m #[Value.ref b] below meth c H locs 54 1855 (lw_Z below #[Value.ref b] s) (F0 m 1070 ls []) := by
  obtain ⟨hx, hb, hr, hml, hown, hts, hX, hbl, hlocks, hgv⟩ := C0
  replace hown : s.vm.findClass RL = some m.cls := hown
  have hbA : ¬ (fun q : Nat => s.heap.size ≤ q) b := Nat.not_le.mpr hbl
  have hX0 := xC_X D adc aS
  have hT0 : mX adm 14 (fun _ : State => True) := ⟨fun _ _ _ _ _ _ _ _ => trivial, fun _ _ _ _ _ => trivial⟩
  have hS := hI9.2.2.2.2
  refine lv_aload_n hx hb dL_law_1070 rfl (lv_at hl 1 rfl) ?_
  obtain ⟨r, J1, hf, hg, hI⟩ := pu_trace  hI
  refine law_callC (As := []) (st1 := [.long r]) hx hb (hml.trans hl.1.symm) hown hts hK hXs hX0 hI9 (kX4_trace l D cI adc hX0   M  _ hf) (cwV 0 hts GLX4_trace rfl rfl rfl (by decide +kernel) ⟨Nat.le_of_ble_eq_true rfl, Nat.le_of_ble_eq_true rfl⟩) rfl rfl rfl (Nat.le_of_ble_eq_true rfl) dL_law_1071 ⟨Nat.le_of_ble_eq_true rfl, Nat.le_of_ble_eq_true rfl⟩ (fun H locs hI9 => ?_)
  have hS := hI9.2.2.2.2
  refine lv_aload_n hx hb dL_law_1074 rfl (lv_at hl 2 rfl) ?_
  refine law_callM (As := []) (st1 := [.long r, .long r]) hx hb (hml.trans hl.1.symm) hown hts hK  hI9 (kX5_trace l D cI cZ adm hT0   J  _ hg) (cwV 0 hts GLX5_trace rfl rfl rfl (by decide +kernel) ⟨Nat.le_of_ble_eq_true rfl, Nat.le_of_ble_eq_true rfl⟩) rfl rfl rfl (Nat.le_of_ble_eq_true rfl) dL_law_1075 ⟨Nat.le_of_ble_eq_true rfl, Nat.le_of_ble_eq_true rfl⟩ (fun H locs hI9 => ?_)
  have hS := hI9.2.2.2.2
  refine W.lcmp hx hb dL_law_1078 ?_
  refine lv_if_eq (tgt := 1084) hx hb dL_law_1079 (by decide) (fun _ => ?_) (fun c => absurd (by simp [lg_cmp]) c)
  exact kk _ _ hI _ _ hI9
set_option maxHeartbeats 4000000 in
set_option maxRecDepth 100000 in
/-- THE LAW'S LOOP: at its head both memories stand for one state -/
theorem law_loop {p : Program} {l : Launch} {e : Env} {s : State} {m : MethodId} {below : List Frame} {meth : Method} {c : Code} {D : va_G} {cI cZ : ClassId} {adc adm aS : Nat → Nat} {b L : Nat} {xs : Nat → Int32} (hL : L ≤ 448) (C0 : lw_At p s m meth c b L xs) (hK : va_K D vwCl [(cI, .int), (cZ, .boolean)] s) (hXs : xL aS s) :
    ∀ (n k : Nat) (x3 : Int32), L + 8 ≤ k + n → k ≤ L + 7 → x3 = nI k → ∀ (M J : Mem), Inv M J → ∀ (H : Heap) (locs : List Loc), LW D cI cZ adc adm M J s H locs → ∀ (ls : Array Slot), lv_has ls 4 [(0, .ref b), (1, .ref (adc 0)), (2, .ref (adm 0)), (3, .int x3)] → W p l e room_1 s m #[Value.ref b] below meth c H locs 54 1855 (lw_Z below #[Value.ref b] s) (F0 m 18 ls []) := by
  have C1 := C0
  obtain ⟨hx, hb, hr, hml, hown, hts, hX, hbl, hlocks, hgv⟩ := C0
  replace hown : s.vm.findClass RL = some m.cls := hown
  have hbA : ¬ (fun q : Nat => s.heap.size ≤ q) b := Nat.not_le.mpr hbl
  have hX0 := xC_X D adc aS
  have hT0 : mX adm 14 (fun _ : State => True) := ⟨fun _ _ _ _ _ _ _ _ => trivial, fun _ _ _ _ _ => trivial⟩
  intro n
  induction n with
  | zero => intro k x3 h1 h2; exact absurd h1 (by omega)
  | succ n ih =>
    intro k x3 hkn hkl ex3 M J hI H locs hI9 ls hl
    have hS := hI9.2.2.2.2
    refine lv_iload_n hx hb dL_law_18 rfl (lv_at hl 3 rfl) ?_
    refine lv_aload_n hx hb dL_law_19 rfl (lv_at hl 0 rfl) ?_
    refine va_slen hx hb hX hbl hbA hS dL_law_20 ?_
    refine lv_bipush (v := (7 : Int32)) hx hb dL_law_21 (by decide) ?_
    refine lv_isub hx hb dL_law_23 ?_
    refine lv_icmp_gt (tgt := 1090) hx hb dL_law_24 (by decide) (fun c9 => ?_) (fun c9 => ?_)
    · refine lv_iconst (v := 1) hx hb dL_law_1090 (by decide) ?_
      refine va_forget (fun q hq => hS.2.2 q hq) ?_
      refine W.widen (k := 600000) (n := 7302250) (Nat.le_of_ble_eq_true rfl) (Nat.le_of_ble_eq_true rfl) ?_
      exact lw_ret hx hb hr hlocks dL_law_1091
    · have hk6 : k + 6 < L := by
        rcases Nat.lt_or_ge (k + 6) L with q | q
        · exact q
        · refine absurd ?_ c9
          rw [ex3, show (Int32.ofNat L - 7 : Int32) = nI L - nI 7 from rfl]
          refine Int32.lt_iff_toInt_lt.mpr ?_
          rw [pk_sub_toInt (by omega) (by omega), nI_toInt (by omega)]
          omega
      have T : ∀ (M J : Mem), Inv M J → ∀ (H : Heap) (locs : List Loc), LW D cI cZ adc adm M J s H locs → W p l e room_1 s m #[Value.ref b] below meth c H locs 54 1855 (lw_Z below #[Value.ref b] s) (F0 m 1084 ls []) := by
        intro M J hI H locs hI9
        obtain ⟨y3, ey3⟩ : ∃ y : Int32, y = x3 + 7 := ⟨_, rfl⟩
        refine lv_iinc (v := y3) (lv' := [(3, .int y3), (0, .ref b), (1, .ref (adc 0)), (2, .ref (adm 0))]) hx hb dL_law_1084 hl (k := 3) rfl (by rw [ey3]; rfl) (by decide) rfl (fun ls hl => ?_)
        refine lv_goto (tgt := 18) hx hb dL_law_1087 (by decide) ?_
        exact ih (k + 7) y3 (by omega) (by omega) (by rw [ey3, ex3, show (7 : Int32) = nI 7 from rfl, nI_add]) M J hI H locs hI9 ls (lv_sub hl [1, 2, 3, 0] rfl)
      refine lv_aload_n hx hb dL_law_27 rfl (lv_at hl 0 rfl) ?_
      refine lv_iload_n hx hb dL_law_28 rfl (lv_at hl 3 rfl) ?_
      refine va_sld hx hb hX hbl hbA hS (by rw [ex3]; exact vp_in_nI (by omega) (by omega)) dL_law_29 ?_
      refine lv_bipush (v := (31 : Int32)) hx hb dL_law_30 (by decide) ?_
      refine lv_iand hx hb dL_law_32 ?_
      refine lv_topi (fun w ew => ?_)
      obtain ⟨w0, hw0, ew0⟩ := pk_andE (xs x3.toNatClampNeg) (m := 31) 5 (by decide)
      rw [ew0] at ew
      by_cases e0 : w = (0 : Int32)
      · refine lv_tableIn (off := 131) (tgt := 164) hx hb dL_law_33 (by rw [e0]; decide) (by rw [e0]; decide) (by rw [e0]; rfl) (by decide) ?_
        exact law_case_0 hL C1 hK hXs ex3 hk6 hI hI9 hl T
      by_cases e1 : w = (1 : Int32)
      · refine lv_tableIn (off := 194) (tgt := 227) hx hb dL_law_33 (by rw [e1]; decide) (by rw [e1]; decide) (by rw [e1]; rfl) (by decide) ?_
        exact law_case_1 hL C1 hK hXs ex3 hk6 hI hI9 hl T
      by_cases e2 : w = (2 : Int32)
      · refine lv_tableIn (off := 207) (tgt := 240) hx hb dL_law_33 (by rw [e2]; decide) (by rw [e2]; decide) (by rw [e2]; rfl) (by decide) ?_
        exact law_case_2 hL C1 hK hXs ex3 hk6 hI hI9 hl T
      by_cases e3 : w = (3 : Int32)
      · refine lv_tableIn (off := 220) (tgt := 253) hx hb dL_law_33 (by rw [e3]; decide) (by rw [e3]; decide) (by rw [e3]; rfl) (by decide) ?_
        exact law_case_3 hL C1 hK hXs ex3 hk6 hI hI9 hl T
      by_cases e4 : w = (4 : Int32)
      · refine lv_tableIn (off := 253) (tgt := 286) hx hb dL_law_33 (by rw [e4]; decide) (by rw [e4]; decide) (by rw [e4]; rfl) (by decide) ?_
        exact law_case_4 hL C1 hK hXs ex3 hk6 hI hI9 hl T
      by_cases e5 : w = (5 : Int32)
      · refine lv_tableIn (off := 286) (tgt := 319) hx hb dL_law_33 (by rw [e5]; decide) (by rw [e5]; decide) (by rw [e5]; rfl) (by decide) ?_
        exact law_case_5 hL C1 hK hXs ex3 hk6 hI hI9 hl T
      by_cases e6 : w = (6 : Int32)
      · refine lv_tableIn (off := 319) (tgt := 352) hx hb dL_law_33 (by rw [e6]; decide) (by rw [e6]; decide) (by rw [e6]; rfl) (by decide) ?_
        exact law_case_6 hL C1 hK hXs ex3 hk6 hI hI9 hl T
      by_cases e7 : w = (7 : Int32)
      · refine lv_tableIn (off := 352) (tgt := 385) hx hb dL_law_33 (by rw [e7]; decide) (by rw [e7]; decide) (by rw [e7]; rfl) (by decide) ?_
        exact law_case_7 hL C1 hK hXs ex3 hk6 hI hI9 hl T
      by_cases e8 : w = (8 : Int32)
      · refine lv_tableIn (off := 385) (tgt := 418) hx hb dL_law_33 (by rw [e8]; decide) (by rw [e8]; decide) (by rw [e8]; rfl) (by decide) ?_
        exact law_case_8 hL C1 hK hXs ex3 hk6 hI hI9 hl T
      by_cases e9 : w = (9 : Int32)
      · refine lv_tableIn (off := 418) (tgt := 451) hx hb dL_law_33 (by rw [e9]; decide) (by rw [e9]; decide) (by rw [e9]; rfl) (by decide) ?_
        exact law_case_9 hL C1 hK hXs ex3 hk6 hI hI9 hl T
      by_cases e10 : w = (10 : Int32)
      · refine lv_tableIn (off := 451) (tgt := 484) hx hb dL_law_33 (by rw [e10]; decide) (by rw [e10]; decide) (by rw [e10]; rfl) (by decide) ?_
        exact law_case_10 hL C1 hK hXs ex3 hk6 hI hI9 hl T
      by_cases e11 : w = (11 : Int32)
      · refine lv_tableIn (off := 484) (tgt := 517) hx hb dL_law_33 (by rw [e11]; decide) (by rw [e11]; decide) (by rw [e11]; rfl) (by decide) ?_
        exact law_case_11 hL C1 hK hXs ex3 hk6 hI hI9 hl T
      by_cases e12 : w = (12 : Int32)
      · refine lv_tableIn (off := 517) (tgt := 550) hx hb dL_law_33 (by rw [e12]; decide) (by rw [e12]; decide) (by rw [e12]; rfl) (by decide) ?_
        exact law_case_12 hL C1 hK hXs ex3 hk6 hI hI9 hl T
      by_cases e13 : w = (13 : Int32)
      · refine lv_tableIn (off := 560) (tgt := 593) hx hb dL_law_33 (by rw [e13]; decide) (by rw [e13]; decide) (by rw [e13]; rfl) (by decide) ?_
        exact law_case_13 hL C1 hK hXs ex3 hk6 hI hI9 hl T
      by_cases e14 : w = (14 : Int32)
      · refine lv_tableIn (off := 635) (tgt := 668) hx hb dL_law_33 (by rw [e14]; decide) (by rw [e14]; decide) (by rw [e14]; rfl) (by decide) ?_
        exact law_case_14 hL C1 hK hXs ex3 hk6 hI hI9 hl T
      by_cases e15 : w = (15 : Int32)
      · refine lv_tableIn (off := 678) (tgt := 711) hx hb dL_law_33 (by rw [e15]; decide) (by rw [e15]; decide) (by rw [e15]; rfl) (by decide) ?_
        exact law_case_15 hL C1 hK hXs ex3 hk6 hI hI9 hl T
      by_cases e16 : w = (16 : Int32)
      · refine lv_tableIn (off := 731) (tgt := 764) hx hb dL_law_33 (by rw [e16]; decide) (by rw [e16]; decide) (by rw [e16]; rfl) (by decide) ?_
        exact law_case_16 hL C1 hK hXs ex3 hk6 hI hI9 hl T
      by_cases e17 : w = (17 : Int32)
      · refine lv_tableIn (off := 764) (tgt := 797) hx hb dL_law_33 (by rw [e17]; decide) (by rw [e17]; decide) (by rw [e17]; rfl) (by decide) ?_
        exact law_case_17 hL C1 hK hXs ex3 hk6 hI hI9 hl T
      by_cases e18 : w = (18 : Int32)
      · refine lv_tableIn (off := 807) (tgt := 840) hx hb dL_law_33 (by rw [e18]; decide) (by rw [e18]; decide) (by rw [e18]; rfl) (by decide) ?_
        exact law_case_18 hL C1 hK hXs ex3 hk6 hI hI9 hl T
      by_cases e19 : w = (19 : Int32)
      · refine lv_tableIn (off := 820) (tgt := 853) hx hb dL_law_33 (by rw [e19]; decide) (by rw [e19]; decide) (by rw [e19]; rfl) (by decide) ?_
        exact law_case_19 hL C1 hK hXs ex3 hk6 hI hI9 hl T
      by_cases e20 : w = (20 : Int32)
      · refine lv_tableIn (off := 833) (tgt := 866) hx hb dL_law_33 (by rw [e20]; decide) (by rw [e20]; decide) (by rw [e20]; rfl) (by decide) ?_
        exact law_case_20 hL C1 hK hXs ex3 hk6 hI hI9 hl T
      by_cases e21 : w = (21 : Int32)
      · refine lv_tableIn (off := 866) (tgt := 899) hx hb dL_law_33 (by rw [e21]; decide) (by rw [e21]; decide) (by rw [e21]; rfl) (by decide) ?_
        exact law_case_21 hL C1 hK hXs ex3 hk6 hI hI9 hl T
      by_cases e22 : w = (22 : Int32)
      · refine lv_tableIn (off := 879) (tgt := 912) hx hb dL_law_33 (by rw [e22]; decide) (by rw [e22]; decide) (by rw [e22]; rfl) (by decide) ?_
        exact law_case_22 hL C1 hK hXs ex3 hk6 hI hI9 hl T
      by_cases e23 : w = (23 : Int32)
      · refine lv_tableIn (off := 902) (tgt := 935) hx hb dL_law_33 (by rw [e23]; decide) (by rw [e23]; decide) (by rw [e23]; rfl) (by decide) ?_
        exact law_case_23 hL C1 hK hXs ex3 hk6 hI hI9 hl T
      by_cases e24 : w = (24 : Int32)
      · refine lv_tableIn (off := 935) (tgt := 968) hx hb dL_law_33 (by rw [e24]; decide) (by rw [e24]; decide) (by rw [e24]; rfl) (by decide) ?_
        exact law_case_24 hL C1 hK hXs ex3 hk6 hI hI9 hl T
      by_cases e25 : w = (25 : Int32)
      · refine lv_tableIn (off := 968) (tgt := 1001) hx hb dL_law_33 (by rw [e25]; decide) (by rw [e25]; decide) (by rw [e25]; rfl) (by decide) ?_
        exact law_case_25 hL C1 hK hXs ex3 hk6 hI hI9 hl T
      by_cases e26 : w = (26 : Int32)
      · refine lv_tableIn (off := 991) (tgt := 1024) hx hb dL_law_33 (by rw [e26]; decide) (by rw [e26]; decide) (by rw [e26]; rfl) (by decide) ?_
        exact law_case_26 hL C1 hK hXs ex3 hk6 hI hI9 hl T
      by_cases e27 : w = (27 : Int32)
      · refine lv_tableIn (off := 1014) (tgt := 1047) hx hb dL_law_33 (by rw [e27]; decide) (by rw [e27]; decide) (by rw [e27]; rfl) (by decide) ?_
        exact law_case_27 hL C1 hK hXs ex3 hk6 hI hI9 hl T
      by_cases e28 : w = (28 : Int32)
      · refine lv_tableIn (off := 1037) (tgt := 1070) hx hb dL_law_33 (by rw [e28]; decide) (by rw [e28]; decide) (by rw [e28]; rfl) (by decide) ?_
        exact law_case_28 hL C1 hK hXs ex3 hk6 hI hI9 hl T
      refine lv_tableOut (tgt := 1084) hx hb dL_law_33 (Or.inr ?_) (by decide) ?_
      · rw [ew, nI_toInt (by omega)]
        have : 28 < w0 := by
          rcases Nat.lt_or_ge 28 w0 with q | q
          · exact q
          · exfalso
            rcases (show w0 = 0 ∨ w0 = 1 ∨ w0 = 2 ∨ w0 = 3 ∨ w0 = 4 ∨ w0 = 5 ∨ w0 = 6 ∨ w0 = 7 ∨ w0 = 8 ∨ w0 = 9 ∨ w0 = 10 ∨ w0 = 11 ∨ w0 = 12 ∨ w0 = 13 ∨ w0 = 14 ∨ w0 = 15 ∨ w0 = 16 ∨ w0 = 17 ∨ w0 = 18 ∨ w0 = 19 ∨ w0 = 20 ∨ w0 = 21 ∨ w0 = 22 ∨ w0 = 23 ∨ w0 = 24 ∨ w0 = 25 ∨ w0 = 26 ∨ w0 = 27 ∨ w0 = 28 by omega) with rfl | rfl | rfl | rfl | rfl | rfl | rfl | rfl | rfl | rfl | rfl | rfl | rfl | rfl | rfl | rfl | rfl | rfl | rfl | rfl | rfl | rfl | rfl | rfl | rfl | rfl | rfl | rfl | rfl
            · exact e0 ew
            · exact e1 ew
            · exact e2 ew
            · exact e3 ew
            · exact e4 ew
            · exact e5 ew
            · exact e6 ew
            · exact e7 ew
            · exact e8 ew
            · exact e9 ew
            · exact e10 ew
            · exact e11 ew
            · exact e12 ew
            · exact e13 ew
            · exact e14 ew
            · exact e15 ew
            · exact e16 ew
            · exact e17 ew
            · exact e18 ew
            · exact e19 ew
            · exact e20 ew
            · exact e21 ew
            · exact e22 ew
            · exact e23 ew
            · exact e24 ew
            · exact e25 ew
            · exact e26 ew
            · exact e27 ew
            · exact e28 ew
        omega
      · exact T M J hI H locs hI9
theorem sB_len : ∀ i : Nat, i < 3 → ([4, 4, 4] : List Nat).getD i 0 < 2 ^ 31 := by decide
def tmS : Nat → Term := fun i => Term.string RX3 (([99, 105, 107] : List Nat).getD i 0)
set_option maxHeartbeats 4000000 in
set_option maxRecDepth 100000 in
/-- what the Statement gives of the String constants -/
theorem law_xL {s : State} {b : Nat} (hts : ∀ w ∈ lw_tbl, w.before #[Value.ref b] s = true) (hgv : (Jvm.Cond.and given_1 narrow_1).before #[Value.ref b] s = true) : ∃ aS : Nat → Nat, xL aS s := by
  have hs := flat_of_before _ hgv
  have hA : ∀ a : Nat, a < s.heap.size → ¬ (fun q : Nat => s.heap.size ≤ q) a := fun a h => Nat.not_le.mpr h
  have three : ∀ i : Nat, i < 3 → i = 0 ∨ i = 1 ∨ i = 2 := fun i h => by omega
  have four : ∀ j : Nat, j < 4 → j = 0 ∨ j = 1 ∨ j = 2 ∨ j = 3 := fun i h => by omega
  obtain ⟨adK, adV, h1, h2⟩ := vk_Sof (args := #[Value.ref b]) (s := s) (N := 3) (tm := tmS) (len := [4, 4, 4]) (byt := sB) (A := fun q => s.heap.size ≤ q) sB_len
    (fun i hi => by rcases three i hi with rfl | rfl | rfl <;> exact hs _ (by decide +kernel))
    (fun i hi => by rcases three i hi with rfl | rfl | rfl <;> exact hs _ (by decide +kernel))
    (fun i hi => by rcases three i hi with rfl | rfl | rfl <;> exact hs _ (by decide +kernel))
    (fun i hi => by rcases three i hi with rfl | rfl | rfl <;> exact hs _ (by decide +kernel))
    (fun i hi j hj => by rcases three i hi with rfl | rfl | rfl <;> rcases four j hj with rfl | rfl | rfl | rfl <;> exact hs _ (by decide +kernel))
    (fun i j hi hj hij => by
      rcases three i hi with rfl | rfl | rfl <;> rcases three j hj with rfl | rfl | rfl <;> first | exact absurd rfl hij | exact Or.inl (hs _ (by decide +kernel)) | exact Or.inr (hs _ (by decide +kernel)))
    hA
  obtain ⟨aS, haS⟩ : ∃ aS : Nat → Nat, aS = fun i => if i < 3 then adK i else adV (i - 3) := ⟨_, rfl⟩
  have e0 : ∀ i, i < 3 → aS i = adK i := fun i h => by rw [haS]; exact if_pos h
  have e3 : ∀ i, aS (i + 3) = adV i := fun i => by rw [haS]; show (if i + 3 < 3 then _ else adV (i + 3 - 3)) = _; rw [if_neg (by omega), Nat.add_sub_cancel]
  refine ⟨aS, va_Nw.of rfl (hts _ wm_796), ⟨fun i hi => ?_, fun i j hi hj e => h1.2 i j hi hj (by rw [← e0 i hi, ← e0 j hj]; exact e)⟩, ⟨?_, ?_, ?_⟩, ?_, ?_⟩
  · have := h1.1 i hi
    rw [e0 i hi]
    simp only [e3]
    exact this
  · refine vk_R.of (A := #[Value.ref b]) (hts _ wm_797) ?_
    rw [e0 0 (by decide)]
    exact h2 0 (by decide)
  · refine vk_R.of (A := #[Value.ref b]) (hts _ wm_798) ?_
    rw [e0 1 (by decide)]
    exact h2 1 (by decide)
  · refine vk_R.of (A := #[Value.ref b]) (hts _ wm_799) ?_
    rw [e0 2 (by decide)]
    exact h2 2 (by decide)
  · exact va_Zof (args := #[Value.ref b]) (hts _ wm_800) (hts _ wm_181) (va_eqi (hs _ (by decide +kernel))) hA
  · exact va_Zqof (args := #[Value.ref b]) (hts _ wm_801) (hts _ wm_202) (hs _ (by decide +kernel)) hA
set_option maxHeartbeats 4000000 in
set_option maxRecDepth 100000 in
/-- THE LAW, from its entry -/
theorem whole_start {p : Program} {e : Env} {s : State} {m : MethodId} {below : List Frame} {meth : Method} {c : Code} (l : Launch) (hflags : l.flags = flags0) {b L : Nat} {xs : Nat → Int32} (hL : L ≤ 448) (C0 : lw_At p s m meth c b L xs) : W p l e room_1 s m #[Value.ref b] below meth c s.heap [] 0 0 (lw_Z below #[Value.ref b] s) (entryFrame m ([Value.ref b] : List Value).toArray 4) := by
  have C1 := C0
  obtain ⟨hx, hb, hr, hml, hown, hts, hX, hbl, hlocks, hgv⟩ := C0
  replace hown : s.vm.findClass RL = some m.cls := hown
  have hA : ∀ q : Nat, s.heap.size ≤ q → (fun q : Nat => s.heap.size ≤ q) q := fun _ h => h
  have hbA : ¬ (fun q : Nat => s.heap.size ≤ q) b := Nat.not_le.mpr hbl
  obtain ⟨aS, hXs⟩ := law_xL hts hgv
  obtain ⟨c0, i0, hKn0⟩ := u_known (C := RX0) (T := TX0) (N := 4) (n := 4) hts inX0 (hts _ wm_11)
  obtain ⟨c1, i1, hKn1⟩ := u_known (C := RX1) (T := TX1) (N := 14) (n := 14) hts inX1 (hts _ wm_16)
  obtain ⟨c2, i2, hKn2⟩ := u_known (C := RX2) (T := TX2) (N := 6) (n := 6) hts inX2 (hts _ wm_7)
  obtain ⟨c3, i3, hKn3⟩ := u_known (C := RX3) (T := TX3) (N := 6) (n := 6) hts inX3 (hts _ wm_20)
  obtain ⟨c4, i4, hKn4⟩ := u_known (C := RX4) (T := TX4) (N := 8) (n := 8) hts inX4 (hts _ wm_802)
  obtain ⟨c5, i5, hKn5⟩ := u_known (C := RX5) (T := TX5) (N := 31) (n := 31) hts inX5 (hts _ wm_803)
  obtain ⟨D, hKc⟩ : ∃ D : va_G, ∀ (k : Nat) (q : vw_C), vwCl[k]? = some q → u_Kn s q.1 q.2.1 q.2.2 (D.1 k) (D.2 k) := by
    refine ⟨(fun k => if k = 0 then c0 else if k = 1 then c1 else if k = 2 then c2 else if k = 3 then c3 else if k = 4 then c4 else c5, fun k => if k = 0 then i0 else if k = 1 then i1 else if k = 2 then i2 else if k = 3 then i3 else if k = 4 then i4 else i5), ?_⟩
    intro k q hq
    match k, hq with
    | 0, hq => cases hq; exact hKn0
    | 1, hq => cases hq; exact hKn1
    | 2, hq => cases hq; exact hKn2
    | 3, hq => cases hq; exact hKn3
    | 4, hq => cases hq; exact hKn4
    | 5, hq => cases hq; exact hKn5
    | k + 6, hq => simp [vwCl] at hq
  obtain ⟨cI, kI, coI, hfI, hkI, hdI⟩ := Cond.arrayClass_spec (hts _ wm_46)
  obtain ⟨cZ, kZ, coZ, hfZ, hkZ, hdZ⟩ := Cond.arrayClass_spec (hts _ wm_78)
  have hK : va_K D vwCl [(cI, .int), (cZ, .boolean)] s := by
    refine ⟨hKc, fun k q hq => ?_⟩
    match k, hq with
    | 0, hq => cases hq; exact ⟨fun n z => ⟨fun k h => (by cases h), kI, hkI, coI, hdI⟩, hfI⟩
    | 1, hq => cases hq; exact ⟨fun n z => ⟨fun k h => (by cases h), kZ, hkZ, coZ, hdZ⟩, hfZ⟩
    | k + 2, hq => simp at hq
  have hS : va_S (fun q : Nat => s.heap.size ≤ q) s.heap s.heap [] := va_S.rf
  have hP : va_P D vwCl [] s.heap := fun k q h => by simp at h
  have hD : va_D (fun q : Nat => s.heap.size ≤ q) [] := ⟨fun i j p q h => by simp at h, fun k q h => by simp at h⟩
  have hl := lv_entry ([.ref b]) (n := 4) (Nat.le_of_ble_eq_true rfl)
  rw [lg_entry_eq]
  generalize (lg_sl ([.ref b]) ++ List.replicate (4 - (lg_sl ([.ref b])).length) Slot.unset).toArray = ls at hl ⊢
  have hl : lv_has ls 4 [(0, .ref b)] := hl
  obtain ⟨J0, hJ0, hI⟩ := pu_init
  refine va_new (ci := 4) (fs := [.null, .null, .null, .null, .null, .null, .null, .long 0]) (C := RX4) (T := TX4) (N := 8) hx hb hts inX4 tyX4 tyX4_ok hown (hts _ wm_804) (hts _ wm_802) (hts _ wm_106) hK hP hD hS hA rfl (fun j hj => by rcases (show j = 0 ∨ j = 1 ∨ j = 2 ∨ j = 3 ∨ j = 4 ∨ j = 5 ∨ j = 6 ∨ j = 7 by omega) with rfl | rfl | rfl | rfl | rfl | rfl | rfl | rfl <;> rfl) (Nat.le_of_ble_eq_true rfl) (Nat.le_of_ble_eq_true rfl) dL_law_0 (fun q0 H hP hD hS => ?_)
  have hP : va_P D vwCl [(q0, .inr (4, [.null, .null, .null, .null, .null, .null, .null, .long 0]))] H := hP
  have hD : va_D (fun q : Nat => s.heap.size ≤ q) [(q0, .inr (4, [.null, .null, .null, .null, .null, .null, .null, .long 0]))] := hD
  refine lv_dup hx hb dL_law_3 rfl ?_
  have hF0 := va_free (wc := [(q0, .inr (4, [.null, .null, .null, .null, .null, .null, .null, .long 0]))]) hD hS hA [0] rfl
  refine va_callv (va_runI (As := []) (rest := [.ref q0]) ⟨hx, hb, hml, hown, hts⟩ (nX4_init l D cI q0 H.size) (cwI 0 hts GLX4_init rfl rfl rfl (hts _ wm_106) (hts _ wm_805) (hts _ wm_806) rfl (by decide +kernel) ⟨Nat.le_of_ble_eq_true rfl, Nat.le_of_ble_eq_true rfl⟩) ⟨fun a U g mk q => by obtain ⟨q0, q1, qP, qK, qN, qD⟩ := q; exact ⟨q0, q1, qP, va_K.moved (u := U) (U := U.calling g mk a) (Vm.Alike.refl U.vm) qK, ⟨va_Nw.same rfl rfl qN.1, va_Nw.same rfl rfl qN.2.1, va_Nw.same rfl rfl qN.2.2.1, va_Nw.same rfl rfl qN.2.2.2⟩, qD⟩, fun U hU hW => ⟨rfl, by rw [hU], by rw [hU]; exact hP, va_K.moved hW.alike (hK.sub [0] rfl), ⟨va_Nw.warmM hW (va_Nw.of rfl (hts _ wm_807)), va_Nw.warmM hW (va_Nw.of rfl (hts _ wm_808)), va_Nw.warmM hW (va_Nw.of rfl (hts _ wm_809)), va_Nw.warmM hW (va_Nw.of rfl (hts _ wm_810))⟩, hD.weaken (fun _ _ _ _ => trivial)⟩⟩ rfl rfl hl.1 rfl (lv_room (Nat.le_of_ble_eq_true rfl)) dL_law_4 ⟨Nat.le_of_ble_eq_true rfl, Nat.le_of_ble_eq_true rfl⟩) hS (fun q _ h => hF0 q h) hF0 (fun u t H1 locs ht hvm hw hB hz1 hk1 hS => ?_)
  obtain ⟨adc, hc0, hPc, hDc⟩ := hB
  rw [ht] at hPc
  have hDc := hDc.weaken (B := fun q : Nat => s.heap.size ≤ q) (fun k q _ h => hF0 q.1 h)
  generalize H1 = H at hPc hS ⊢
  refine lv_astore_n (lv' := [(1, .ref q0), (0, .ref b)]) hx hb dL_law_7 rfl hl (by decide) rfl (fun ls hl => ?_)
  refine va_new (ci := 5) (fs := [.int 0, .long 0, .null, .int 0, .int 0, .int 0, .int 0, .int 0, .int 0, .null, .null, .null, .null, .int 0, .int 0, .int 0, .int 0, .int 0, .int 0, .null, .null, .null, .null, .null, .null, .int 0, .int 0, .int 0, .int 0, .null, .null]) (C := RX5) (T := TX5) (N := 31) hx hb hts inX5 tyX5 tyX5_ok hown (hts _ wm_811) (hts _ wm_803) (hts _ wm_71) hK hPc hDc hS hA rfl (fun j hj => by rcases (show j = 0 ∨ j = 1 ∨ j = 2 ∨ j = 3 ∨ j = 4 ∨ j = 5 ∨ j = 6 ∨ j = 7 ∨ j = 8 ∨ j = 9 ∨ j = 10 ∨ j = 11 ∨ j = 12 ∨ j = 13 ∨ j = 14 ∨ j = 15 ∨ j = 16 ∨ j = 17 ∨ j = 18 ∨ j = 19 ∨ j = 20 ∨ j = 21 ∨ j = 22 ∨ j = 23 ∨ j = 24 ∨ j = 25 ∨ j = 26 ∨ j = 27 ∨ j = 28 ∨ j = 29 ∨ j = 30 by omega) with rfl | rfl | rfl | rfl | rfl | rfl | rfl | rfl | rfl | rfl | rfl | rfl | rfl | rfl | rfl | rfl | rfl | rfl | rfl | rfl | rfl | rfl | rfl | rfl | rfl | rfl | rfl | rfl | rfl | rfl | rfl <;> rfl) (Nat.le_of_ble_eq_true rfl) (Nat.le_of_ble_eq_true rfl) dL_law_8 (fun q2 H hP hD hS => ?_)
  refine lv_dup hx hb dL_law_11 rfl ?_
  have hPc := va_P_app1 hP
  have hDc := va_D_app1 hD
  have hP2 := va_P_app2 hP
  have hD2 := va_D_app2 hD
  have hF2 := va_free (wc := [(q2, .inr (5, [.int 0, .long 0, .null, .int 0, .int 0, .int 0, .int 0, .int 0, .int 0, .null, .null, .null, .null, .int 0, .int 0, .int 0, .int 0, .int 0, .int 0, .null, .null, .null, .null, .null, .null, .int 0, .int 0, .int 0, .int 0, .null, .null]))]) hD2 hS hA [0] rfl
  refine va_callv (va_runI (As := []) (rest := [.ref q2]) ⟨hx, hb, hml, hown, hts⟩ (nX5_init l D cI cZ q2 H.size J0 hJ0) (cwI 0 hts GLX5_init rfl rfl rfl (hts _ wm_71) (hts _ wm_812) (hts _ wm_813) rfl (by decide +kernel) ⟨Nat.le_of_ble_eq_true rfl, Nat.le_of_ble_eq_true rfl⟩) ⟨fun a U g mk q => by obtain ⟨q0, q1, qP, qK, qD⟩ := q; exact ⟨q0, q1, qP, va_K.moved (u := U) (U := U.calling g mk a) (Vm.Alike.refl U.vm) qK, qD⟩, fun U hU hW => ⟨rfl, by rw [hU], by rw [hU]; exact hP2, va_K.moved hW.alike hK, hD2.weaken (fun _ _ _ _ => trivial)⟩⟩ rfl rfl hl.1 rfl (lv_room (Nat.le_of_ble_eq_true rfl)) dL_law_12 ⟨Nat.le_of_ble_eq_true rfl, Nat.le_of_ble_eq_true rfl⟩) hS (fun q _ h => hF2 q h) hF2 (fun u t H1 locs ht hvm hw hB hz1 hk1 hS => ?_)
  obtain ⟨adm, hm0, hPm, hDm⟩ := hB
  rw [ht] at hPm
  have hdis : ∀ i, i < 40 → ∀ j, j < 14 → adc i ≠ adm j := by
    intro i hi j hj e
    have h1 := (hPc i _ (mw_at hi)).lt
    have h2 := hDm.2 j _ (mw_at hj)
    rcases h2 with ⟨k, x, hk⟩ | h2
    · have h3 := va_D_dis hD (mw_at hi) (j := k) hk
      exact h3 e
    · have h4 : adc i < H.size := h1
      have h5 : H.size ≤ adm j := h2
      omega
  have hPc1 : va_P D vwCl (mw adc 40 (Ec adc cI M0c)) H1 := mw_keep (B := va_A [(q2, .inr (5, [.int 0, .long 0, .null, .int 0, .int 0, .int 0, .int 0, .int 0, .int 0, .null, .null, .null, .null, .int 0, .int 0, .int 0, .int 0, .int 0, .int 0, .null, .null, .null, .null, .null, .null, .int 0, .int 0, .int 0, .int 0, .null, .null]))] H.size) hPc (fun i hi h => by
    rcases h with ⟨k, x, hk⟩ | h
    · exact va_D_dis hD (mw_at hi) (j := k) hk rfl
    · have h1 := (hPc i _ (mw_at hi)).lt
      have h4 : adc i < H.size := h1
      omega) hk1
  have hDm := hDm.weaken (B := fun q : Nat => s.heap.size ≤ q) (fun k q _ h => hF2 q.1 h)
  refine lv_astore_n (lv' := [(2, .ref q2), (1, .ref q0), (0, .ref b)]) hx hb dL_law_15 rfl hl (by decide) rfl (fun ls hl => ?_)
  refine lv_iconst (v := 0) hx hb dL_law_16 (by decide) ?_
  refine lv_istore_n (lv' := [(3, .int 0), (2, .ref q2), (1, .ref q0), (0, .ref b)]) hx hb dL_law_17 rfl hl (by decide) rfl (fun ls hl => ?_)
  refine W.widen (k := 54) (n := 1855) (by decide) (by decide) ?_
  have hDc7 : va_D (fun q : Nat => s.heap.size ≤ q) (mw adc 40 (Ec adc cI M0c)) := hDc
  have hDm7 : va_D (fun q : Nat => s.heap.size ≤ q) (mw adm 14 (Em adm cI cZ J0)) := hDm
  subst hc0
  subst hm0
  exact law_loop hL C1 hK hXs (L + 8) 0 0 (by omega) (by omega) nI_0.symm M0c J0 hI H1 _ ⟨⟨hPc1, hDc7⟩, ⟨hPm, hDm7⟩, hdis, trivial, hS⟩ ls (lv_sub hl [3, 2, 1, 0] rfl)
-- ===== YOUR PART ENDS =====
set_option maxHeartbeats 4000000 in
theorem lw_walk (l : Launch) (hflags : l.flags = flags0) (b : Addr) (xs : List Int32) : MetFree l x (headSpec (Jvm.Cond.code x code maxLocals ret :: tables_1) room_1) (lw_P b xs) (fun _ _ _ _ _ => True) lw_Q := by
  refine MetFree.of_bodyS (code := code) (maxLocals := maxLocals) (ret := ret) (by decide) ?_ ?_
  · intro args s m h hn
    obtain ⟨meth, c, h1, h2, h3, h4, h5, h6, -, -⟩ := Cond.code_spec hn (atoms_spec (ws := Jvm.Cond.code x code maxLocals ret :: tables_1) h _ List.mem_cons_self)
    exact ⟨meth, c, h1, h2, h3, h4, h5, h6⟩
  · intro p e s m args below meth c s₁ B hml0 hP _
    obtain ⟨rfl, hx, hbd, hgv⟩ := hP
    obtain ⟨scr, harrAt, hlist, hof, hsmall⟩ := hx
    obtain ⟨hcb, hkn, -, -⟩ := State.arrayAt?_spec harrAt
    have hown : s.vm.findClass R_law = some m.cls := findClass_of_methodNamed B.named
    have hts0 : ∀ c ∈ (Jvm.Cond.code x code maxLocals ret :: tables_1), c.before #[Value.ref b] s = true := atoms_spec (ws := Jvm.Cond.code x code maxLocals ret :: tables_1) B.pre
    have hts : ∀ w ∈ lw_tbl, w.before #[Value.ref b] s = true := k2_hts_sels lw_privs (fun w hw => hts0 w (List.mem_cons_of_mem _ hw)) lw_privs_ok
    have hml : c.maxLocals = 4 := B.maxLocals_eq (hts0 _ List.mem_cons_self)
    have X₀ : Stand p l e room_1 s m #[Value.ref b] below meth c s₁ [] 0 0 := Stand.of_body B
    have hh0 : s₁.heap = s.heap := by rw [B.state]; rfl
    have hsz : scr.slots.size = xs.length := by rw [← Array.length_toList, hlist, List.length_map]
    have hval : ∀ j : Nat, j < xs.length → scr.slots[j]? = some (.int (xs.getD j 0)) := fun j hj => by
      rw [← Array.getElem?_toList, hlist]
      simp [hj]
    have hbl : b < s.heap.size := (Array.getElem?_eq_some_iff.mp hcb).1
    have hX : va_X b xs.length (fun j => xs.getD j 0) s s.heap := ⟨scr, hcb, hof, hkn, hsz, hval⟩
    have K : W p l e room_1 s m #[Value.ref b] below meth c s₁.heap [] 0 0 (lw_Z below #[Value.ref b] s) (entryFrame m ([Value.ref b] : List Value).toArray 4) := by
      rw [hh0]
      exact whole_start l hflags hbd ⟨B.exec, B.bytes, B.returns, hml, hown, hts, hX, hbl, B.notSynchronized, hgv⟩
    obtain ⟨t, a1, o, b1, b2, b3⟩ := K s₁ rfl X₀
    exact ⟨t, o, a1, b1, b2, b3⟩
theorem lw_pre_spec {args : Array Value} {s : State} (h : (Jvm.Cond.and given_1 narrow_1).before args s = true) (hr : rest_1_c.before args s = true) : ∃ (b : Addr) (xs : List Int32), lw_P b xs args s := by
  have hs := flat_of_before _ h
  have hq := flat_of_before _ hr
  have hc : (Cond.count 1).before args s = true := hs _ (by decide +kernel)
  have harr : (Cond.arrayOf (.arg 0) .int).before args s = true := hs _ (by decide +kernel)
  have hle : (Cond.le (.length (.arg 0)) (.int 448)).before args s = true := hs _ (by decide +kernel)
  have hlen : (Cond.isInt (.length (.arg 0))).before args s = true := hq _ (by decide +kernel)
  have hall : (Cond.all (.arg 0) (.isInt (.elem (.arg 0) (.index 0)))).before args s = true := hq _ (by decide +kernel)
  obtain ⟨b, xs, hb, hx⟩ := State.ints_of_pre rfl harr hlen hall
  have hsm : xs.length < 2 ^ 31 := hx.choose_spec.2.2.2
  have hev : (Term.length (.arg 0)).eval args s none [] s = some (.int xs.length.toInt32) := hx.length_eval hb
  have hv := Cond.le_ints hev (show (Term.int 448).eval args s none [] s = some (.int 448) from rfl)
  have hd : xs.length.toInt32 ≤ 448 := by
    simpa [Cond.before, Cond.holds, hv] using hle
  have hN : xs.length ≤ 448 := (Int32.ofNat_le_ofNat hsm (by decide)).mp (show Int32.ofNat xs.length ≤ Int32.ofNat 448 from hd)
  exact ⟨b, xs, Cond.one_arg hc (show args[0]? = some (.ref b) from hb), hx, hN, h⟩
theorem lw_comes (l : Launch) (hflags : l.flags = flags0) : Comes l x (Jvm.Cond.code x code maxLocals ret :: tables_1) room_1 (fun tb e args s => Calls_1 tb e args s ∧ rest_1 tb e args s ∧ Pre_1 tb e args s)
    (fun _ _ args s o t => lw_Q args s o t) := by
  intro p e ha hc hk s m args below hf hfit hheap happ hpre
  obtain ⟨b, xs, hP⟩ := lw_pre_spec hpre.2.2 hpre.2.1
  obtain ⟨k, o, h1, h2, h3, hQ⟩ := lw_walk l hflags b xs p e ha hc hk s m args below hf ((Spec.applies_iff_loose hf).mp happ).1 hP trivial
  exact ⟨k, o, h1, h2, h3, hQ⟩
theorem lw_frame {s t : State} {o : Outcome} {args : Array Value} (h : Framed s o t [] 600000 7302250) :
    Framed s o t (fieldLocs frame_1_writes args s ++ arrayLocs frame_1_arrays args s ++ staticLocs frame_1_statics s) 600000 7302250 := h
theorem lw_limb (L : Cond) (hL : ∀ (args : Array Value) (s t : State), L.after args s (.returned (some (.int 1))) t = true) :
    ArmFor flags0 classFile x code maxLocals ret World_1 tables_1 room_1 Calls_1 rest_1 Pre_1
      (fun tb e a s o t => postC L tb e a s o t ∧ Framed s o t (fieldLocs frame_1_writes a s ++ arrayLocs frame_1_arrays a s ++ staticLocs frame_1_statics s) 600000 7302250) := by
  intro l hflags _ _ p e ha hc hk s m args below hf hfit hheap happ hpre
  obtain ⟨k, o, h1, h2, h3, rfl, hF⟩ := lw_comes l hflags p e ha hc hk s m args below hf hfit hheap happ hpre
  exact ⟨k, _, h1, h2, h3, hL args s _, lw_frame hF⟩
theorem i_vc : Claimed_1_1 ∧ Claimed_1_2 := ⟨lw_limb limb_1_1 (fun args s t => by simp [limb_1_1, Cond.after, Cond.holds, Cond.value]), lw_limb limb_1_2 (fun args s t => Cond.after_iff.mpr (by
  first | (rw [show limb_1_2 = Cond.eq .result (.int 1) from rfl, Cond.eq_ints (x := 1) (y := 1) rfl rfl]; simp; done) | (simp [limb_1_2, Cond.value, Term.eval]; done)))⟩
