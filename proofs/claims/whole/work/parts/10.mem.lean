/-! A MEMORY: a world of n cells at the addresses ad, read as a function of the cell's number -/
def mw (ad : Nat → Nat) (n : Nat) (E : Nat → va_E) : va_W := (List.range n).map (fun k => (ad k, E k))
theorem mw_at {ad : Nat → Nat} {n : Nat} {E : Nat → va_E} {q : Nat} (h : q < n) : (mw ad n E)[q]? = some (ad q, E q) := by
  simp [mw, h]
theorem mw_congr {ad : Nat → Nat} {n : Nat} {E E' : Nat → va_E} (h : ∀ k, k < n → E k = E' k) : mw ad n E = mw ad n E' := by
  unfold mw
  refine List.map_congr_left (fun k hk => ?_)
  rw [h k (List.mem_range.mp hk)]
theorem mw_set {ad : Nat → Nat} {n : Nat} {E : Nat → va_E} {q : Nat} {e : va_E} : (mw ad n E).set q (ad q, e) = mw ad n (va_up E q e) := by
  refine List.ext_getElem? (fun i => ?_)
  rw [List.getElem?_set]
  by_cases hq : q = i
  · subst hq
    by_cases hn : q < n
    · simp [mw, hn, va_up]
    · simp [mw, hn]
  · have hq2 : i ≠ q := fun h => hq h.symm
    by_cases hn : i < n
    · simp [mw, hn, va_up, hq, hq2]
    · simp [mw, hn, hq]
def mA (ad : Nat → Nat) (n : Nat) : Nat → Prop := fun q => ∃ k, k < n ∧ q = ad k
/-- the heap holds the memory; what isn't its own is as it was at the method's start -/
def mH (D : va_G) (ad : Nat → Nat) (n : Nat) (E : Nat → va_E) (H0 H : Heap) (locs : List Loc) : Prop := va_P D vwCl (mw ad n E) H ∧ va_D (mA ad n) (mw ad n E) ∧ va_S (mA ad n) H0 H locs
def mS (D : va_G) (tys : List (ClassId × FieldType)) (ad : Nat → Nat) (n : Nat) (X : State → Prop) (E : Nat → va_E) (U : State) : Prop := (va_P D vwCl (mw ad n E) U.heap ∧ va_D (mA ad n) (mw ad n E)) ∧ va_K D vwCl tys U ∧ X U
/-- what a method may need of the machine beside its memory: it stays, whatever the memory's cells become -/
def mX (ad : Nat → Nat) (n : Nat) (X : State → Prop) : Prop := (∀ (s U : State) (H : Heap) (locs : List Loc), X s → s.WarmedH U.vm → U.heap = H → va_S (mA ad n) s.heap H locs → X U) ∧ ∀ (U : State) (g : JFrame) (mk : MethodId) (a : Array Value), X U → X (U.calling g mk a)
def mQ (D : va_G) (ad : Nat → Nat) (n : Nat) (v : Option Value) (E : Nat → va_E) : Array Value → State → Outcome → State → Prop := fun _ st oc t => oc = .returned v ∧ (va_P D vwCl (mw ad n E) t.heap ∧ va_D (mA ad n) (mw ad n E)) ∧ va_F (mA ad n) st t
/-- a contract: with these arguments, from the memory E, the method returns v and leaves the memory E' -/
def mC (l : Launch) (y : MethodName) (ws : List Cond) (rm : Room) (D : va_G) (tys : List (ClassId × FieldType)) (ad : Nat → Nat) (n : Nat) (X : State → Prop) (av : List Value) (E : Nat → va_E) (v : Option Value) (E' : Nat → va_E) : Prop :=
  Met l y ws rm (va_Pc av (mS D tys ad n X E)) (mQ D ad n v E') 0 0 (mA ad n)
theorem m_ofW {l : Launch} {y : MethodName} {ws ws' : List Cond} {rm : Room} {D : va_G} {tys : List (ClassId × FieldType)} {ad : Nat → Nat} {n : Nat} {X : State → Prop} {av : List Value} {E : Nat → va_E} {v : Option Value} {E' : Nat → va_E} {cc : ByteArray} {maxL : Nat} {ret : Option FieldType} (hy : plainName y.cls = true) (hw : ws = Cond.code y cc maxL ret :: ws') (hlen : (lg_sl av).length ≤ maxL)
    (body : ∀ (p : Program) (e : Env) (s : State) (m : MethodId) (args : Array Value) (below : List Frame) (meth : Method) (c : Code), p.tables.exec = Jvm.exec → c.code = cc → c.maxLocals = maxL → meth.sig.returnType = ret → meth.locks = false → (∀ w ∈ ws, w.before args s = true) → s.vm.findClass y.cls = some m.cls → va_K D vwCl tys s → X s → ∀ ls : Array Slot, lv_has ls maxL (lv_args 0 av) → mH D ad n E s.heap s.heap [] →
      W p l e rm s m args below meth c s.heap [] 0 0 (MQ below (mQ D ad n v E') args s 0 0 (mA ad n)) (F0 m 0 ls [])) : mC l y ws rm D tys ad n X av E v E' := by
  refine Met.ofW (cc := cc) (maxL := maxL) (ret := ret) hy hw ?_
  intro p e s m args below meth c s₁ B hml hv
  obtain ⟨rfl, ⟨hP, hD⟩, hK, hX⟩ := hv
  have hl := lv_entry av (n := maxL) hlen
  rw [lg_entry_eq]
  exact body p e s m _ below meth c B.exec B.bytes hml B.returns B.notSynchronized (atoms_spec (ws := ws) B.pre) (findClass_of_methodNamed B.named) hK hX _ hl ⟨hP, hD, va_S.rf⟩
section MROWS
variable {p : Program} {l : Launch} {e : Env} {R : Room} {s : State} {m : MethodId} {args : Array Value} {below : List Frame} {meth : Method} {c : Code} {H : Heap} {locs : List Loc} {cells slots : Nat} {Q : State → Prop}
variable {cc : ByteArray} {pc : Nat} {ls : Array Slot} {rest : List Value} {D : va_G} {tys : List (ClassId × FieldType)} {ad : Nat → Nat} {n : Nat} {E E' : Nat → va_E} {H0 : Heap} {q ci index : Nat} {own C : String} {T : u_T} {N : Nat} {Ts : List Cond} {fs : List Value}
theorem m_get (hx : p.tables.exec = Jvm.exec) (hb : c.code = cc) (hts : ∀ w ∈ Ts, w.before args s = true) (hown : s.vm.findClass own = some m.cls) (hK : va_K D vwCl tys s) (hM : mH D ad n E H0 H locs) (hin : ∀ w ∈ u_ws C T N, w ∈ Ts) (hq : q < n) (he : E q = .inr (ci, fs)) (hc : vwCl[ci]? = some (C, T, N)) (k : Nat) (hk : k < N) (hlink : (Cond.fieldLink own index (T k).1 (T k).2.1 (T k).2.2.1).before args s = true) {v : Value} (hv : fs[k]? = some v) (hdg : decode cc pc = .ok (.getfield index, 3))
    (kk : W p l e R s m args below meth c H locs cells slots Q (F0 m (pc + 3) ls (v :: rest))) : W p l e R s m args below meth c H locs cells slots Q (F0 m pc ls (.ref (ad q) :: rest)) :=
  va_get hx hb hts hin hown hK hM.1 q (by rw [mw_at hq, he]) hc k hk hlink (fun _ h => h) hv hdg kk
theorem m_put (hx : p.tables.exec = Jvm.exec) (hb : c.code = cc) (hts : ∀ w ∈ Ts, w.before args s = true) (hown : s.vm.findClass own = some m.cls) (hK : va_K D vwCl tys s) (hM : mH D ad n E H0 H locs) (hin : ∀ w ∈ u_ws C T N, w ∈ Ts) (ty0 : Nat → FieldType) (hty : ∀ k, k < N → parseFieldDescriptor (T k).2.2.1 = some (ty0 k)) (hnm : ∀ a, a < N → ∀ b, b < N → a ≠ b → (T a).2.1 ≠ (T b).2.1) (hq : q < n) (he : E q = .inr (ci, fs)) (hc : vwCl[ci]? = some (C, T, N)) (k : Nat) (hk : k < N) (hlink : (Cond.fieldLink own index (T k).1 (T k).2.1 (T k).2.2.1).before args s = true) (hfin : (T k).2.2.2 = false) {v : Value} (hn : narrow (ty0 k) v = v) (hfit : fits (ty0 k) v = true) (hl : k < fs.length) (hE : va_up E q (.inr (ci, fs.set k v)) = E') (hdg : decode cc pc = .ok (.putfield index, 3))
    (kk : ∀ (H1 : Heap) (locs1 : List Loc), mH D ad n E' H0 H1 locs1 → W p l e R s m args below meth c H1 locs1 cells slots Q (F0 m (pc + 3) ls rest)) : W p l e R s m args below meth c H locs cells slots Q (F0 m pc ls (v :: .ref (ad q) :: rest)) :=
  va_put hx hb hts hin ty0 hty hnm hown hK hM.1 hM.2.1 hM.2.2 q (by rw [mw_at hq, he]) hc k hk hlink (fun _ h => h) hfin (hty k hk) hn hfit hl hdg (fun H1 locs1 hP hD hS => kk H1 locs1 ⟨by rw [mw_set, hE] at hP; exact hP, by rw [mw_set, hE] at hD; exact hD, hS⟩)
end MROWS
/-- an int array read; none: the index isn't in it -/
def ld (f : Nat → Int32) (n : Nat) (i : Int32) : Option Int32 := if ¬ (i < 0 ∨ n ≤ i.toNatClampNeg) then some (f i.toNatClampNeg) else none
theorem ld_some {f : Nat → Int32} {n : Nat} {i x : Int32} (h : ld f n i = some x) : vp_in i n ∧ f i.toNatClampNeg = x := by
  unfold ld at h
  by_cases hc : ¬ (i < 0 ∨ n ≤ i.toNatClampNeg)
  · rw [if_pos hc] at h; exact ⟨hc, Option.some.inj h⟩
  · rw [if_neg hc] at h; cases h
/-- a memory: its ints (the cell's number, the place), and a long -/
abbrev Mem : Type := (Nat → Nat → Int32) × Int64
def ms (M : Mem) (q j : Nat) (x : Int32) : Mem := (va_up M.1 q (upd (M.1 q) j x), M.2)
def ml (M : Mem) (x : Int64) : Mem := (M.1, x)
def sta (M : Mem) (q n : Nat) (i x : Int32) : Option Mem := if ¬ (i < 0 ∨ n ≤ i.toNatClampNeg) then some (ms M q i.toNatClampNeg x) else none
theorem sta_some {M M' : Mem} {q n : Nat} {i x : Int32} (h : sta M q n i x = some M') : vp_in i n ∧ ms M q i.toNatClampNeg x = M' := by
  unfold sta at h
  by_cases hc : ¬ (i < 0 ∨ n ≤ i.toNatClampNeg)
  · rw [if_pos hc] at h; exact ⟨hc, Option.some.inj h⟩
  · rw [if_neg hc] at h; cases h
/-- a boolean's answer; none: neither 0 nor 1 -/
def zb (v : Int32) : Option Int32 := if v = 0 ∨ v = 1 then some v else none
theorem zb_some {v r : Int32} (h : zb v = some r) : v = r ∧ narrow .boolean (.int v) = .int v := by
  unfold zb at h
  by_cases hc : v = 0 ∨ v = 1
  · rw [if_pos hc] at h
    refine ⟨Option.some.inj h, ?_⟩
    rcases hc with rfl | rfl <;> rfl
  · rw [if_neg hc] at h; cases h
def dvi (x y : Int32) : Option Int32 := if y = 0 then none else some (x / y)
def rmi (x y : Int32) : Option Int32 := if y = 0 then none else some (x - x / y * y)
theorem dvi_some {x y r : Int32} (h : dvi x y = some r) : ¬ y = 0 ∧ x / y = r := by
  unfold dvi at h
  by_cases hc : y = 0
  · rw [if_pos hc] at h; cases h
  · rw [if_neg hc] at h; exact ⟨hc, Option.some.inj h⟩
theorem rmi_some {x y r : Int32} (h : rmi x y = some r) : ¬ y = 0 ∧ x - x / y * y = r := by
  unfold rmi at h
  by_cases hc : y = 0
  · rw [if_pos hc] at h; cases h
  · rw [if_neg hc] at h; exact ⟨hc, Option.some.inj h⟩
/-- the loops' fuel -/
def mF : Nat := 20000
section MROWS2
variable {p : Program} {l : Launch} {e : Env} {R : Room} {s : State} {m : MethodId} {args : Array Value} {below : List Frame} {meth : Method} {c : Code} {H : Heap} {locs : List Loc} {cells slots : Nat} {Q : State → Prop}
variable {cc : ByteArray} {pc : Nat} {ls : Array Slot} {rest : List Value} {D : va_G} {tys : List (ClassId × FieldType)} {ad : Nat → Nat} {n : Nat} {E E' : Nat → va_E} {H0 : Heap} {q ci index : Nat} {own C : String} {T : u_T} {N : Nat} {Ts : List Cond} {fs : List Value} {X : State → Prop}
theorem m_iald (hx : p.tables.exec = Jvm.exec) (hb : c.code = cc) (hK : va_K D vwCl tys s) (hM : mH D ad n E H0 H locs) (hq : q < n) {cA : ClassId} {nn : Nat} {f : Nat → Int32} (he : E q = .inl (cA, nn, .inl f)) (t0 : Nat) (ht : tys[t0]? = some (cA, .int)) {i x : Int32} (hi : ld f nn i = some x) (hdg : decode cc pc = .ok (.iaload, 1))
    (kk : W p l e R s m args below meth c H locs cells slots Q (F0 m (pc + 1) ls (.int x :: rest))) : W p l e R s m args below meth c H locs cells slots Q (F0 m pc ls (.int i :: .ref (ad q) :: rest)) := by
  obtain ⟨h1, rfl⟩ := ld_some hi
  exact va_iald hx hb hK hM.1 q t0 (by rw [mw_at hq, he]) ht h1 hdg kk
theorem m_zald (hx : p.tables.exec = Jvm.exec) (hb : c.code = cc) (hK : va_K D vwCl tys s) (hM : mH D ad n E H0 H locs) (hq : q < n) {cA : ClassId} {nn : Nat} {f : Nat → Int32} (he : E q = .inl (cA, nn, .inl f)) (t0 : Nat) (ht : tys[t0]? = some (cA, .boolean)) {i x : Int32} (hi : ld f nn i = some x) (hdg : decode cc pc = .ok (.baload, 1))
    (kk : W p l e R s m args below meth c H locs cells slots Q (F0 m (pc + 1) ls (.int x :: rest))) : W p l e R s m args below meth c H locs cells slots Q (F0 m pc ls (.int i :: .ref (ad q) :: rest)) := by
  obtain ⟨h1, rfl⟩ := ld_some hi
  exact va_zald hx hb hK hM.1 q t0 (by rw [mw_at hq, he]) ht h1 hdg kk
theorem m_iast (hx : p.tables.exec = Jvm.exec) (hb : c.code = cc) (hK : va_K D vwCl tys s) (hM : mH D ad n E H0 H locs) (hq : q < n) {cA : ClassId} {nn : Nat} {f : Nat → Int32} (he : E q = .inl (cA, nn, .inl f)) (t0 : Nat) (ht : tys[t0]? = some (cA, .int)) {i x : Int32} (h1 : vp_in i nn) (hE : va_up E q (.inl (cA, nn, .inl (upd f i.toNatClampNeg x))) = E') (hdg : decode cc pc = .ok (.iastore, 1))
    (kk : ∀ (H1 : Heap) (locs1 : List Loc), mH D ad n E' H0 H1 locs1 → W p l e R s m args below meth c H1 locs1 cells slots Q (F0 m (pc + 1) ls rest)) : W p l e R s m args below meth c H locs cells slots Q (F0 m pc ls (.int x :: .int i :: .ref (ad q) :: rest)) :=
  va_iast hx hb hK hM.1 hM.2.1 hM.2.2 q t0 (by rw [mw_at hq, he]) ht h1 hdg (fun H1 locs1 hP hD hS => kk H1 locs1 ⟨by rw [mw_set, hE] at hP; exact hP, by rw [mw_set, hE] at hD; exact hD, hS⟩)
theorem m_zast (hx : p.tables.exec = Jvm.exec) (hb : c.code = cc) (hK : va_K D vwCl tys s) (hM : mH D ad n E H0 H locs) (hq : q < n) {cA : ClassId} {nn : Nat} {f : Nat → Int32} (he : E q = .inl (cA, nn, .inl f)) (t0 : Nat) (ht : tys[t0]? = some (cA, .boolean)) {i x : Int32} (hz : vp_nar .boolean x = x) (h1 : vp_in i nn) (hE : va_up E q (.inl (cA, nn, .inl (upd f i.toNatClampNeg x))) = E') (hdg : decode cc pc = .ok (.bastore, 1))
    (kk : ∀ (H1 : Heap) (locs1 : List Loc), mH D ad n E' H0 H1 locs1 → W p l e R s m args below meth c H1 locs1 cells slots Q (F0 m (pc + 1) ls rest)) : W p l e R s m args below meth c H locs cells slots Q (F0 m pc ls (.int x :: .int i :: .ref (ad q) :: rest)) :=
  va_zast hx hb hK hM.1 hM.2.1 hM.2.2 q t0 (by rw [mw_at hq, he]) ht h1 hdg (fun H1 locs1 hP hD hS => kk H1 locs1 ⟨by rw [hz, mw_set, hE] at hP; exact hP, by rw [hz, mw_set, hE] at hD; exact hD, hS⟩)
theorem m_alen (hx : p.tables.exec = Jvm.exec) (hb : c.code = cc) (hK : va_K D vwCl tys s) (hM : mH D ad n E H0 H locs) (hq : q < n) {cA : ClassId} {x : vp_A} (he : E q = .inl (cA, x)) {ty : FieldType} (t0 : Nat) (ht : tys[t0]? = some (cA, ty)) {v : Int32} (hv : Int32.ofNat x.1 = v) (hdg : decode cc pc = .ok (.arraylength, 1))
    (kk : W p l e R s m args below meth c H locs cells slots Q (F0 m (pc + 1) ls (.int v :: rest))) : W p l e R s m args below meth c H locs cells slots Q (F0 m pc ls (.ref (ad q) :: rest)) :=
  va_alen hx hb hK hM.1 q t0 (by rw [mw_at hq, he]) ht hv hdg kk
theorem m_iret (hx : p.tables.exec = Jvm.exec) (hb : c.code = cc) (hr : meth.sig.returnType = some .int) (hlocks : meth.locks = false) (hM : mH D ad n E s.heap H locs) {r v : Int32} (hv : v = r) (hE : E = E') (hdg : decode cc pc = .ok (.ireturn, 1)) : W p l e R s m args below meth c H locs 0 0 (MQ below (mQ D ad n (some (.int r)) E') args s 0 0 (mA ad n)) (F0 m pc ls [.int v]) := by
  subst hE; subst hv
  exact W.iret hx hb hr (fun t ht hW => ⟨rfl, ⟨by rw [ht]; exact hM.1, hM.2.1⟩, hM.2.2.F ht⟩) hM.2.2.2.2 hdg hlocks
theorem m_zret (hx : p.tables.exec = Jvm.exec) (hb : c.code = cc) (hr : meth.sig.returnType = some .boolean) (hlocks : meth.locks = false) (hM : mH D ad n E s.heap H locs) {r v : Int32} (hv : v = r) (hn : narrow .boolean (.int v) = .int v) (hE : E = E') (hdg : decode cc pc = .ok (.ireturn, 1)) : W p l e R s m args below meth c H locs 0 0 (MQ below (mQ D ad n (some (.int r)) E') args s 0 0 (mA ad n)) (F0 m pc ls [.int v]) := by
  subst hE; subst hv
  exact W.zret hx hb hr hn (fun t ht hW => ⟨rfl, ⟨by rw [ht]; exact hM.1, hM.2.1⟩, hM.2.2.F ht⟩) hM.2.2.2.2 hdg hlocks
theorem m_lret (hx : p.tables.exec = Jvm.exec) (hb : c.code = cc) (hr : meth.sig.returnType = some .long) (hlocks : meth.locks = false) (hM : mH D ad n E s.heap H locs) {r v : Int64} (hv : v = r) (hE : E = E') (hdg : decode cc pc = .ok (.lreturn, 1)) : W p l e R s m args below meth c H locs 0 0 (MQ below (mQ D ad n (some (.long r)) E') args s 0 0 (mA ad n)) (F0 m pc ls [.long v]) := by
  subst hE; subst hv
  exact W.lret hx hb hr (fun t ht hW => ⟨rfl, ⟨by rw [ht]; exact hM.1, hM.2.1⟩, hM.2.2.F ht⟩) hM.2.2.2.2 hdg hlocks
theorem m_vret (hx : p.tables.exec = Jvm.exec) (hb : c.code = cc) (hr : meth.sig.returnType = none) (hlocks : meth.locks = false) (hM : mH D ad n E s.heap H locs) (hE : E = E') (hdg : decode cc pc = .ok (.return_, 1)) : W p l e R s m args below meth c H locs 0 0 (MQ below (mQ D ad n none E') args s 0 0 (mA ad n)) (F0 m pc ls []) := by
  subst hE
  exact W.vret hx hb hr (fun t ht hW => ⟨rfl, ⟨by rw [ht]; exact hM.1, hM.2.1⟩, hM.2.2.F ht⟩) hM.2.2.2.2 hdg hlocks
theorem m_aret (hx : p.tables.exec = Jvm.exec) (hb : c.code = cc) {nm : String} (hr : meth.sig.returnType = some (.object nm)) (hlocks : meth.locks = false) (hM : mH D ad n E s.heap H locs) {r v : Nat} (hv : v = r) (hE : E = E') (hdg : decode cc pc = .ok (.areturn, 1)) : W p l e R s m args below meth c H locs 0 0 (MQ below (mQ D ad n (some (.ref (ad r))) E') args s 0 0 (mA ad n)) (F0 m pc ls [.ref (ad v)]) := by
  subst hE; subst hv
  exact W.aret hx hb hr (Or.inl ⟨nm, rfl⟩) (Or.inr ⟨_, rfl⟩) (fun t ht hW => ⟨rfl, ⟨by rw [ht]; exact hM.1, hM.2.1⟩, hM.2.2.F ht⟩) hM.2.2.2.2 hdg hlocks
/-- behind a call that keeps to a contract -/
theorem m_behind {av : Array Value} {v : Option Value} {g : JFrame} {st1 : List Value} (hM : mH D ad n E s.heap H locs) (hst1 : v.toList ++ rest = st1)
    (run : va_Run p l e R s m args below meth c H locs cells slots 0 0 g rest (mQ D ad n v E' av) (mA ad n))
    (kk : ∀ (H1 : Heap) (locs1 : List Loc), mH D ad n E' s.heap H1 locs1 → W p l e R s m args below meth c H1 locs1 cells slots Q { g with pc := g.pc + 3, stack := st1 }) : W p l e R s m args below meth c H locs cells slots Q g := by
  subst hst1
  intro T hT Y
  obtain ⟨v', st₀, t, T', L, h0, Y', hL, e1, e2, ⟨hv, ⟨hP1, hD1⟩, hF⟩, st⟩ := run T hT Y
  cases hv
  have hS := hM.2.2
  obtain ⟨hz, hk⟩ := hF
  rw [h0] at hz hk
  obtain ⟨t2, a1, b1⟩ := kk T'.heap (locs ++ L) ⟨by rw [e1]; exact hP1, hD1, Nat.le_trans hS.1 (by rw [e1]; exact hz), fun q h1 h2 => by rw [e1, hk q (Nat.lt_of_lt_of_le h1 hS.1) h2]; exact hS.2.1 q h1 h2, fun q hq => by
      rcases List.mem_append.mp hq with h | h
      · exact hS.2.2 q h
      · exact hL q h⟩ T' rfl Y'
  exact ⟨t2, st t2 a1, b1⟩
theorem m_pre {av : List Value} (hK : va_K D vwCl tys s) (hXs : X s) (hXk : mX ad n X) (hM : mH D ad n E s.heap H locs) : PreS s H (va_Pc av (mS D tys ad n X E)) av :=
  ⟨fun a U g mk q => ⟨q.1, q.2.1, va_K.moved (u := U) (U := U.calling g mk a) (Vm.Alike.refl U.vm) q.2.2.1, hXk.2 U g mk a q.2.2.2⟩, fun U hU hW => ⟨rfl, ⟨by rw [hU]; exact hM.1, hM.2.1⟩, va_K.moved hW.alike hK, hXk.1 s U H locs hXs hW hU hM.2.2⟩⟩
variable {y : MethodName} {bytes : ByteArray} {maxL nA : Nat} {ret : Option FieldType} {wsy : List Cond} {rm : Room} {As st st1 : List Value} {v : Option Value} {host : String}
theorem m_callV (hx : p.tables.exec = Jvm.exec) (hb : c.code = cc) (hml : c.maxLocals = ls.size) (hown : s.vm.findClass own = some m.cls) (hts : ∀ w ∈ Ts, w.before args s = true) (hK : va_K D vwCl tys s) (hXs : X s) (hXk : mX ad n X) (hM : mH D ad n E s.heap H locs)
    (hC : mC l y wsy rm D tys ad n X (.ref (ad q) :: As) E v E') (cw : CallW R s args own C index y bytes maxL ret wsy rm 0 0 nA) (hq : q < n) (he : E q = .inr (ci, fs)) (hc : vwCl[ci]? = some (C, T, N)) (hn : As.length = nA) (hst : st = As.reverse ++ .ref (ad q) :: rest) (hst1 : v.toList ++ rest = st1) (hW : (rest.map fun v => v.category).sum ≤ 8) (hdg : decode cc pc = .ok (.invokevirtual index, 3)) (hf : cells ≤ R.cells ∧ slots ≤ R.slots)
    (kk : ∀ (H1 : Heap) (locs1 : List Loc), mH D ad n E' s.heap H1 locs1 → W p l e R s m args below meth c H1 locs1 cells slots Q (F0 m (pc + 3) ls st1)) : W p l e R s m args below meth c H locs cells slots Q (F0 m pc ls st) := by
  have pre := m_pre (av := .ref (ad q) :: As) hK hXs hXk hM
  exact m_behind hM hst1 (va_runV (nL := ls.size) ⟨hx, hb, hml, hown, hts⟩ hC cw ⟨pre.1, va_recv hK hM.1 hc (q0 := q) (by rw [mw_at hq, he]), pre.2⟩ rfl hn rfl hst (lv_room hW) hdg hf) kk
theorem m_callS (hx : p.tables.exec = Jvm.exec) (hb : c.code = cc) (hml : c.maxLocals = ls.size) (hown : s.vm.findClass own = some m.cls) (hts : ∀ w ∈ Ts, w.before args s = true) (hK : va_K D vwCl tys s) (hXs : X s) (hXk : mX ad n X) (hM : mH D ad n E s.heap H locs)
    (hC : mC l y wsy rm D tys ad n X As E v E') (cw : CallB R s args own index y bytes maxL ret wsy rm 0 0 nA ∧ (Cond.static y).before args s = true) (hn : As.length = nA) (hst : st = As.reverse ++ rest) (hst1 : v.toList ++ rest = st1) (hW : (rest.map fun v => v.category).sum ≤ 8) (hdg : decode cc pc = .ok (.invokestatic index, 3)) (hf : cells ≤ R.cells ∧ slots ≤ R.slots)
    (kk : ∀ (H1 : Heap) (locs1 : List Loc), mH D ad n E' s.heap H1 locs1 → W p l e R s m args below meth c H1 locs1 cells slots Q (F0 m (pc + 3) ls st1)) : W p l e R s m args below meth c H locs cells slots Q (F0 m pc ls st) := by
  have pre := m_pre (av := As) hK hXs hXk hM
  exact m_behind hM hst1 (va_runS (nL := ls.size) ⟨hx, hb, hml, hown, hts⟩ hC cw pre rfl hn rfl hst (lv_room hW) hdg hf) kk
theorem m_callSN (hx : p.tables.exec = Jvm.exec) (hb : c.code = cc) (hml : c.maxLocals = ls.size) (hown : s.vm.findClass own = some m.cls) (hts : ∀ w ∈ Ts, w.before args s = true) (hK : va_K D vwCl tys s) (hXs : X s) (hXk : mX ad n X) (hM : mH D ad n E s.heap H locs)
    (hC : mC l y wsy rm D tys ad n X As E v E') (cw : va_CN R s args own index y host bytes maxL ret wsy rm 0 0 nA ∧ (Cond.static y).before args s = true ∧ True) (hn : As.length = nA) (hst : st = As.reverse ++ rest) (hst1 : v.toList ++ rest = st1) (hW : (rest.map fun v => v.category).sum ≤ 8) (hdg : decode cc pc = .ok (.invokestatic index, 3)) (hf : cells ≤ R.cells ∧ slots ≤ R.slots)
    (kk : ∀ (H1 : Heap) (locs1 : List Loc), mH D ad n E' s.heap H1 locs1 → W p l e R s m args below meth c H1 locs1 cells slots Q (F0 m (pc + 3) ls st1)) : W p l e R s m args below meth c H locs cells slots Q (F0 m pc ls st) := by
  have pre := m_pre (av := As) hK hXs hXk hM
  exact m_behind hM hst1 (va_runSN (nL := ls.size) ⟨hx, hb, hml, hown, hts⟩ hC cw pre rfl hn rfl hst (lv_room hW) hdg hf) kk
end MROWS2
/-- the entry of a JDK method that no native row stands for -/
theorem m_ofWF {l : Launch} {y : MethodName} {ws ws' : List Cond} {rm : Room} {D : va_G} {tys : List (ClassId × FieldType)} {ad : Nat → Nat} {n : Nat} {X : State → Prop} {av : List Value} {E : Nat → va_E} {v : Option Value} {E' : Nat → va_E} {cc : ByteArray} {maxL : Nat} {ret : Option FieldType} (hy : plainFor y = true) (hw : ws = Cond.code y cc maxL ret :: ws') (hlen : (lg_sl av).length ≤ maxL)
    (body : ∀ (p : Program) (e : Env) (s : State) (m : MethodId) (args : Array Value) (below : List Frame) (meth : Method) (c : Code), p.tables.exec = Jvm.exec → c.code = cc → c.maxLocals = maxL → meth.sig.returnType = ret → meth.locks = false → (∀ w ∈ ws, w.before args s = true) → s.vm.findClass y.cls = some m.cls → va_K D vwCl tys s → X s → ∀ ls : Array Slot, lv_has ls maxL (lv_args 0 av) → mH D ad n E s.heap s.heap [] →
      W p l e rm s m args below meth c s.heap [] 0 0 (MQ below (mQ D ad n v E') args s 0 0 (mA ad n)) (F0 m 0 ls [])) : mC l y ws rm D tys ad n X av E v E' := by
  unfold mC Met
  refine MetFree.of_bodySF (code := cc) (maxLocals := maxL) (ret := ret) hy ?_ ?_
  · intro args s m h hn
    obtain ⟨meth, c, h1, h2, h3, h4, h5, h6, -, -⟩ := Cond.code_spec hn (atoms_spec (ws := ws) h _ (by rw [hw]; exact List.mem_cons_self))
    exact ⟨meth, c, h1, h2, h3, h4, h5, h6⟩
  · intro p e s m args below meth c s₁ B hml hv _
    have hh0 : s₁.heap = s.heap := by rw [B.state]; rfl
    obtain ⟨rfl, ⟨hP, hD⟩, hK, hX⟩ := hv
    have hl := lv_entry av (n := maxL) hlen
    have k := body p e s m _ below meth c B.exec B.bytes hml B.returns B.notSynchronized (atoms_spec (ws := ws) B.pre) (findClass_of_methodNamed B.named) hK hX _ hl ⟨hP, hD, va_S.rf⟩
    rw [← lg_entry_eq] at k
    obtain ⟨t, a1, o, b1, b2, b3⟩ := k s₁ hh0 (Stand.of_body B)
    exact ⟨t, o, a1, b1, b2, b3⟩
