/-! the JDK's length() and charAt() on the three String constants -/
section MSTR
variable {p : Program} {l : Launch} {e : Env} {R : Room} {s : State} {m : MethodId} {args : Array Value} {below : List Frame} {meth : Method} {c : Code} {H : Heap} {locs : List Loc} {cells slots : Nat} {Q : State → Prop}
variable {cc : ByteArray} {pc : Nat} {ls : Array Slot} {rest : List Value} {D : va_G} {tys : List (ClassId × FieldType)} {ad aS : Nat → Nat} {E : Nat → va_E} {index : Nat} {own : String} {Ts : List Cond} {X : State → Prop}
variable {bytes : ByteArray} {maxL : Nat} {ret : Option FieldType} {st st1 : List Value}
theorem m_str_length (l : Launch) (hx : p.tables.exec = Jvm.exec) (hb : c.code = cc) (hml : c.maxLocals = ls.size) (hown : s.vm.findClass own = some m.cls) (hts : ∀ w ∈ Ts, w.before args s = true) (hK : va_K D vwCl tys s) (hXs : X s) (hX0 : cX D ad aS X) (hM : mH D ad 40 E s.heap H locs) {i : Nat} (pi : i < 3) {z : Int32} (hz : sLen i = z)
    (cw : CallW R s args own RJ0 index yJ0_length_8abf5 bytes maxL ret wsJ0_length_8abf5 { frames := 1, cells := 0, slots := 0, locals := 20 } 0 0 0) (hst : st = .ref (aS i) :: rest) (hst1 : .int z :: rest = st1) (hW : (rest.map fun v => v.category).sum ≤ 8) (hdg : decode cc pc = .ok (.invokevirtual index, 3)) (hf : cells ≤ R.cells ∧ slots ≤ R.slots)
    (kk : ∀ (H1 : Heap) (locs1 : List Loc), mH D ad 40 E s.heap H1 locs1 → W p l e R s m args below meth c H1 locs1 cells slots Q (F0 m (pc + 3) ls st1)) : W p l e R s m args below meth c H locs cells slots Q (F0 m pc ls st) := by
  sorry
theorem m_str_charAt (l : Launch) (hx : p.tables.exec = Jvm.exec) (hb : c.code = cc) (hml : c.maxLocals = ls.size) (hown : s.vm.findClass own = some m.cls) (hts : ∀ w ∈ Ts, w.before args s = true) (hK : va_K D vwCl tys s) (hXs : X s) (hX0 : cX D ad aS X) (hM : mH D ad 40 E s.heap H locs) {i : Nat} (pi : i < 3) {k z : Int32} (hz : ld (sCh i) (sN i) k = some z)
    (cw : CallW R s args own RJ0 index yJ0_charAt_5068e bytes maxL ret wsJ0_charAt_5068e { frames := 3, cells := 0, slots := 0, locals := 64 } 0 0 1) (hst : st = .int k :: .ref (aS i) :: rest) (hst1 : .int z :: rest = st1) (hW : (rest.map fun v => v.category).sum ≤ 8) (hdg : decode cc pc = .ok (.invokevirtual index, 3)) (hf : cells ≤ R.cells ∧ slots ≤ R.slots)
    (kk : ∀ (H1 : Heap) (locs1 : List Loc), mH D ad 40 E s.heap H1 locs1 → W p l e R s m args below meth c H1 locs1 cells slots Q (F0 m (pc + 3) ls st1)) : W p l e R s m args below meth c H locs cells slots Q (F0 m pc ls st) := by
  sorry
end MSTR
