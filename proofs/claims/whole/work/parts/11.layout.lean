/-! THE TWO MEMORIES: the class (40 cells: 0 itself, 1 reader, 2 text, 3 and 14 the lands with ten arrays each, 25 circuit, 28, 32, 36 memories with three arrays each), the reference (14 cells) -/
def lp (x : Int32) : Nat := if x = 0 then 3 else 14
def isL (b : Nat) : Prop := b = 3 ∨ b = 14
def isM (b : Nat) : Prop := b = 28 ∨ b = 32 ∨ b = 36
theorem lp_ok (x : Int32) : isL (lp x) := by
  unfold lp
  by_cases h : x = 0
  · rw [if_pos h]; exact Or.inl rfl
  · rw [if_neg h]; exact Or.inr rfl
theorem isM_28 : isM 28 := Or.inl rfl
theorem isM_32 : isM 32 := Or.inr (Or.inl rfl)
theorem isM_36 : isM 36 := Or.inr (Or.inr rfl)
abbrev fsX0 (ad : Nat → Nat) (r : Nat → Int32) : List Value := [.ref (ad 26), .ref (ad 27), .int (r 2), .int (r 3)]
abbrev fsX1 (ad : Nat → Nat) (b : Nat) (r : Nat → Int32) : List Value := [.int (r 0), .ref (ad (b + 1)), .int (r 2), .ref (ad (b + 2)), .ref (ad (b + 3)), .ref (ad (b + 4)), .int (r 6), .ref (ad (b + 5)), .ref (ad (b + 6)), .ref (ad (b + 7)), .ref (ad (b + 8)), .ref (ad (b + 9)), .int (r 12), .ref (ad (b + 10))]
abbrev fsX2 (ad : Nat → Nat) (b : Nat) (r : Nat → Int32) : List Value := [.int (r 0), .int (r 1), .ref (ad (b + 1)), .ref (ad (b + 2)), .ref (ad (b + 3)), .int (r 5)]
abbrev fsX3 (ad : Nat → Nat) (r : Nat → Int32) : List Value := [.ref (ad 2), .int (r 1), .int (r 2), .int (r 3), .int (r 4), .int (r 5)]
abbrev fsX4 (ad : Nat → Nat) (A : Int64) (r : Nat → Int32) : List Value := [.ref (ad 1), .ref (ad (lp (r 1))), .ref (ad (lp (r 2))), .ref (ad 25), .ref (ad 28), .ref (ad 32), .ref (ad 36), .long A]
abbrev fsX5 (ad : Nat → Nat) (A : Int64) (r : Nat → Int32) : List Value := [.int (r 0), .long A, .ref (ad 1), .int (r 3), .int (r 4), .int (r 5), .int (r 6), .int (r 7), .int (r 8), .ref (ad 2), .ref (ad 3), .ref (ad 4), .ref (ad 5), .int (r 13), .int (r 14), .int (r 15), .int (r 16), .int (r 17), .int (r 18), .ref (ad 6), .ref (ad 7), .ref (ad 8), .ref (ad 9), .ref (ad 10), .ref (ad 11), .int (r 25), .int (r 26), .int (r 27), .int (r 28), .ref (ad 12), .ref (ad 13)]
def ec (ad : Nat → Nat) (cI : ClassId) : Nat → (Nat → Int32) → va_E
  | 1, r => .inr (3, fsX3 ad r)
  | 2, r => .inl (cI, 300, .inl r)
  | 3, r => .inr (1, fsX1 ad 3 r)
  | 4, r => .inl (cI, 6, .inl r)
  | 5, r => .inl (cI, 10, .inl r)
  | 6, r => .inl (cI, 10, .inl r)
  | 7, r => .inl (cI, 10, .inl r)
  | 8, r => .inl (cI, 10, .inl r)
  | 9, r => .inl (cI, 10, .inl r)
  | 10, r => .inl (cI, 10, .inl r)
  | 11, r => .inl (cI, 10, .inl r)
  | 12, r => .inl (cI, 36, .inl r)
  | 13, r => .inl (cI, 296, .inl r)
  | 14, r => .inr (1, fsX1 ad 14 r)
  | 15, r => .inl (cI, 6, .inl r)
  | 16, r => .inl (cI, 10, .inl r)
  | 17, r => .inl (cI, 10, .inl r)
  | 18, r => .inl (cI, 10, .inl r)
  | 19, r => .inl (cI, 10, .inl r)
  | 20, r => .inl (cI, 10, .inl r)
  | 21, r => .inl (cI, 10, .inl r)
  | 22, r => .inl (cI, 10, .inl r)
  | 23, r => .inl (cI, 36, .inl r)
  | 24, r => .inl (cI, 296, .inl r)
  | 25, r => .inr (0, fsX0 ad r)
  | 26, r => .inl (cI, 6, .inl r)
  | 27, r => .inl (cI, 6, .inl r)
  | 28, r => .inr (2, fsX2 ad 28 r)
  | 29, r => .inl (cI, 8, .inl r)
  | 30, r => .inl (cI, 8, .inl r)
  | 31, r => .inl (cI, 8, .inl r)
  | 32, r => .inr (2, fsX2 ad 32 r)
  | 33, r => .inl (cI, 8, .inl r)
  | 34, r => .inl (cI, 8, .inl r)
  | 35, r => .inl (cI, 8, .inl r)
  | 36, r => .inr (2, fsX2 ad 36 r)
  | 37, r => .inl (cI, 8, .inl r)
  | 38, r => .inl (cI, 8, .inl r)
  | 39, r => .inl (cI, 8, .inl r)
  | _, _ => .inr (0, [])
def Ec (ad : Nat → Nat) (cI : ClassId) (M : Mem) : Nat → va_E := fun k => if k = 0 then .inr (4, fsX4 ad M.2 (M.1 0)) else ec ad cI k (M.1 k)
def em (cI cZ : ClassId) : Nat → (Nat → Int32) → va_E
  | 1, r => .inl (cI, 300, .inl r)
  | 2, r => .inl (cI, 12, .inl r)
  | 3, r => .inl (cI, 60, .inl r)
  | 4, r => .inl (cI, 20, .inl r)
  | 5, r => .inl (cI, 20, .inl r)
  | 6, r => .inl (cI, 36, .inl r)
  | 7, r => .inl (cI, 10, .inl r)
  | 8, r => .inl (cI, 10, .inl r)
  | 9, r => .inl (cI, 26, .inl r)
  | 10, r => .inl (cI, 52, .inl r)
  | 11, r => .inl (cZ, 2, .inl r)
  | 12, r => .inl (cI, 6, .inl r)
  | 13, r => .inl (cI, 6, .inl r)
  | _, _ => .inr (0, [])
def Em (ad : Nat → Nat) (cI cZ : ClassId) (M : Mem) : Nat → va_E := fun k => if k = 0 then .inr (5, fsX5 ad M.2 (M.1 0)) else em cI cZ k (M.1 k)
theorem Ec_set {ad : Nat → Nat} {cI : ClassId} {M : Mem} {q : Nat} {e : va_E} (hq : q ≠ 0) (row : Nat → Int32) (h : ec ad cI q row = e) : va_up (Ec ad cI M) q e = Ec ad cI (va_up M.1 q row, M.2) := by
  funext k
  by_cases hk : k = q
  · subst hk; simp [Ec, va_up, hq, h]
  · by_cases h0 : k = 0
    · subst h0; simp [Ec, va_up, hk]
    · simp [Ec, va_up, hk, h0]
theorem Ec_set0 {ad : Nat → Nat} {cI : ClassId} {M : Mem} {e : va_E} (row : Nat → Int32) (A : Int64) (h : (.inr (4, fsX4 ad A row) : va_E) = e) : va_up (Ec ad cI M) 0 e = Ec ad cI (va_up M.1 0 row, A) := by
  funext k
  by_cases hk : k = 0
  · subst hk; simp [Ec, va_up, ← h]
  · simp [Ec, va_up, hk]
theorem Em_set {ad : Nat → Nat} {cI cZ : ClassId} {M : Mem} {q : Nat} {e : va_E} (hq : q ≠ 0) (row : Nat → Int32) (h : em cI cZ q row = e) : va_up (Em ad cI cZ M) q e = Em ad cI cZ (va_up M.1 q row, M.2) := by
  funext k
  by_cases hk : k = q
  · subst hk; simp [Em, va_up, hq, h]
  · by_cases h0 : k = 0
    · subst h0; simp [Em, va_up, hk]
    · simp [Em, va_up, hk, h0]
theorem Em_set0 {ad : Nat → Nat} {cI cZ : ClassId} {M : Mem} {e : va_E} (row : Nat → Int32) (A : Int64) (h : (.inr (5, fsX5 ad A row) : va_E) = e) : va_up (Em ad cI cZ M) 0 e = Em ad cI cZ (va_up M.1 0 row, A) := by
  funext k
  by_cases hk : k = 0
  · subst hk; simp [Em, va_up, ← h]
  · simp [Em, va_up, hk]
theorem mem_same {f : Nat → Nat → Int32} : va_up f 0 (f 0) = f := by
  funext k
  by_cases hk : k = 0
  · subst hk; simp [va_up]
  · simp [va_up, hk]
theorem at_X0 {ad : Nat → Nat} {cI : ClassId} {M : Mem} : Ec ad cI M 25 = .inr (0, fsX0 ad (M.1 25)) := rfl
theorem at_X0_1 {ad : Nat → Nat} {cI : ClassId} {M : Mem} : Ec ad cI M 26 = .inl (cI, 6, .inl (M.1 26)) := rfl
theorem pa_X0_1 {ad : Nat → Nat} {cI : ClassId} {M M1 : Mem} {j : Nat} {x : Int32} (h : ms M 26 j x = M1) : va_up (Ec ad cI M) 26 (.inl (cI, 6, .inl (upd (M.1 26) j x))) = Ec ad cI M1 := by
  subst h
  exact Ec_set (by decide) _ rfl
theorem at_X0_2 {ad : Nat → Nat} {cI : ClassId} {M : Mem} : Ec ad cI M 27 = .inl (cI, 6, .inl (M.1 27)) := rfl
theorem pa_X0_2 {ad : Nat → Nat} {cI : ClassId} {M M1 : Mem} {j : Nat} {x : Int32} (h : ms M 27 j x = M1) : va_up (Ec ad cI M) 27 (.inl (cI, 6, .inl (upd (M.1 27) j x))) = Ec ad cI M1 := by
  subst h
  exact Ec_set (by decide) _ rfl
theorem pt_X0_2 {ad : Nat → Nat} {cI : ClassId} {M M1 : Mem} {x : Int32} (h : ms M 25 2 x = M1) : va_up (Ec ad cI M) 25 (.inr (0, (fsX0 ad (M.1 25)).set 2 (.int x))) = Ec ad cI M1 := by
  subst h
  exact Ec_set (by decide) _ rfl
theorem pt_X0_3 {ad : Nat → Nat} {cI : ClassId} {M M1 : Mem} {x : Int32} (h : ms M 25 3 x = M1) : va_up (Ec ad cI M) 25 (.inr (0, (fsX0 ad (M.1 25)).set 3 (.int x))) = Ec ad cI M1 := by
  subst h
  exact Ec_set (by decide) _ rfl
theorem at_X1 {ad : Nat → Nat} {cI : ClassId} {M : Mem} {b : Nat} (pb : isL b) : Ec ad cI M b = .inr (1, fsX1 ad b (M.1 b)) := by rcases pb with rfl | rfl <;> rfl
theorem lt_X1 {b : Nat} (pb : isL b) : b < 40 := by rcases pb with rfl | rfl <;> decide
theorem at_X1_1 {ad : Nat → Nat} {cI : ClassId} {M : Mem} {b : Nat} (pb : isL b) : Ec ad cI M (b + 1) = .inl (cI, 6, .inl (M.1 (b + 1))) := by rcases pb with rfl | rfl <;> rfl
theorem lt_X1_1 {b : Nat} (pb : isL b) : b + 1 < 40 := by rcases pb with rfl | rfl <;> decide
theorem pa_X1_1 {ad : Nat → Nat} {cI : ClassId} {M M1 : Mem} {b : Nat} (pb : isL b) {j : Nat} {x : Int32} (h : ms M (b + 1) j x = M1) : va_up (Ec ad cI M) (b + 1) (.inl (cI, 6, .inl (upd (M.1 (b + 1)) j x))) = Ec ad cI M1 := by
  subst h
  rcases pb with rfl | rfl <;> exact Ec_set (by decide) _ rfl
theorem at_X1_2 {ad : Nat → Nat} {cI : ClassId} {M : Mem} {b : Nat} (pb : isL b) : Ec ad cI M (b + 2) = .inl (cI, 10, .inl (M.1 (b + 2))) := by rcases pb with rfl | rfl <;> rfl
theorem lt_X1_2 {b : Nat} (pb : isL b) : b + 2 < 40 := by rcases pb with rfl | rfl <;> decide
theorem pa_X1_2 {ad : Nat → Nat} {cI : ClassId} {M M1 : Mem} {b : Nat} (pb : isL b) {j : Nat} {x : Int32} (h : ms M (b + 2) j x = M1) : va_up (Ec ad cI M) (b + 2) (.inl (cI, 10, .inl (upd (M.1 (b + 2)) j x))) = Ec ad cI M1 := by
  subst h
  rcases pb with rfl | rfl <;> exact Ec_set (by decide) _ rfl
theorem at_X1_3 {ad : Nat → Nat} {cI : ClassId} {M : Mem} {b : Nat} (pb : isL b) : Ec ad cI M (b + 3) = .inl (cI, 10, .inl (M.1 (b + 3))) := by rcases pb with rfl | rfl <;> rfl
theorem lt_X1_3 {b : Nat} (pb : isL b) : b + 3 < 40 := by rcases pb with rfl | rfl <;> decide
theorem pa_X1_3 {ad : Nat → Nat} {cI : ClassId} {M M1 : Mem} {b : Nat} (pb : isL b) {j : Nat} {x : Int32} (h : ms M (b + 3) j x = M1) : va_up (Ec ad cI M) (b + 3) (.inl (cI, 10, .inl (upd (M.1 (b + 3)) j x))) = Ec ad cI M1 := by
  subst h
  rcases pb with rfl | rfl <;> exact Ec_set (by decide) _ rfl
theorem at_X1_4 {ad : Nat → Nat} {cI : ClassId} {M : Mem} {b : Nat} (pb : isL b) : Ec ad cI M (b + 4) = .inl (cI, 10, .inl (M.1 (b + 4))) := by rcases pb with rfl | rfl <;> rfl
theorem lt_X1_4 {b : Nat} (pb : isL b) : b + 4 < 40 := by rcases pb with rfl | rfl <;> decide
theorem pa_X1_4 {ad : Nat → Nat} {cI : ClassId} {M M1 : Mem} {b : Nat} (pb : isL b) {j : Nat} {x : Int32} (h : ms M (b + 4) j x = M1) : va_up (Ec ad cI M) (b + 4) (.inl (cI, 10, .inl (upd (M.1 (b + 4)) j x))) = Ec ad cI M1 := by
  subst h
  rcases pb with rfl | rfl <;> exact Ec_set (by decide) _ rfl
theorem at_X1_5 {ad : Nat → Nat} {cI : ClassId} {M : Mem} {b : Nat} (pb : isL b) : Ec ad cI M (b + 5) = .inl (cI, 10, .inl (M.1 (b + 5))) := by rcases pb with rfl | rfl <;> rfl
theorem lt_X1_5 {b : Nat} (pb : isL b) : b + 5 < 40 := by rcases pb with rfl | rfl <;> decide
theorem pa_X1_5 {ad : Nat → Nat} {cI : ClassId} {M M1 : Mem} {b : Nat} (pb : isL b) {j : Nat} {x : Int32} (h : ms M (b + 5) j x = M1) : va_up (Ec ad cI M) (b + 5) (.inl (cI, 10, .inl (upd (M.1 (b + 5)) j x))) = Ec ad cI M1 := by
  subst h
  rcases pb with rfl | rfl <;> exact Ec_set (by decide) _ rfl
theorem at_X1_6 {ad : Nat → Nat} {cI : ClassId} {M : Mem} {b : Nat} (pb : isL b) : Ec ad cI M (b + 6) = .inl (cI, 10, .inl (M.1 (b + 6))) := by rcases pb with rfl | rfl <;> rfl
theorem lt_X1_6 {b : Nat} (pb : isL b) : b + 6 < 40 := by rcases pb with rfl | rfl <;> decide
theorem pa_X1_6 {ad : Nat → Nat} {cI : ClassId} {M M1 : Mem} {b : Nat} (pb : isL b) {j : Nat} {x : Int32} (h : ms M (b + 6) j x = M1) : va_up (Ec ad cI M) (b + 6) (.inl (cI, 10, .inl (upd (M.1 (b + 6)) j x))) = Ec ad cI M1 := by
  subst h
  rcases pb with rfl | rfl <;> exact Ec_set (by decide) _ rfl
theorem at_X1_7 {ad : Nat → Nat} {cI : ClassId} {M : Mem} {b : Nat} (pb : isL b) : Ec ad cI M (b + 7) = .inl (cI, 10, .inl (M.1 (b + 7))) := by rcases pb with rfl | rfl <;> rfl
theorem lt_X1_7 {b : Nat} (pb : isL b) : b + 7 < 40 := by rcases pb with rfl | rfl <;> decide
theorem pa_X1_7 {ad : Nat → Nat} {cI : ClassId} {M M1 : Mem} {b : Nat} (pb : isL b) {j : Nat} {x : Int32} (h : ms M (b + 7) j x = M1) : va_up (Ec ad cI M) (b + 7) (.inl (cI, 10, .inl (upd (M.1 (b + 7)) j x))) = Ec ad cI M1 := by
  subst h
  rcases pb with rfl | rfl <;> exact Ec_set (by decide) _ rfl
theorem at_X1_8 {ad : Nat → Nat} {cI : ClassId} {M : Mem} {b : Nat} (pb : isL b) : Ec ad cI M (b + 8) = .inl (cI, 10, .inl (M.1 (b + 8))) := by rcases pb with rfl | rfl <;> rfl
theorem lt_X1_8 {b : Nat} (pb : isL b) : b + 8 < 40 := by rcases pb with rfl | rfl <;> decide
theorem pa_X1_8 {ad : Nat → Nat} {cI : ClassId} {M M1 : Mem} {b : Nat} (pb : isL b) {j : Nat} {x : Int32} (h : ms M (b + 8) j x = M1) : va_up (Ec ad cI M) (b + 8) (.inl (cI, 10, .inl (upd (M.1 (b + 8)) j x))) = Ec ad cI M1 := by
  subst h
  rcases pb with rfl | rfl <;> exact Ec_set (by decide) _ rfl
theorem at_X1_9 {ad : Nat → Nat} {cI : ClassId} {M : Mem} {b : Nat} (pb : isL b) : Ec ad cI M (b + 9) = .inl (cI, 36, .inl (M.1 (b + 9))) := by rcases pb with rfl | rfl <;> rfl
theorem lt_X1_9 {b : Nat} (pb : isL b) : b + 9 < 40 := by rcases pb with rfl | rfl <;> decide
theorem pa_X1_9 {ad : Nat → Nat} {cI : ClassId} {M M1 : Mem} {b : Nat} (pb : isL b) {j : Nat} {x : Int32} (h : ms M (b + 9) j x = M1) : va_up (Ec ad cI M) (b + 9) (.inl (cI, 36, .inl (upd (M.1 (b + 9)) j x))) = Ec ad cI M1 := by
  subst h
  rcases pb with rfl | rfl <;> exact Ec_set (by decide) _ rfl
theorem at_X1_10 {ad : Nat → Nat} {cI : ClassId} {M : Mem} {b : Nat} (pb : isL b) : Ec ad cI M (b + 10) = .inl (cI, 296, .inl (M.1 (b + 10))) := by rcases pb with rfl | rfl <;> rfl
theorem lt_X1_10 {b : Nat} (pb : isL b) : b + 10 < 40 := by rcases pb with rfl | rfl <;> decide
theorem pa_X1_10 {ad : Nat → Nat} {cI : ClassId} {M M1 : Mem} {b : Nat} (pb : isL b) {j : Nat} {x : Int32} (h : ms M (b + 10) j x = M1) : va_up (Ec ad cI M) (b + 10) (.inl (cI, 296, .inl (upd (M.1 (b + 10)) j x))) = Ec ad cI M1 := by
  subst h
  rcases pb with rfl | rfl <;> exact Ec_set (by decide) _ rfl
theorem pt_X1_0 {ad : Nat → Nat} {cI : ClassId} {M M1 : Mem} {b : Nat} (pb : isL b) {x : Int32} (h : ms M b 0 x = M1) : va_up (Ec ad cI M) b (.inr (1, (fsX1 ad b (M.1 b)).set 0 (.int x))) = Ec ad cI M1 := by
  subst h
  rcases pb with rfl | rfl <;> exact Ec_set (by decide) _ rfl
theorem pt_X1_2 {ad : Nat → Nat} {cI : ClassId} {M M1 : Mem} {b : Nat} (pb : isL b) {x : Int32} (h : ms M b 2 x = M1) : va_up (Ec ad cI M) b (.inr (1, (fsX1 ad b (M.1 b)).set 2 (.int x))) = Ec ad cI M1 := by
  subst h
  rcases pb with rfl | rfl <;> exact Ec_set (by decide) _ rfl
theorem pt_X1_6 {ad : Nat → Nat} {cI : ClassId} {M M1 : Mem} {b : Nat} (pb : isL b) {x : Int32} (h : ms M b 6 x = M1) : va_up (Ec ad cI M) b (.inr (1, (fsX1 ad b (M.1 b)).set 6 (.int x))) = Ec ad cI M1 := by
  subst h
  rcases pb with rfl | rfl <;> exact Ec_set (by decide) _ rfl
theorem pt_X1_12 {ad : Nat → Nat} {cI : ClassId} {M M1 : Mem} {b : Nat} (pb : isL b) {x : Int32} (h : ms M b 12 x = M1) : va_up (Ec ad cI M) b (.inr (1, (fsX1 ad b (M.1 b)).set 12 (.int x))) = Ec ad cI M1 := by
  subst h
  rcases pb with rfl | rfl <;> exact Ec_set (by decide) _ rfl
theorem at_X2 {ad : Nat → Nat} {cI : ClassId} {M : Mem} {b : Nat} (pb : isM b) : Ec ad cI M b = .inr (2, fsX2 ad b (M.1 b)) := by rcases pb with rfl | rfl | rfl <;> rfl
theorem lt_X2 {b : Nat} (pb : isM b) : b < 40 := by rcases pb with rfl | rfl | rfl <;> decide
theorem at_X2_1 {ad : Nat → Nat} {cI : ClassId} {M : Mem} {b : Nat} (pb : isM b) : Ec ad cI M (b + 1) = .inl (cI, 8, .inl (M.1 (b + 1))) := by rcases pb with rfl | rfl | rfl <;> rfl
theorem lt_X2_1 {b : Nat} (pb : isM b) : b + 1 < 40 := by rcases pb with rfl | rfl | rfl <;> decide
theorem pa_X2_1 {ad : Nat → Nat} {cI : ClassId} {M M1 : Mem} {b : Nat} (pb : isM b) {j : Nat} {x : Int32} (h : ms M (b + 1) j x = M1) : va_up (Ec ad cI M) (b + 1) (.inl (cI, 8, .inl (upd (M.1 (b + 1)) j x))) = Ec ad cI M1 := by
  subst h
  rcases pb with rfl | rfl | rfl <;> exact Ec_set (by decide) _ rfl
theorem at_X2_2 {ad : Nat → Nat} {cI : ClassId} {M : Mem} {b : Nat} (pb : isM b) : Ec ad cI M (b + 2) = .inl (cI, 8, .inl (M.1 (b + 2))) := by rcases pb with rfl | rfl | rfl <;> rfl
theorem lt_X2_2 {b : Nat} (pb : isM b) : b + 2 < 40 := by rcases pb with rfl | rfl | rfl <;> decide
theorem pa_X2_2 {ad : Nat → Nat} {cI : ClassId} {M M1 : Mem} {b : Nat} (pb : isM b) {j : Nat} {x : Int32} (h : ms M (b + 2) j x = M1) : va_up (Ec ad cI M) (b + 2) (.inl (cI, 8, .inl (upd (M.1 (b + 2)) j x))) = Ec ad cI M1 := by
  subst h
  rcases pb with rfl | rfl | rfl <;> exact Ec_set (by decide) _ rfl
theorem at_X2_3 {ad : Nat → Nat} {cI : ClassId} {M : Mem} {b : Nat} (pb : isM b) : Ec ad cI M (b + 3) = .inl (cI, 8, .inl (M.1 (b + 3))) := by rcases pb with rfl | rfl | rfl <;> rfl
theorem lt_X2_3 {b : Nat} (pb : isM b) : b + 3 < 40 := by rcases pb with rfl | rfl | rfl <;> decide
theorem pa_X2_3 {ad : Nat → Nat} {cI : ClassId} {M M1 : Mem} {b : Nat} (pb : isM b) {j : Nat} {x : Int32} (h : ms M (b + 3) j x = M1) : va_up (Ec ad cI M) (b + 3) (.inl (cI, 8, .inl (upd (M.1 (b + 3)) j x))) = Ec ad cI M1 := by
  subst h
  rcases pb with rfl | rfl | rfl <;> exact Ec_set (by decide) _ rfl
theorem pt_X2_0 {ad : Nat → Nat} {cI : ClassId} {M M1 : Mem} {b : Nat} (pb : isM b) {x : Int32} (h : ms M b 0 x = M1) : va_up (Ec ad cI M) b (.inr (2, (fsX2 ad b (M.1 b)).set 0 (.int x))) = Ec ad cI M1 := by
  subst h
  rcases pb with rfl | rfl | rfl <;> exact Ec_set (by decide) _ rfl
theorem pt_X2_1 {ad : Nat → Nat} {cI : ClassId} {M M1 : Mem} {b : Nat} (pb : isM b) {x : Int32} (h : ms M b 1 x = M1) : va_up (Ec ad cI M) b (.inr (2, (fsX2 ad b (M.1 b)).set 1 (.int x))) = Ec ad cI M1 := by
  subst h
  rcases pb with rfl | rfl | rfl <;> exact Ec_set (by decide) _ rfl
theorem pt_X2_5 {ad : Nat → Nat} {cI : ClassId} {M M1 : Mem} {b : Nat} (pb : isM b) {x : Int32} (h : ms M b 5 x = M1) : va_up (Ec ad cI M) b (.inr (2, (fsX2 ad b (M.1 b)).set 5 (.int x))) = Ec ad cI M1 := by
  subst h
  rcases pb with rfl | rfl | rfl <;> exact Ec_set (by decide) _ rfl
theorem at_X3 {ad : Nat → Nat} {cI : ClassId} {M : Mem} : Ec ad cI M 1 = .inr (3, fsX3 ad (M.1 1)) := rfl
theorem at_X3_1 {ad : Nat → Nat} {cI : ClassId} {M : Mem} : Ec ad cI M 2 = .inl (cI, 300, .inl (M.1 2)) := rfl
theorem pa_X3_1 {ad : Nat → Nat} {cI : ClassId} {M M1 : Mem} {j : Nat} {x : Int32} (h : ms M 2 j x = M1) : va_up (Ec ad cI M) 2 (.inl (cI, 300, .inl (upd (M.1 2) j x))) = Ec ad cI M1 := by
  subst h
  exact Ec_set (by decide) _ rfl
theorem pt_X3_1 {ad : Nat → Nat} {cI : ClassId} {M M1 : Mem} {x : Int32} (h : ms M 1 1 x = M1) : va_up (Ec ad cI M) 1 (.inr (3, (fsX3 ad (M.1 1)).set 1 (.int x))) = Ec ad cI M1 := by
  subst h
  exact Ec_set (by decide) _ rfl
theorem pt_X3_2 {ad : Nat → Nat} {cI : ClassId} {M M1 : Mem} {x : Int32} (h : ms M 1 2 x = M1) : va_up (Ec ad cI M) 1 (.inr (3, (fsX3 ad (M.1 1)).set 2 (.int x))) = Ec ad cI M1 := by
  subst h
  exact Ec_set (by decide) _ rfl
theorem pt_X3_3 {ad : Nat → Nat} {cI : ClassId} {M M1 : Mem} {x : Int32} (h : ms M 1 3 x = M1) : va_up (Ec ad cI M) 1 (.inr (3, (fsX3 ad (M.1 1)).set 3 (.int x))) = Ec ad cI M1 := by
  subst h
  exact Ec_set (by decide) _ rfl
theorem pt_X3_4 {ad : Nat → Nat} {cI : ClassId} {M M1 : Mem} {x : Int32} (h : ms M 1 4 x = M1) : va_up (Ec ad cI M) 1 (.inr (3, (fsX3 ad (M.1 1)).set 4 (.int x))) = Ec ad cI M1 := by
  subst h
  exact Ec_set (by decide) _ rfl
theorem pt_X3_5 {ad : Nat → Nat} {cI : ClassId} {M M1 : Mem} {x : Int32} (h : ms M 1 5 x = M1) : va_up (Ec ad cI M) 1 (.inr (3, (fsX3 ad (M.1 1)).set 5 (.int x))) = Ec ad cI M1 := by
  subst h
  exact Ec_set (by decide) _ rfl
theorem at_X4 {ad : Nat → Nat} {cI : ClassId} {M : Mem} : Ec ad cI M 0 = .inr (4, fsX4 ad M.2 (M.1 0)) := rfl
theorem pt_X4_1 {ad : Nat → Nat} {cI : ClassId} {M M1 : Mem} {x : Int32} (h : ms M 0 1 x = M1) : va_up (Ec ad cI M) 0 (.inr (4, (fsX4 ad M.2 (M.1 0)).set 1 (.ref (ad (lp x))))) = Ec ad cI M1 := by
  subst h
  exact Ec_set0 _ _ rfl
theorem pt_X4_2 {ad : Nat → Nat} {cI : ClassId} {M M1 : Mem} {x : Int32} (h : ms M 0 2 x = M1) : va_up (Ec ad cI M) 0 (.inr (4, (fsX4 ad M.2 (M.1 0)).set 2 (.ref (ad (lp x))))) = Ec ad cI M1 := by
  subst h
  exact Ec_set0 _ _ rfl
theorem pt_X4_7 {ad : Nat → Nat} {cI : ClassId} {M M1 : Mem} {x : Int64} (h : ml M x = M1) : va_up (Ec ad cI M) 0 (.inr (4, (fsX4 ad M.2 (M.1 0)).set 7 (.long x))) = Ec ad cI M1 := by
  subst h
  refine (Ec_set0 (M.1 0) x rfl).trans ?_
  rw [mem_same]
  rfl
theorem at_X5 {ad : Nat → Nat} {cI cZ : ClassId} {M : Mem} : Em ad cI cZ M 0 = .inr (5, fsX5 ad M.2 (M.1 0)) := rfl
theorem at_X5_1 {ad : Nat → Nat} {cI cZ : ClassId} {M : Mem} : Em ad cI cZ M 1 = .inl (cI, 300, .inl (M.1 1)) := rfl
theorem pa_X5_1 {ad : Nat → Nat} {cI cZ : ClassId} {M M1 : Mem} {j : Nat} {x : Int32} (h : ms M 1 j x = M1) : va_up (Em ad cI cZ M) 1 (.inl (cI, 300, .inl (upd (M.1 1) j x))) = Em ad cI cZ M1 := by
  subst h
  exact Em_set (by decide) _ rfl
theorem at_X5_2 {ad : Nat → Nat} {cI cZ : ClassId} {M : Mem} : Em ad cI cZ M 2 = .inl (cI, 12, .inl (M.1 2)) := rfl
theorem pa_X5_2 {ad : Nat → Nat} {cI cZ : ClassId} {M M1 : Mem} {j : Nat} {x : Int32} (h : ms M 2 j x = M1) : va_up (Em ad cI cZ M) 2 (.inl (cI, 12, .inl (upd (M.1 2) j x))) = Em ad cI cZ M1 := by
  subst h
  exact Em_set (by decide) _ rfl
theorem at_X5_3 {ad : Nat → Nat} {cI cZ : ClassId} {M : Mem} : Em ad cI cZ M 3 = .inl (cI, 60, .inl (M.1 3)) := rfl
theorem pa_X5_3 {ad : Nat → Nat} {cI cZ : ClassId} {M M1 : Mem} {j : Nat} {x : Int32} (h : ms M 3 j x = M1) : va_up (Em ad cI cZ M) 3 (.inl (cI, 60, .inl (upd (M.1 3) j x))) = Em ad cI cZ M1 := by
  subst h
  exact Em_set (by decide) _ rfl
theorem at_X5_4 {ad : Nat → Nat} {cI cZ : ClassId} {M : Mem} : Em ad cI cZ M 4 = .inl (cI, 20, .inl (M.1 4)) := rfl
theorem pa_X5_4 {ad : Nat → Nat} {cI cZ : ClassId} {M M1 : Mem} {j : Nat} {x : Int32} (h : ms M 4 j x = M1) : va_up (Em ad cI cZ M) 4 (.inl (cI, 20, .inl (upd (M.1 4) j x))) = Em ad cI cZ M1 := by
  subst h
  exact Em_set (by decide) _ rfl
theorem at_X5_5 {ad : Nat → Nat} {cI cZ : ClassId} {M : Mem} : Em ad cI cZ M 5 = .inl (cI, 20, .inl (M.1 5)) := rfl
theorem pa_X5_5 {ad : Nat → Nat} {cI cZ : ClassId} {M M1 : Mem} {j : Nat} {x : Int32} (h : ms M 5 j x = M1) : va_up (Em ad cI cZ M) 5 (.inl (cI, 20, .inl (upd (M.1 5) j x))) = Em ad cI cZ M1 := by
  subst h
  exact Em_set (by decide) _ rfl
theorem at_X5_6 {ad : Nat → Nat} {cI cZ : ClassId} {M : Mem} : Em ad cI cZ M 6 = .inl (cI, 36, .inl (M.1 6)) := rfl
theorem pa_X5_6 {ad : Nat → Nat} {cI cZ : ClassId} {M M1 : Mem} {j : Nat} {x : Int32} (h : ms M 6 j x = M1) : va_up (Em ad cI cZ M) 6 (.inl (cI, 36, .inl (upd (M.1 6) j x))) = Em ad cI cZ M1 := by
  subst h
  exact Em_set (by decide) _ rfl
theorem at_X5_7 {ad : Nat → Nat} {cI cZ : ClassId} {M : Mem} : Em ad cI cZ M 7 = .inl (cI, 10, .inl (M.1 7)) := rfl
theorem pa_X5_7 {ad : Nat → Nat} {cI cZ : ClassId} {M M1 : Mem} {j : Nat} {x : Int32} (h : ms M 7 j x = M1) : va_up (Em ad cI cZ M) 7 (.inl (cI, 10, .inl (upd (M.1 7) j x))) = Em ad cI cZ M1 := by
  subst h
  exact Em_set (by decide) _ rfl
theorem at_X5_8 {ad : Nat → Nat} {cI cZ : ClassId} {M : Mem} : Em ad cI cZ M 8 = .inl (cI, 10, .inl (M.1 8)) := rfl
theorem pa_X5_8 {ad : Nat → Nat} {cI cZ : ClassId} {M M1 : Mem} {j : Nat} {x : Int32} (h : ms M 8 j x = M1) : va_up (Em ad cI cZ M) 8 (.inl (cI, 10, .inl (upd (M.1 8) j x))) = Em ad cI cZ M1 := by
  subst h
  exact Em_set (by decide) _ rfl
theorem at_X5_9 {ad : Nat → Nat} {cI cZ : ClassId} {M : Mem} : Em ad cI cZ M 9 = .inl (cI, 26, .inl (M.1 9)) := rfl
theorem pa_X5_9 {ad : Nat → Nat} {cI cZ : ClassId} {M M1 : Mem} {j : Nat} {x : Int32} (h : ms M 9 j x = M1) : va_up (Em ad cI cZ M) 9 (.inl (cI, 26, .inl (upd (M.1 9) j x))) = Em ad cI cZ M1 := by
  subst h
  exact Em_set (by decide) _ rfl
theorem at_X5_10 {ad : Nat → Nat} {cI cZ : ClassId} {M : Mem} : Em ad cI cZ M 10 = .inl (cI, 52, .inl (M.1 10)) := rfl
theorem pa_X5_10 {ad : Nat → Nat} {cI cZ : ClassId} {M M1 : Mem} {j : Nat} {x : Int32} (h : ms M 10 j x = M1) : va_up (Em ad cI cZ M) 10 (.inl (cI, 52, .inl (upd (M.1 10) j x))) = Em ad cI cZ M1 := by
  subst h
  exact Em_set (by decide) _ rfl
theorem at_X5_11 {ad : Nat → Nat} {cI cZ : ClassId} {M : Mem} : Em ad cI cZ M 11 = .inl (cZ, 2, .inl (M.1 11)) := rfl
theorem pa_X5_11 {ad : Nat → Nat} {cI cZ : ClassId} {M M1 : Mem} {j : Nat} {x : Int32} (h : ms M 11 j x = M1) : va_up (Em ad cI cZ M) 11 (.inl (cZ, 2, .inl (upd (M.1 11) j x))) = Em ad cI cZ M1 := by
  subst h
  exact Em_set (by decide) _ rfl
theorem at_X5_12 {ad : Nat → Nat} {cI cZ : ClassId} {M : Mem} : Em ad cI cZ M 12 = .inl (cI, 6, .inl (M.1 12)) := rfl
theorem pa_X5_12 {ad : Nat → Nat} {cI cZ : ClassId} {M M1 : Mem} {j : Nat} {x : Int32} (h : ms M 12 j x = M1) : va_up (Em ad cI cZ M) 12 (.inl (cI, 6, .inl (upd (M.1 12) j x))) = Em ad cI cZ M1 := by
  subst h
  exact Em_set (by decide) _ rfl
theorem at_X5_13 {ad : Nat → Nat} {cI cZ : ClassId} {M : Mem} : Em ad cI cZ M 13 = .inl (cI, 6, .inl (M.1 13)) := rfl
theorem pa_X5_13 {ad : Nat → Nat} {cI cZ : ClassId} {M M1 : Mem} {j : Nat} {x : Int32} (h : ms M 13 j x = M1) : va_up (Em ad cI cZ M) 13 (.inl (cI, 6, .inl (upd (M.1 13) j x))) = Em ad cI cZ M1 := by
  subst h
  exact Em_set (by decide) _ rfl
theorem pt_X5_0 {ad : Nat → Nat} {cI cZ : ClassId} {M M1 : Mem} {x : Int32} (h : ms M 0 0 x = M1) : va_up (Em ad cI cZ M) 0 (.inr (5, (fsX5 ad M.2 (M.1 0)).set 0 (.int x))) = Em ad cI cZ M1 := by
  subst h
  exact Em_set0 _ _ rfl
theorem pt_X5_1 {ad : Nat → Nat} {cI cZ : ClassId} {M M1 : Mem} {x : Int64} (h : ml M x = M1) : va_up (Em ad cI cZ M) 0 (.inr (5, (fsX5 ad M.2 (M.1 0)).set 1 (.long x))) = Em ad cI cZ M1 := by
  subst h
  refine (Em_set0 (M.1 0) x rfl).trans ?_
  rw [mem_same]
  rfl
theorem pt_X5_3 {ad : Nat → Nat} {cI cZ : ClassId} {M M1 : Mem} {x : Int32} (h : ms M 0 3 x = M1) : va_up (Em ad cI cZ M) 0 (.inr (5, (fsX5 ad M.2 (M.1 0)).set 3 (.int x))) = Em ad cI cZ M1 := by
  subst h
  exact Em_set0 _ _ rfl
theorem pt_X5_4 {ad : Nat → Nat} {cI cZ : ClassId} {M M1 : Mem} {x : Int32} (h : ms M 0 4 x = M1) : va_up (Em ad cI cZ M) 0 (.inr (5, (fsX5 ad M.2 (M.1 0)).set 4 (.int x))) = Em ad cI cZ M1 := by
  subst h
  exact Em_set0 _ _ rfl
theorem pt_X5_5 {ad : Nat → Nat} {cI cZ : ClassId} {M M1 : Mem} {x : Int32} (h : ms M 0 5 x = M1) : va_up (Em ad cI cZ M) 0 (.inr (5, (fsX5 ad M.2 (M.1 0)).set 5 (.int x))) = Em ad cI cZ M1 := by
  subst h
  exact Em_set0 _ _ rfl
theorem pt_X5_6 {ad : Nat → Nat} {cI cZ : ClassId} {M M1 : Mem} {x : Int32} (h : ms M 0 6 x = M1) : va_up (Em ad cI cZ M) 0 (.inr (5, (fsX5 ad M.2 (M.1 0)).set 6 (.int x))) = Em ad cI cZ M1 := by
  subst h
  exact Em_set0 _ _ rfl
theorem pt_X5_7 {ad : Nat → Nat} {cI cZ : ClassId} {M M1 : Mem} {x : Int32} (h : ms M 0 7 x = M1) : va_up (Em ad cI cZ M) 0 (.inr (5, (fsX5 ad M.2 (M.1 0)).set 7 (.int x))) = Em ad cI cZ M1 := by
  subst h
  exact Em_set0 _ _ rfl
theorem pt_X5_8 {ad : Nat → Nat} {cI cZ : ClassId} {M M1 : Mem} {x : Int32} (h : ms M 0 8 x = M1) : va_up (Em ad cI cZ M) 0 (.inr (5, (fsX5 ad M.2 (M.1 0)).set 8 (.int x))) = Em ad cI cZ M1 := by
  subst h
  exact Em_set0 _ _ rfl
theorem pt_X5_13 {ad : Nat → Nat} {cI cZ : ClassId} {M M1 : Mem} {x : Int32} (h : ms M 0 13 x = M1) : va_up (Em ad cI cZ M) 0 (.inr (5, (fsX5 ad M.2 (M.1 0)).set 13 (.int x))) = Em ad cI cZ M1 := by
  subst h
  exact Em_set0 _ _ rfl
theorem pt_X5_14 {ad : Nat → Nat} {cI cZ : ClassId} {M M1 : Mem} {x : Int32} (h : ms M 0 14 x = M1) : va_up (Em ad cI cZ M) 0 (.inr (5, (fsX5 ad M.2 (M.1 0)).set 14 (.int x))) = Em ad cI cZ M1 := by
  subst h
  exact Em_set0 _ _ rfl
theorem pt_X5_15 {ad : Nat → Nat} {cI cZ : ClassId} {M M1 : Mem} {x : Int32} (h : ms M 0 15 x = M1) : va_up (Em ad cI cZ M) 0 (.inr (5, (fsX5 ad M.2 (M.1 0)).set 15 (.int x))) = Em ad cI cZ M1 := by
  subst h
  exact Em_set0 _ _ rfl
theorem pt_X5_16 {ad : Nat → Nat} {cI cZ : ClassId} {M M1 : Mem} {x : Int32} (h : ms M 0 16 x = M1) : va_up (Em ad cI cZ M) 0 (.inr (5, (fsX5 ad M.2 (M.1 0)).set 16 (.int x))) = Em ad cI cZ M1 := by
  subst h
  exact Em_set0 _ _ rfl
theorem pt_X5_17 {ad : Nat → Nat} {cI cZ : ClassId} {M M1 : Mem} {x : Int32} (h : ms M 0 17 x = M1) : va_up (Em ad cI cZ M) 0 (.inr (5, (fsX5 ad M.2 (M.1 0)).set 17 (.int x))) = Em ad cI cZ M1 := by
  subst h
  exact Em_set0 _ _ rfl
theorem pt_X5_18 {ad : Nat → Nat} {cI cZ : ClassId} {M M1 : Mem} {x : Int32} (h : ms M 0 18 x = M1) : va_up (Em ad cI cZ M) 0 (.inr (5, (fsX5 ad M.2 (M.1 0)).set 18 (.int x))) = Em ad cI cZ M1 := by
  subst h
  exact Em_set0 _ _ rfl
theorem pt_X5_25 {ad : Nat → Nat} {cI cZ : ClassId} {M M1 : Mem} {x : Int32} (h : ms M 0 25 x = M1) : va_up (Em ad cI cZ M) 0 (.inr (5, (fsX5 ad M.2 (M.1 0)).set 25 (.int x))) = Em ad cI cZ M1 := by
  subst h
  exact Em_set0 _ _ rfl
theorem pt_X5_26 {ad : Nat → Nat} {cI cZ : ClassId} {M M1 : Mem} {x : Int32} (h : ms M 0 26 x = M1) : va_up (Em ad cI cZ M) 0 (.inr (5, (fsX5 ad M.2 (M.1 0)).set 26 (.int x))) = Em ad cI cZ M1 := by
  subst h
  exact Em_set0 _ _ rfl
theorem pt_X5_27 {ad : Nat → Nat} {cI cZ : ClassId} {M M1 : Mem} {x : Int32} (h : ms M 0 27 x = M1) : va_up (Em ad cI cZ M) 0 (.inr (5, (fsX5 ad M.2 (M.1 0)).set 27 (.int x))) = Em ad cI cZ M1 := by
  subst h
  exact Em_set0 _ _ rfl
theorem pt_X5_28 {ad : Nat → Nat} {cI cZ : ClassId} {M M1 : Mem} {x : Int32} (h : ms M 0 28 x = M1) : va_up (Em ad cI cZ M) 0 (.inr (5, (fsX5 ad M.2 (M.1 0)).set 28 (.int x))) = Em ad cI cZ M1 := by
  subst h
  exact Em_set0 _ _ rfl
/-- what holds of the machine all through a method's body -/
def mZ (p : Program) (s : State) (m : MethodId) (args : Array Value) (meth : Method) (c : Code) (cc : ByteArray) (maxL : Nat) (ret : Option FieldType) (ws : List Cond) (own : String) (D : va_G) (tys : List (ClassId × FieldType)) (X : State → Prop) : Prop :=
  p.tables.exec = Jvm.exec ∧ c.code = cc ∧ c.maxLocals = maxL ∧ meth.sig.returnType = ret ∧ meth.locks = false ∧ (∀ w ∈ ws, w.before args s = true) ∧ s.vm.findClass own = some m.cls ∧ va_K D vwCl tys s ∧ X s
/-- the three words: town, road, stop -/
def sB : List (List Int32) := [[116, 111, 119, 110], [114, 111, 97, 100], [115, 116, 111, 112]]
def sN (_ : Nat) : Nat := 4
def sLen (_ : Nat) : Int32 := 4
def sCh (i : Nat) : Nat → Int32 := fun k => (sB.getD i []).getD k 0
def sX (ad aS : Nat → Nat) (U : State) : Prop := vk_S 3 [4, 4, 4] sB aS (fun i => aS (i + 3)) (mA ad 40) U U.heap ∧ (vk_R RX3 99 "town" (aS 0) U ∧ vk_R RX3 105 "road" (aS 1) U ∧ vk_R RX3 107 "stop" (aS 2) U) ∧ va_Z "java/lang/String" "COMPACT_STRINGS" "Z" (.int 1) (mA ad 40) U U.heap ∧ va_Zq "jdk/internal/util/Preconditions" "SIOOBE_FORMATTER" "Ljava/util/function/BiFunction;" (mA ad 40) U U.heap
theorem sX_R0 {ad aS : Nat → Nat} {U : State} (h : sX ad aS U) : vk_R RX3 99 "town" (aS 0) U := h.2.1.1
theorem sX_R1 {ad aS : Nat → Nat} {U : State} (h : sX ad aS U) : vk_R RX3 105 "road" (aS 1) U := h.2.1.2.1
theorem sX_R2 {ad aS : Nat → Nat} {U : State} (h : sX ad aS U) : vk_R RX3 107 "stop" (aS 2) U := h.2.1.2.2
/-- what the class's methods need beside the memory: the private clockFor of a nest mate, the three String constants -/
def cX (D : va_G) (ad aS : Nat → Nat) (X : State → Prop) : Prop := mX ad 40 X ∧ (∀ U : State, X U → va_Nw (.methodLinkNest RX1 107 yX4_clockFor RX4) U) ∧ ∀ U : State, X U → sX ad aS U
section MDIV
variable {p : Program} {l : Launch} {e : Env} {R : Room} {s : State} {m : MethodId} {args : Array Value} {below : List Frame} {meth : Method} {c : Code} {H : Heap} {locs : List Loc} {cells slots : Nat} {Q : State → Prop}
variable {cc : ByteArray} {pc : Nat} {ls : Array Slot} {rest : List Value}
theorem m_idiv (hx : p.tables.exec = Jvm.exec) (hb : c.code = cc) {x y r : Int32} (h : dvi x y = some r) (hdg : decode cc pc = .ok (.idiv, 1)) (k : W p l e R s m args below meth c H locs cells slots Q (F0 m (pc + 1) ls (.int r :: rest))) : W p l e R s m args below meth c H locs cells slots Q (F0 m pc ls (.int y :: .int x :: rest)) := by
  obtain ⟨h1, rfl⟩ := dvi_some h
  exact lv_idiv hx hb hdg h1 k
theorem m_irem (hx : p.tables.exec = Jvm.exec) (hb : c.code = cc) {x y r : Int32} (h : rmi x y = some r) (hdg : decode cc pc = .ok (.irem, 1)) (k : W p l e R s m args below meth c H locs cells slots Q (F0 m (pc + 1) ls (.int r :: rest))) : W p l e R s m args below meth c H locs cells slots Q (F0 m pc ls (.int y :: .int x :: rest)) := by
  obtain ⟨h1, rfl⟩ := rmi_some h
  exact lv_irem hx hb hdg h1 k
end MDIV
def M0c : Mem := (fun q j => if q = 0 ∧ j = 2 then 1 else if q = 25 ∧ j = 3 then -1000000 else 0, 0)
def M0m : Mem := (fun _ _ => 0, 0)
