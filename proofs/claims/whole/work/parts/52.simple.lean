/-! the plain calls -/
theorem bnd {α β : Type} (x : α) (f : α → Option β) : Option.bind (some x) f = f x := rfl
abbrev bad (n : Nat) (a : Int32) : Prop := a < 0 ∨ nI n ≤ a
theorem nbad {n : Nat} {a : Int32} (hn : n < 2 ^ 31) (h : ¬ bad n a) : ∃ j : Nat, j < n ∧ a = nI j := (ixs a n hn).resolve_right h
theorem nbad_j {n j : Nat} (hn : n < 2 ^ 31) (h : j < n) : ¬ bad n (nI j) := by
  rintro (h1 | h1)
  · exact nI_pos (by omega) h1
  · exact nI_ge h hn h1
theorem c_in (n : Nat) (a : Int32) : (if a < 0 then some (0 : Int32) else (if nI n ≤ a then some (0 : Int32) else some (1 : Int32))) = some (if bad n a then (0 : Int32) else 1) := by
  by_cases h1 : a < 0
  · rw [if_pos h1, if_pos (Or.inl h1)]
  · rw [if_neg h1]
    by_cases h2 : nI n ≤ a
    · rw [if_pos h2, if_pos (Or.inr h2)]
    · rw [if_neg h2, if_neg (by rintro (q | q) <;> contradiction)]
theorem r_in (n : Nat) (hn : n < 2 ^ 30) (a : Int32) : fX5_in a 0 (nI n - 1) = some (if bad n a then (0 : Int32) else 1) := by
  by_cases h : bad n a
  · rw [if_pos h]
    rcases h with h | h
    · exact fX5_in_no (Or.inl h)
    · exact fX5_in_no (Or.inr (pred_lt hn h))
  · rw [if_neg h]
    obtain ⟨j, hj, rfl⟩ := nbad (by omega) h
    exact fX5_in_yes (nI_pos (by omega)) (pred_ge hn hj)
theorem r_in2 (n m : Nat) (hm : m + 1 = n) (hn : n < 2 ^ 30) (a : Int32) : fX5_in a 0 (nI m) = some (if bad n a then (0 : Int32) else 1) := by
  have := r_in n hn a
  rw [← hm, show (1 : Int32) = nI 1 from rfl, pk_sub (by omega), Nat.add_sub_cancel] at this
  rw [← hm]
  exact this
theorem r_isTown {L : Lnd} (hL : Lok L) {J : Mem} (h : J.1 0 13 = nI (lT L)) (a : Int32) : fX5_isTown a J = some (if bad (lT L) a then (0 : Int32) else 1) := by
  unfold fX5_isTown
  rw [h, r_in _ (by have := hL.1; omega)]
  by_cases q : bad (lT L) a
  · rw [if_pos q]; rfl
  · rw [if_neg q]; rfl
theorem c_isTown {L : Lnd} {M : Mem} {b : Nat} (h : M.1 b 0 = nI (lT L)) (a : Int32) : fX1_isTown b a M = some (if bad (lT L) a then (0 : Int32) else 1) := by
  unfold fX1_isTown; rw [h]; exact c_in _ a
theorem c_isRoad {L : Lnd} {M : Mem} {b : Nat} (h : M.1 b 2 = nI (lR L)) (a : Int32) : fX1_isRoad b a M = some (if bad (lR L) a then (0 : Int32) else 1) := by
  unfold fX1_isRoad; rw [h]; exact c_in _ a
theorem c_isStop {L : Lnd} {M : Mem} {b : Nat} (h : M.1 b 6 = nI (lS L)) (a : Int32) : fX1_isStop b a M = some (if bad (lS L) a then (0 : Int32) else 1) := by
  unfold fX1_isStop; rw [h]; exact c_in _ a
theorem hr_iff (a : Int32) : bad 1000 a ↔ (a < 0 ∨ 999 < a) := by
  constructor
  · rintro (h | h)
    · exact Or.inl h
    · exact Or.inr (pred_lt (n := 1000) (by omega) h)
  · rintro (h | h)
    · exact Or.inl h
    · refine Or.inr (le_of_nlt fun q => ?_)
      rcases ixs a 1000 (by omega) with ⟨j, hj, rfl⟩ | h2 | h2
      · exact nI_nlt (a := 999) (b := j) (by omega) (by omega) h
      · exact absurd (Int32.lt_trans h h2) (by decide)
      · exact nlt_of_le h2 q
theorem c_isHour (a : Int32) : fX4_isHour a = some (if bad 1000 a then (0 : Int32) else 1) := by
  unfold fX4_isHour
  by_cases h1 : a < 0
  · rw [if_pos h1, if_pos (Or.inl h1)]
  · rw [if_neg h1]
    by_cases h2 : 999 < a
    · rw [if_pos h2, if_pos ((hr_iff a).mpr (Or.inr h2))]
    · rw [if_neg h2, if_neg (fun q => ((hr_iff a).mp q).elim h1 h2)]
theorem r_isHour (a : Int32) : fX5_isHour a = some (if bad 1000 a then (0 : Int32) else 1) := by
  unfold fX5_isHour
  rw [show (999 : Int32) = nI 999 from rfl, r_in2 1000 999 rfl (by omega)]
  by_cases q : bad 1000 a
  · rw [if_pos q]; rfl
  · rw [if_neg q]; rfl
/-- the reference's scratch: nothing of its state -/
def sJ (J J' : Mem) : Prop := (∀ q, 1 ≤ q → q ≤ 11 → J'.1 q = J.1 q) ∧ (J'.1 0 3 = J.1 0 3 ∧ J'.1 0 13 = J.1 0 13 ∧ J'.1 0 14 = J.1 0 14 ∧ J'.1 0 15 = J.1 0 15) ∧ J'.2 = J.2
theorem sJ.refl (J : Mem) : sJ J J := ⟨fun _ _ _ => rfl, ⟨rfl, rfl, rfl, rfl⟩, rfl⟩
theorem sJ.trans {J J1 J2 : Mem} (h : sJ J J1) (g : sJ J1 J2) : sJ J J2 := ⟨fun q a b => (g.1 q a b).trans (h.1 q a b), ⟨g.2.1.1.trans h.2.1.1, g.2.1.2.1.trans h.2.1.2.1, g.2.1.2.2.1.trans h.2.1.2.2.1, g.2.1.2.2.2.trans h.2.1.2.2.2⟩, g.2.2.trans h.2.2⟩
theorem ms_row {M : Mem} {q j : Nat} {x : Int32} {q' : Nat} (h : q' ≠ q) : (ms M q j x).1 q' = M.1 q' := by
  funext j'; exact ms_ne (Or.inl h)
theorem sJ.put {J : Mem} (j : Nat) (x : Int32) (h : j ≠ 3 ∧ j ≠ 13 ∧ j ≠ 14 ∧ j ≠ 15) : sJ J (ms J 0 j x) :=
  ⟨fun q a _ => ms_row (by omega), ⟨ms_ne (Or.inr (by omega)), ms_ne (Or.inr (by omega)), ms_ne (Or.inr (by omega)), ms_ne (Or.inr (by omega))⟩, rfl⟩
theorem sJ.arr {J : Mem} (q j : Nat) (x : Int32) (h : 12 ≤ q) : sJ J (ms J q j x) :=
  ⟨fun q' a b => ms_row (by omega), ⟨ms_ne (Or.inl (by omega)), ms_ne (Or.inl (by omega)), ms_ne (Or.inl (by omega)), ms_ne (Or.inl (by omega))⟩, rfl⟩
theorem SEq.congr {T p q o : Nat} {f g f' g' : Nat → Nat → Int32} (hf : ∀ i, i ≤ 3 → f' (p + i) = f (p + i)) (hg : g' q = g q) (h : SEq T p q o f g) : SEq T p q o f' g' := by
  obtain ⟨now, cnt, h1, h2, h3, h4, h5, h6, h7⟩ := h
  have e0 : f' p = f p := hf 0 (by omega)
  refine ⟨now, cnt, h1, h2, by rw [e0]; exact h3, by rw [hg]; exact h4, by rw [e0]; exact h5, by rw [hg]; exact h6, fun k hk => ?_⟩
  obtain ⟨t, c, hh, a1, a2, a3, a4, a5, a6, a7, a8, a9⟩ := h7 k hk
  exact ⟨t, c, hh, a1, a2, a3, by rw [hf 1 (by omega)]; exact a4, by rw [hf 2 (by omega)]; exact a5, by rw [hf 3 (by omega)]; exact a6, by rw [hg]; exact a7, by rw [hg]; exact a8, by rw [hg]; exact a9⟩
theorem IM.congr {T p o i : Nat} {f g f' g' : Nat → Nat → Int32} (hf : ∀ i, i ≤ 3 → f' (p + i) = f (p + i)) (hg : g' 10 = g 10) (hg2 : g' 11 = g 11) (h : IM T p o i f g) : IM T p o i f' g' := by
  have e0 : f' p = f p := hf 0 (by omega)
  rcases h with ⟨h1, h2⟩ | ⟨h1, h2, h3⟩
  · exact Or.inl ⟨by rw [e0]; exact h1, by rw [hg2]; exact h2⟩
  · exact Or.inr ⟨by rw [e0]; exact h1, by rw [hg2]; exact h2, h3.congr hf hg⟩
theorem inv_sJ {L : Lnd} {M J J' : Mem} (h : InvL L M J) (g : sJ J J') : InvL L M J' := by
  obtain ⟨h1, h2, h3, ⟨h4, h5⟩, h6, h7, h8, h9, h10⟩ := h
  obtain ⟨g1, ⟨g2, g3, g4, g5⟩, g6⟩ := g
  refine ⟨h1, h2, h3, ⟨?_, ?_⟩, ?_, h7.congr (fun _ _ => rfl) (g1 9 (by omega) (by omega)), h8.congr (fun _ _ => rfl) (g1 10 (by omega) (by omega)) (g1 11 (by omega) (by omega)), h9.congr (fun _ _ => rfl) (g1 10 (by omega) (by omega)) (g1 11 (by omega) (by omega)), by rw [g6]; exact h10⟩
  · unfold LR at h4 ⊢
    rw [g3, g4, g5, g1 2 (by omega) (by omega), g1 3 (by omega) (by omega), g1 4 (by omega) (by omega), g1 5 (by omega) (by omega), g1 7 (by omega) (by omega), g1 8 (by omega) (by omega)]
    exact h4
  · unfold LRm at h5 ⊢
    rw [g1 6 (by omega) (by omega)]
    exact h5
  · unfold TX at h6 ⊢
    rw [g2, g1 1 (by omega) (by omega)]
    exact h6
theorem inv_th {L : Lnd} {M J : Mem} (h : InvL L M J) : InvL L M (ms J 0 0 0) := inv_sJ h (sJ.put 0 0 (by omega))
theorem bad_lt {n : Nat} {j : Nat} {a : Int32} (e : a = nI j) (h : j < n) (hn : n < 2 ^ 31) : ¬ bad n a := by rw [e]; exact nbad_j hn h
theorem ld_0 {f : Nat → Int32} {n : Nat} (h : 0 < n) (hn : n < 2 ^ 31) : ld f n 0 = some (f 0) := ld_at (k := 0) h hn
theorem ld_1 {f : Nat → Int32} {n : Nat} (h : 1 < n) (hn : n < 2 ^ 31) : ld f n 1 = some (f 1) := ld_at (k := 1) h hn
theorem sta_0 {M : Mem} {q n : Nat} {x : Int32} (h : 0 < n) (hn : n < 2 ^ 31) : sta M q n 0 x = some (ms M q 0 x) := sta_at (k := 0) h hn
theorem sta_1 {M : Mem} {q n : Nat} {x : Int32} (h : 1 < n) (hn : n < 2 ^ 31) : sta M q n 1 x = some (ms M q 1 x) := sta_at (k := 1) h hn
theorem pu_count (a1 : Int32) {M J : Mem} (hI : Inv M J) : ∃ (r : Int32) (J1 : Mem), fX4_count a1 M = some r ∧ fX5_count a1 J = some (r, J1) ∧ Inv M J1 := by
  obtain ⟨L, hI⟩ := hI
  have hk : Inv M (ms J 0 0 0) := ⟨L, inv_th hI⟩
  have hJ := inv_th hI
  unfold fX4_count fX5_count
  rw [bnd]
  generalize ms J 0 0 0 = J1 at hk hJ ⊢
  obtain ⟨h1, h2, ⟨h3, -⟩, ⟨h4, -⟩, ⟨n, hn, t1, t2, -⟩, ⟨now, cnt, s1, s2, s3, s4, s5, s6, -⟩, h8, h9, h10⟩ := hJ
  rw [h3.1, h3.2.1, h3.2.2.1, s5, s3, t1, h4.1, h4.2.1, h4.2.2.1, t2, ld_1 (by omega) (by omega), ld_0 (by omega) (by omega), bnd, bnd, s6, s4]
  by_cases e0 : a1 = 0
  · exact ⟨_, J1, if_pos e0, if_pos e0, hk⟩
  rw [if_neg e0, if_neg e0]
  by_cases e1 : a1 = 1
  · exact ⟨_, J1, if_pos e1, if_pos e1, hk⟩
  rw [if_neg e1, if_neg e1]
  by_cases e2 : a1 = 2
  · exact ⟨_, J1, if_pos e2, if_pos e2, hk⟩
  rw [if_neg e2, if_neg e2]
  by_cases e3 : a1 = 3
  · exact ⟨_, J1, if_pos e3, if_pos e3, hk⟩
  rw [if_neg e3, if_neg e3]
  by_cases e4 : a1 = 4
  · exact ⟨_, J1, if_pos e4, if_pos e4, hk⟩
  rw [if_neg e4, if_neg e4]
  by_cases e5 : a1 = 5
  · exact ⟨_, J1, if_pos e5, if_pos e5, hk⟩
  rw [if_neg e5, if_neg e5]
  exact ⟨_, J1, rfl, rfl, hk⟩
theorem pu_trace {M J : Mem} (hI : Inv M J) : ∃ (r : Int64) (J1 : Mem), fX4_trace M = some r ∧ fX5_trace J = some (r, J1) ∧ Inv M J1 := by
  obtain ⟨L, hI⟩ := hI
  exact ⟨M.2, ms J 0 0 0, rfl, by unfold fX5_trace; rw [bnd, ms_2, hI.2.2.2.2.2.2.2.2], L, inv_th hI⟩
