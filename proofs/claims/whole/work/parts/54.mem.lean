/-! calls that change the text or what was seen -/
def sjL (J J' : Mem) : Prop := (J'.1 0 13 = J.1 0 13 ∧ J'.1 0 14 = J.1 0 14 ∧ J'.1 0 15 = J.1 0 15) ∧ ∀ q, 2 ≤ q → q ≤ 8 → J'.1 q = J.1 q
theorem LC.congr {b : Nat} {L : Lnd} {f f' : Nat → Nat → Int32} (h : LC b L f) (g : ∀ i, i ≤ 10 → f' (b + i) = f (b + i)) : LC b L f' := by
  unfold LC at h ⊢
  have e0 : f' b = f b := g 0 (by omega)
  rw [e0, g 1 (by omega), g 2 (by omega), g 3 (by omega), g 4 (by omega), g 5 (by omega), g 6 (by omega), g 7 (by omega), g 8 (by omega)]
  exact h
theorem LCm.congr {b : Nat} {L : Lnd} {f f' : Nat → Nat → Int32} (h : LCm b L f) (g : ∀ i, i ≤ 10 → f' (b + i) = f (b + i)) : LCm b L f' := by
  unfold LCm at h ⊢
  have e0 : f' b = f b := g 0 (by omega)
  rw [e0, g 9 (by omega), g 10 (by omega)]
  exact h
theorem lp_le (x : Int32) : 3 ≤ lp x ∧ lp x + 10 ≤ 24 := by
  rcases lp_ok x with h | h <;> rw [h] <;> decide
theorem inv_frame {L : Lnd} {M J M' J' : Mem} (h : InvL L M J) (g0 : M'.1 0 = M.1 0) (gl : ∀ q, 3 ≤ q → q ≤ 24 → M'.1 q = M.1 q) (j : sjL J J') (tx : TX M'.1 J'.1) (s : SEq (lT L) 28 9 0 M'.1 J'.1) (i0 : IM (lT L) 32 0 0 M'.1 J'.1) (i1 : IM (lT L) 36 26 1 M'.1 J'.1) (tr : M'.2 = J'.2) : InvL L M' J' := by
  obtain ⟨h1, h2, ⟨h3, h4⟩, ⟨h5, h6⟩, -⟩ := h
  have ht : tl M'.1 = tl M.1 := by unfold tl; rw [g0]
  have hb := lp_le (M.1 0 1)
  have hg : ∀ i, i ≤ 10 → M'.1 (lp (M.1 0 1) + i) = M.1 (lp (M.1 0 1) + i) := fun i hi => gl _ (by omega) (by omega)
  refine ⟨h1, ?_, ⟨?_, ?_⟩, ⟨?_, ?_⟩, tx, s, i0, i1, tr⟩
  · unfold PT at h2 ⊢; rw [g0]; exact h2
  · rw [ht]; exact h3.congr hg
  · rw [ht]; exact h4.congr hg
  · obtain ⟨⟨j1, j2, j3⟩, j4⟩ := j
    unfold LR at h5 ⊢
    rw [j1, j2, j3, j4 2 (by omega) (by omega), j4 3 (by omega) (by omega), j4 4 (by omega) (by omega), j4 5 (by omega) (by omega), j4 7 (by omega) (by omega), j4 8 (by omega) (by omega)]
    exact h5
  · unfold LRm at h6 ⊢
    rw [j.2 6 (by omega) (by omega)]
    exact h6
theorem TX.congr {f g f' g' : Nat → Nat → Int32} (h : TX f g) (h1 : f' 1 1 = f 1 1) (h2 : f' 2 = f 2) (h3 : g' 0 3 = g 0 3) (h4 : g' 1 = g 1) : TX f' g' := by
  unfold TX at h ⊢
  rw [h1, h2, h3, h4]
  exact h
theorem sjL.refl (J : Mem) : sjL J J := ⟨⟨rfl, rfl, rfl⟩, fun _ _ _ => rfl⟩
theorem sjL.trans {J J1 J2 : Mem} (h : sjL J J1) (g : sjL J1 J2) : sjL J J2 := ⟨⟨g.1.1.trans h.1.1, g.1.2.1.trans h.1.2.1, g.1.2.2.trans h.1.2.2⟩, fun q a b => (g.2 q a b).trans (h.2 q a b)⟩
theorem sjL.row {J : Mem} (q j : Nat) (x : Int32) (h : q = 1 ∨ 9 ≤ q) : sjL J (ms J q j x) := ⟨⟨ms_ne (Or.inl (by omega)), ms_ne (Or.inl (by omega)), ms_ne (Or.inl (by omega))⟩, fun q' a b => ms_row (by omega)⟩
theorem sjL.int {J : Mem} (j : Nat) (x : Int32) (h : j ≠ 13 ∧ j ≠ 14 ∧ j ≠ 15) : sjL J (ms J 0 j x) := ⟨⟨ms_ne (Or.inr (by omega)), ms_ne (Or.inr (by omega)), ms_ne (Or.inr (by omega))⟩, fun q' a b => ms_row (by omega)⟩
theorem pu_clear {M J : Mem} (hI : Inv M J) : ∃ (r : Int32) (M1 J1 : Mem), fX4_clear M = some (r, M1) ∧ fX5_clear J = some (r, J1) ∧ Inv M1 J1 := by
  obtain ⟨L, hI⟩ := hI
  have hJ := inv_th hI
  unfold fX4_clear fX5_clear
  rw [bnd, bnd]
  generalize ms J 0 0 0 = J1 at hJ ⊢
  have hK := hJ
  obtain ⟨hL, h2, h3, h4, ⟨n, hn, t1, t2, t3⟩, h7, h8, h9, h10⟩ := hJ
  refine ⟨nI n, ms M 1 1 0, ms J1 0 3 0, by rw [t1], by rw [bnd, t2], L, ?_⟩
  refine inv_frame hK (ms_row (by omega)) (fun q a b => ms_row (by omega)) (sjL.int _ _ (by omega)) ⟨0, by omega, by rw [ms_eq]; rfl, by rw [ms_eq]; rfl, fun i hi => absurd hi (Nat.not_lt_zero i)⟩ (h7.congr (fun i hi => ms_row (by omega)) (ms_row (by omega))) (h8.congr (fun i hi => ms_row (by omega)) (ms_row (by omega)) (ms_row (by omega))) (h9.congr (fun i hi => ms_row (by omega)) (ms_row (by omega)) (ms_row (by omega))) h10
theorem pu_forget {M J : Mem} (hI : Inv M J) : ∃ (r : Int32) (M1 J1 : Mem), fX4_forget M = some (r, M1) ∧ fX5_forget J = some (r, J1) ∧ Inv M1 J1 := by
  obtain ⟨L, hI⟩ := hI
  have hJ := inv_th hI
  unfold fX4_forget fX5_forget
  rw [bnd, bnd]
  generalize ms J 0 0 0 = J1 at hJ ⊢
  have hK := hJ
  obtain ⟨hL, h2, h3, h4, h6, ⟨now, cnt, s1, s2, s3, s4, s5, s6, s7⟩, h8, h9, h10⟩ := hJ
  refine ⟨nI cnt, ms M 28 1 0, ms J1 9 1 0, by rw [s5], by rw [ld_1 (by omega) (by omega), bnd, sta_1 (by omega) (by omega), bnd, s6], L, ?_⟩
  refine inv_frame hK (ms_row (by omega)) (fun q a b => ms_row (by omega)) (sjL.row _ _ _ (by omega)) (h6.congr (ms_ne (by omega)) (ms_row (by omega)) (ms_ne (by omega)) (ms_row (by omega))) ⟨now, 0, s1, by omega, by rw [ms_ne (by omega)]; exact s3, by rw [ms_ne (by omega)]; exact s4, by rw [ms_eq]; rfl, by rw [ms_eq]; rfl, fun i hi => absurd hi (Nat.not_lt_zero i)⟩ (h8.congr (fun i hi => ms_row (by omega)) (ms_row (by omega)) (ms_row (by omega))) (h9.congr (fun i hi => ms_row (by omega)) (ms_row (by omega)) (ms_row (by omega))) h10
theorem pu_go (a1 : Int32) {M J : Mem} (hI : Inv M J) : ∃ (r : Int32) (M1 J1 : Mem), fX4_go a1 M = some (r, M1) ∧ fX5_go a1 J = some (r, J1) ∧ Inv M1 J1 := by
  obtain ⟨L, hI⟩ := hI
  have hJ := inv_th hI
  unfold fX4_go fX5_go
  rw [bnd]
  generalize ms J 0 0 0 = J1 at hJ ⊢
  have hK := hJ
  obtain ⟨hL, h2, h3, h4, h6, ⟨now, cnt, s1, s2, s3, s4, s5, s6, s7⟩, h8, h9, h10⟩ := hJ
  have hk : Inv M J1 := ⟨L, hK⟩
  by_cases c1 : a1 < 1
  · refine ⟨-1, M, J1, ?_, ?_, hk⟩
    · simp only [c1, ↓reduceIte]
    · simp only [fX5_in_no (lo := 1) (hi := 999) (Or.inl c1), bnd, ↓reduceIte]
  by_cases c2 : a1 ≤ 999
  · have cY := fX5_in_yes (lo := 1) (hi := 999) c1 (nlt_of_le c2)
    obtain ⟨k, hk1, rfl⟩ : ∃ k, k ≤ 999 ∧ a1 = nI k := by
      rcases ixs a1 1000 (by omega) with ⟨j, hj, e⟩ | h | h
      · exact ⟨j, by omega, e⟩
      · exact absurd (Int32.lt_trans h (by decide)) c1
      · exact absurd (Int32.le_trans h c2) (by decide)
    have l0 : ld (J1.1 9) 26 0 = some (nI now) := by rw [ld_0 (by omega) (by omega), s4]
    by_cases c3 : now = 999
    · subst c3
      have c4 : ¬ nI 999 < 999 := by decide
      refine ⟨-2, M, J1, ?_, ?_, hk⟩
      · simp only [c1, c2, s3, c4, ↓reduceIte]
      · have c5 : nI 999 = 999 := rfl
        simp only [cY, bnd, n10, l0, c5, ↓reduceIte]
    · have c4 : nI now < 999 := nI_lt (b := 999) (by omega) (by omega)
      have c5 : ¬ nI now = 999 := fun z => c3 (nIe (b := 999) z (by omega) (by omega))
      have key : ∀ v : Nat, v ≤ 999 → InvL L (ms M 28 0 (nI v)) (ms J1 9 0 (nI v)) := fun v hv => by
        refine inv_frame hK (ms_row (by omega)) (fun q a b => ms_row (by omega)) (sjL.row _ _ _ (by omega)) (h6.congr (ms_ne (by omega)) (ms_row (by omega)) (ms_ne (by omega)) (ms_row (by omega))) ⟨v, cnt, hv, s2, by rw [ms_eq], by rw [ms_eq], by rw [ms_ne (by omega)]; exact s5, by rw [ms_ne (by omega)]; exact s6, fun i hi => ?_⟩ (h8.congr (fun i hi => ms_row (by omega)) (ms_row (by omega)) (ms_row (by omega))) (h9.congr (fun i hi => ms_row (by omega)) (ms_row (by omega)) (ms_row (by omega))) h10
        obtain ⟨t, c, h, a1, a2, a3, a4, a5, a6, a7, a8, a9⟩ := s7 i hi
        exact ⟨t, c, h, a1, a2, a3, by rw [ms_ne (by omega)]; exact a4, by rw [ms_ne (by omega)]; exact a5, by rw [ms_ne (by omega)]; exact a6, by rw [ms_ne (by omega)]; exact a7, by rw [ms_ne (by omega)]; exact a8, by rw [ms_ne (by omega)]; exact a9⟩
      by_cases c6 : 999 < now + k
      · have c7 : (999 : Int32) < nI (now + k) := nI_lt (a := 999) c6 (by omega)
        have c8 : ¬ nI (now + k) ≤ 999 := nI_ge (a := 999) c6 (by omega)
        refine ⟨999, _, _, ?_, ?_, L, key 999 (by omega)⟩
        · simp only [c1, c2, s3, c4, nI_add, c7, bnd, ms_eq, ↓reduceIte]
          rfl
        · simp only [cY, bnd, n10, s4, c5, fX5_lesser, nI_add, c8, sta_0 (show 0 < 26 by omega) (by omega), ld_0 (show 0 < 26 by omega) (by omega), ms_eq, ↓reduceIte]
          rfl
      · have c7 : ¬ (999 : Int32) < nI (now + k) := nI_nlt (a := 999) (by omega) (by omega)
        have c8 : nI (now + k) ≤ 999 := nI_le (b := 999) (by omega) (by omega)
        refine ⟨nI (now + k), _, _, ?_, ?_, L, key (now + k) (by omega)⟩
        · simp only [c1, c2, s3, c4, nI_add, c7, bnd, ms_eq, ↓reduceIte]
        · simp only [cY, bnd, n10, s4, c5, fX5_lesser, nI_add, c8, sta_0 (show 0 < 26 by omega) (by omega), ld_0 (show 0 < 26 by omega) (by omega), ms_eq, ↓reduceIte]
  · refine ⟨-1, M, J1, ?_, ?_, hk⟩
    · simp only [c1, c2, ↓reduceIte]
    · simp only [fX5_in_no (lo := 1) (hi := 999) (Or.inr (lt_of_nle c2)), bnd, ↓reduceIte]
theorem pu_saw (a1 : Int32) (a2 : Int32) (a3 : Int32) {M J : Mem} (hI : Inv M J) : ∃ (r : Int32) (M1 J1 : Mem), fX4_saw a1 a2 a3 M = some (r, M1) ∧ fX5_saw a1 a2 a3 J = some (r, J1) ∧ Inv M1 J1 := by
  obtain ⟨L, hI⟩ := hI
  have hJ := inv_th hI
  unfold fX4_saw fX5_saw
  rw [bnd]
  generalize ms J 0 0 0 = J1 at hJ ⊢
  have hK := hJ
  have hk : Inv M J1 := ⟨L, hK⟩
  obtain ⟨hL, h2, ⟨hC, hCm⟩, ⟨hR, hRm⟩, h6, ⟨now, cnt, s1, s2, s3, s4, s5, s6, s7⟩, h8, h9, h10⟩ := hJ
  have hT := hL.1
  have e24 : fX5_in a2 0 23 = some (if bad 24 a2 then (0 : Int32) else 1) := r_in2 24 23 rfl (by omega) a2
  by_cases q : bad (lT L) a1
  · refine ⟨-1, M, J1, ?_, ?_, hk⟩ <;> simp only [c_isTown hC.1, r_isTown hL hR.1, q, bnd, ↓reduceIte]
  by_cases q2 : bad 24 a2
  · refine ⟨-1, M, J1, ?_, ?_, hk⟩
    · by_cases z : a2 < 0
      · simp only [c_isTown hC.1, q, bnd, n10, z, ↓reduceIte]
      · have z2 : (24 : Int32) ≤ a2 := q2.resolve_left z
        simp only [c_isTown hC.1, q, bnd, n10, z, z2, ↓reduceIte]
    · simp only [r_isTown hL hR.1, q, e24, q2, bnd, n10, ↓reduceIte]
  have z1 : ¬ a2 < 0 := fun z => q2 (Or.inl z)
  have z2 : ¬ (24 : Int32) ≤ a2 := fun z => q2 (Or.inr z)
  by_cases q3 : bad 1000 a3
  · refine ⟨-1, M, J1, ?_, ?_, hk⟩
    · simp only [c_isTown hC.1, q, bnd, n10, z1, z2, c_isHour, q3, ↓reduceIte]
    · simp only [r_isTown hL hR.1, q, e24, q2, bnd, n10, r_isHour, q3, ↓reduceIte]
  obtain ⟨t, ht, rfl⟩ := nbad (by omega) q
  obtain ⟨c, hc, rfl⟩ := nbad (by omega) q2
  obtain ⟨h, hh, rfl⟩ := nbad (by omega) q3
  by_cases q4 : cnt = 8
  · subst q4
    have c4 : ¬ nI 8 < 8 := by decide
    have c5 : nI 8 = 8 := rfl
    refine ⟨-3, M, J1, ?_, ?_, hk⟩
    · simp only [c_isTown hC.1, q, bnd, n10, z1, z2, c_isHour, q3, s5, c4, ↓reduceIte]
    · simp only [r_isTown hL hR.1, q, e24, q2, bnd, n10, r_isHour, q3, ld_1 (show 1 < 26 by omega) (by omega), s6, c5, ↓reduceIte]
  have hc8 : cnt < 8 := by omega
  have c4 : nI cnt < 8 := nI_lt (b := 8) hc8 (by omega)
  have c5 : ¬ nI cnt = 8 := fun z => q4 (nIe (b := 8) z (by omega) (by omega))
  refine ⟨nI (cnt + 1), ms (ms (ms (ms M 29 cnt (nI t)) 30 cnt (nI c)) 31 cnt (nI h)) 28 1 (nI (cnt + 1)), ms (ms (ms (ms J1 9 (2 + 3 * cnt) (nI t)) 9 (2 + 3 * cnt + 1) (nI c)) 9 (2 + 3 * cnt + 2) (nI h)) 9 1 (nI (cnt + 1)), ?_, ?_, L, ?_⟩
  · have a0 : ∀ x : Mem, (x.1 28 1 = nI cnt) → fX2_add 28 (nI t) (nI c) (nI h) x = some (ms (ms (ms (ms x 29 cnt (nI t)) 30 cnt (nI c)) 31 cnt (nI h)) 28 1 (nI (cnt + 1))) := by
      intro x hx
      unfold fX2_add
      rw [hx, if_pos c4, sta_at hc8 (by omega), bnd, ms_ne (by omega), hx, sta_at hc8 (by omega), bnd, ms_ne (by omega), ms_ne (by omega), hx, sta_at hc8 (by omega), bnd, ms_ne (by omega), ms_ne (by omega), ms_ne (by omega), hx, bnd, nI_1]
    simp only [c_isTown hC.1, q, bnd, n10, z1, z2, c_isHour, q3, s5, c4, a0 M s5, ms_eq, ↓reduceIte]
  · simp only [r_isTown hL hR.1, q, e24, q2, bnd, n10, r_isHour, q3, ld_1 (show 1 < 26 by omega) (by omega), s6, c5, i2, i3, pk_mul, nI_add, nI_1, ↓reduceIte]
    rw [sta_at (by omega) (by omega), bnd, sta_at (by omega) (by omega), bnd, sta_at (by omega) (by omega), bnd, ms_ne (by omega), ms_ne (by omega), ms_ne (by omega), s6, sta_1 (by omega) (by omega), bnd, ms_eq, nI_1]
  · refine inv_frame hK ?_ (fun q a b => ?_) ?_ (h6.congr ?_ ?_ ?_ ?_) ⟨now, cnt + 1, s1, by omega, ?_, ?_, by rw [ms_eq], by rw [ms_eq], fun k hk => ?_⟩ (h8.congr (fun i hi => ?_) ?_ ?_) (h9.congr (fun i hi => ?_) ?_ ?_) h10
    · rw [ms_row (by omega), ms_row (by omega), ms_row (by omega), ms_row (by omega)]
    · rw [ms_row (by omega), ms_row (by omega), ms_row (by omega), ms_row (by omega)]
    · exact (((sjL.row _ _ _ (by omega)).trans (sjL.row _ _ _ (by omega))).trans (sjL.row _ _ _ (by omega))).trans (sjL.row _ _ _ (by omega))
    · rw [ms_ne (by omega), ms_ne (by omega), ms_ne (by omega), ms_ne (by omega)]
    · rw [ms_row (by omega), ms_row (by omega), ms_row (by omega), ms_row (by omega)]
    · rw [ms_ne (by omega), ms_ne (by omega), ms_ne (by omega), ms_ne (by omega)]
    · rw [ms_row (by omega), ms_row (by omega), ms_row (by omega), ms_row (by omega)]
    · rw [ms_ne (by omega), ms_ne (by omega), ms_ne (by omega), ms_ne (by omega)]; exact s3
    · rw [ms_ne (by omega), ms_ne (by omega), ms_ne (by omega), ms_ne (by omega)]; exact s4
    · simp only [Nat.zero_add]
      by_cases e : k = cnt
      · subst e
        refine ⟨t, c, h, ht, hc, by omega, ?_, ?_, ?_, ?_, ?_, ?_⟩
        · rw [ms_ne (by omega), ms_ne (by omega), ms_ne (by omega), ms_eq]
        · rw [ms_ne (by omega), ms_ne (by omega), ms_eq]
        · rw [ms_ne (by omega), ms_eq]
        · rw [ms_ne (by omega), ms_ne (by omega), ms_ne (by omega), ms_eq]
        · rw [ms_ne (by omega), ms_ne (by omega), ms_eq]
        · rw [ms_ne (by omega), ms_eq]
      · obtain ⟨t', c', h', a1, a2, a3, a4, a5, a6, a7, a8, a9⟩ := s7 k (by omega)
        simp only [Nat.zero_add] at a7 a8 a9
        refine ⟨t', c', h', a1, a2, a3, ?_, ?_, ?_, ?_, ?_, ?_⟩ <;> rw [ms_ne (by omega), ms_ne (by omega), ms_ne (by omega), ms_ne (by omega)] <;> assumption
    · rw [ms_row (by omega), ms_row (by omega), ms_row (by omega), ms_row (by omega)]
    · rw [ms_row (by omega), ms_row (by omega), ms_row (by omega), ms_row (by omega)]
    · rw [ms_row (by omega), ms_row (by omega), ms_row (by omega), ms_row (by omega)]
    · rw [ms_row (by omega), ms_row (by omega), ms_row (by omega), ms_row (by omega)]
    · rw [ms_row (by omega), ms_row (by omega), ms_row (by omega), ms_row (by omega)]
    · rw [ms_row (by omega), ms_row (by omega), ms_row (by omega), ms_row (by omega)]
/-! images: the class's copy -/
theorem isM_ne {b c : Nat} (hb : isM b) (hc : isM c) (h : b ≠ c) : ∀ i j, i ≤ 3 → j ≤ 3 → b + i ≠ c + j := by
  rcases hb with rfl | rfl | rfl <;> rcases hc with rfl | rfl | rfl <;> intro i j hi hj <;> omega
/-- M' is M with the first n of what c saw put at b (and as many) -/
def cpy (b c n : Nat) (M M' : Mem) : Prop :=
  (∀ q, (∀ i, i ≤ 3 → q ≠ b + i) → M'.1 q = M.1 q) ∧ M'.2 = M.2 ∧ M'.1 b 5 = M.1 b 5 ∧ M'.1 b 0 = M.1 c 0 ∧ M'.1 b 1 = nI n ∧
  ∀ k, k < n → M'.1 (b + 1) k = M.1 (c + 1) k ∧ M'.1 (b + 2) k = M.1 (c + 2) k ∧ M'.1 (b + 3) k = M.1 (c + 3) k
theorem c_copy_lp {b c : Nat} (hb : isM b) (hc : isM c) (hbc : b ≠ c) {M0 : Mem} {cnt : Nat} (hcn : cnt ≤ 8) (h1 : M0.1 c 1 = nI cnt) (K : Mem → Option Mem) : ∀ (n k : Nat) (M : Mem), k ≤ cnt → cnt < k + n → cpy b c k M0 M → ∃ M' : Mem, cpy b c cnt M0 M' ∧ fX2_copy_15 b c K n (nI k) M = K M'
  | 0, k, M, h2, h3, _ => by omega
  | n + 1, k, M, h2, h3, hM => by
    obtain ⟨g1, g2, g3, g4, g5, g6⟩ := hM
    have hne := isM_ne hb hc hbc
    have hrow : ∀ j, j ≤ 3 → M.1 (c + j) = M0.1 (c + j) := fun j hj => g1 _ (fun i hi e => hne i j hi hj e.symm)
    have hc0 : M.1 c = M0.1 c := hrow 0 (by omega)
    unfold fX2_copy_15
    rw [hc0, h1]
    by_cases h : k = cnt
    · rw [if_pos (by rw [h]; exact Int32.le_refl _)]
      subst h
      exact ⟨M, ⟨g1, g2, g3, g4, g5, g6⟩, rfl⟩
    · have hk : k < cnt := by omega
      rw [if_neg (nI_ge hk (by omega)), ld_at (by omega) (by omega), bnd, ld_at (by omega) (by omega), bnd, ld_at (by omega) (by omega), bnd, hrow 1 (by omega), hrow 2 (by omega), hrow 3 (by omega)]
      have a0 : ∀ x y z : Int32, fX2_add b x y z M = some (ms (ms (ms (ms M (b + 1) k x) (b + 2) k y) (b + 3) k z) b 1 (nI (k + 1))) := by
        intro x y z
        unfold fX2_add
        rw [g5, if_pos (show nI k < 8 from nI_lt (b := 8) (by omega) (by omega)), sta_at (by omega) (by omega), bnd, ms_ne (by omega), g5, sta_at (by omega) (by omega), bnd, ms_ne (by omega), ms_ne (by omega), g5, sta_at (by omega) (by omega), bnd, ms_ne (by omega), ms_ne (by omega), ms_ne (by omega), g5, bnd, nI_1]
      rw [a0, bnd, nI_1]
      refine c_copy_lp hb hc hbc hcn h1 K n (k + 1) _ (by omega) (by omega) ⟨fun q hq => ?_, g2, ?_, ?_, ms_eq _ _ _ _, fun j hj => ?_⟩
      · have q0 := hq 0 (by omega)
        have q1 := hq 1 (by omega)
        have q2 := hq 2 (by omega)
        have q3 := hq 3 (by omega)
        rw [ms_row (by omega), ms_row (by omega), ms_row (by omega), ms_row (by omega)]
        exact g1 q hq
      · rw [ms_ne (by omega), ms_ne (by omega), ms_ne (by omega), ms_ne (by omega)]; exact g3
      · rw [ms_ne (by omega), ms_ne (by omega), ms_ne (by omega), ms_ne (by omega)]; exact g4
      · by_cases e : j = k
        · subst e
          refine ⟨?_, ?_, ?_⟩
          · rw [ms_ne (by omega), ms_ne (by omega), ms_ne (by omega), ms_eq]
          · rw [ms_ne (by omega), ms_ne (by omega), ms_eq]
          · rw [ms_ne (by omega), ms_eq]
        · obtain ⟨a1, a2, a3⟩ := g6 j (by omega)
          refine ⟨?_, ?_, ?_⟩ <;> rw [ms_ne (by omega), ms_ne (by omega), ms_ne (by omega), ms_ne (by omega)] <;> assumption
theorem c_copy {b c : Nat} (hb : isM b) (hc : isM c) (hbc : b ≠ c) {M : Mem} {cnt : Nat} (hcn : cnt ≤ 8) (h1 : M.1 c 1 = nI cnt) : ∃ M' : Mem, cpy b c cnt M M' ∧ fX2_copy b c M = some M' := by
  have hne := isM_ne hb hc hbc
  unfold fX2_copy
  rw [bnd, bnd]
  have hM : cpy b c 0 M (ms (ms M b 0 (M.1 c 0)) b 1 0) := by
    refine ⟨fun q hq => ?_, rfl, ?_, ?_, ?_, fun k hk => absurd hk (Nat.not_lt_zero k)⟩
    · have q0 := hq 0 (by omega)
      rw [ms_row (by omega), ms_row (by omega)]
    · rw [ms_ne (by omega), ms_ne (by omega)]
    · rw [ms_ne (by omega), ms_eq]
    · rw [ms_eq]; rfl
  have h2 : (M.1 c 1) = nI cnt := h1
  exact c_copy_lp hb hc hbc hcn h1 (fun M3 => some M3) mF 0 _ (Nat.zero_le _) (fuel (by omega)) hM
/-! the reference's rows of 26 -/
def rowc (q o q' o' n : Nat) (J J' : Mem) : Prop :=
  (∀ z, z ≠ q → J'.1 z = J.1 z) ∧ J'.2 = J.2 ∧ ∀ j, J'.1 q j = if o ≤ j ∧ j < o + n then J.1 q' (o' + (j - o)) else J.1 q j
theorem r_keep_lp {J0 : Mem} {u : Nat} (hu : u < 2) (K : Mem → Option (Int32 × Mem)) : ∀ (n k : Nat) (J : Mem), k ≤ 26 → 26 < k + n → rowc 10 (26 * u) 9 0 k J0 J → ∃ J' : Mem, rowc 10 (26 * u) 9 0 26 J0 J' ∧ fX5_keep_18 (nI u) K n (nI k) J = K J'
  | 0, k, J, h2, h3, _ => by omega
  | n + 1, k, J, h2, h3, hJ => by
    obtain ⟨g1, g2, g3⟩ := hJ
    unfold fX5_keep_18
    by_cases h : k = 26
    · subst h
      exact ⟨J, ⟨g1, g2, g3⟩, if_pos (show (26 : Int32) ≤ nI 26 by decide)⟩
    · have hk : k < 26 := by omega
      rw [if_neg (show ¬ (26 : Int32) ≤ nI k from nI_ge (b := 26) hk (by omega)), ld_at hk (by omega), bnd, show (26 : Int32) = nI 26 from rfl, pk_mul, nI_add, sta_at (by omega) (by omega), bnd, nI_1, g1 9 (by omega)]
      refine r_keep_lp hu K n (k + 1) _ (by omega) (by omega) ⟨fun z hz => ?_, g2, fun j => ?_⟩
      · rw [ms_row hz]; exact g1 z hz
      · rw [ms_g]
        by_cases e : j = 26 * u + k
        · subst e
          rw [if_pos ⟨rfl, rfl⟩, if_pos (by omega), Nat.zero_add, Nat.add_sub_cancel_left]
        · rw [if_neg (by omega), g3 j]
          by_cases e2 : 26 * u ≤ j ∧ j < 26 * u + k
          · rw [if_pos e2, if_pos (by omega)]
          · rw [if_neg e2, if_neg (by omega)]
theorem r_back_lp {J0 : Mem} {u : Nat} (hu : u < 2) (K : Mem → Option (Int32 × Mem)) : ∀ (n k : Nat) (J : Mem), k ≤ 26 → 26 < k + n → rowc 9 0 10 (26 * u) k J0 J → ∃ J' : Mem, rowc 9 0 10 (26 * u) 26 J0 J' ∧ fX5_back_30 (nI u) K n (nI k) J = K J'
  | 0, k, J, h2, h3, _ => by omega
  | n + 1, k, J, h2, h3, hJ => by
    obtain ⟨g1, g2, g3⟩ := hJ
    unfold fX5_back_30
    by_cases h : k = 26
    · subst h
      exact ⟨J, ⟨g1, g2, g3⟩, if_pos (show (26 : Int32) ≤ nI 26 by decide)⟩
    · have hk : k < 26 := by omega
      rw [if_neg (show ¬ (26 : Int32) ≤ nI k from nI_ge (b := 26) hk (by omega)), show (26 : Int32) = nI 26 from rfl, pk_mul, nI_add, ld_at (by omega) (by omega), bnd, sta_at (by omega) (by omega), bnd, nI_1, g1 10 (by omega)]
      refine r_back_lp hu K n (k + 1) _ (by omega) (by omega) ⟨fun z hz => ?_, g2, fun j => ?_⟩
      · rw [ms_row hz]; exact g1 z hz
      · rw [ms_g]
        by_cases e : j = k
        · subst e
          rw [if_pos ⟨rfl, rfl⟩, if_pos (by omega), Nat.sub_zero]
        · rw [if_neg (by omega), g3 j]
          by_cases e2 : 0 ≤ j ∧ j < 0 + k
          · rw [if_pos e2, if_pos (by omega)]
          · rw [if_neg e2, if_neg (by omega)]
/-- what was seen, carried over -/
theorem SEq.cpy {T p q o p' q' o' : Nat} {M M' J J' : Mem} {cnt : Nat} (h : SEq T p q o M.1 J.1) (hc : M.1 p 1 = nI cnt) (hcn : cnt ≤ 8) (hM : cpy p' p cnt M M') (hJ : ∀ j, j < 26 → J'.1 q' (o' + j) = J.1 q (o + j)) : SEq T p' q' o' M'.1 J'.1 := by
  obtain ⟨now, c2, h1, h2, h3, h4, h5, h6, h7⟩ := h
  have e : c2 = cnt := nIe (h5.symm.trans hc) (by omega) (by omega)
  subst e
  obtain ⟨-, -, -, g4, g5, g6⟩ := hM
  refine ⟨now, c2, h1, h2, g4.trans h3, ?_, g5, ?_, fun k hk => ?_⟩
  · have := hJ 0 (by omega); rw [Nat.add_zero, Nat.add_zero] at this; rw [this]; exact h4
  · rw [hJ 1 (by omega)]; exact h6
  · obtain ⟨t, c, h, a1, a2, a3, a4, a5, a6, a7, a8, a9⟩ := h7 k hk
    obtain ⟨b1, b2, b3⟩ := g6 k hk
    refine ⟨t, c, h, a1, a2, a3, b1.trans a4, b2.trans a5, b3.trans a6, ?_, ?_, ?_⟩
    · have := hJ (2 + 3 * k) (by omega); rw [← Nat.add_assoc, ← Nat.add_assoc] at this; rw [this]; exact a7
    · have := hJ (2 + 3 * k + 1) (by omega); rw [← Nat.add_assoc, ← Nat.add_assoc, ← Nat.add_assoc, ← Nat.add_assoc] at this; rw [this]; exact a8
    · have := hJ (2 + 3 * k + 2) (by omega); rw [← Nat.add_assoc, ← Nat.add_assoc, ← Nat.add_assoc, ← Nat.add_assoc] at this; rw [this]; exact a9
theorem SEq.congr2 {T p q o : Nat} {f g f' g' : Nat → Nat → Int32} (hf : ∀ i, i ≤ 3 → f' (p + i) = f (p + i)) (hg : ∀ j, j < 26 → g' q (o + j) = g q (o + j)) (h : SEq T p q o f g) : SEq T p q o f' g' := by
  obtain ⟨now, cnt, h1, h2, h3, h4, h5, h6, h7⟩ := h
  have e0 : f' p = f p := hf 0 (by omega)
  refine ⟨now, cnt, h1, h2, by rw [e0]; exact h3, by have := hg 0 (by omega); rw [Nat.add_zero] at this; rw [this]; exact h4, by rw [e0]; exact h5, by rw [hg 1 (by omega)]; exact h6, fun k hk => ?_⟩
  obtain ⟨t, c, hh, a1, a2, a3, a4, a5, a6, a7, a8, a9⟩ := h7 k hk
  refine ⟨t, c, hh, a1, a2, a3, by rw [hf 1 (by omega)]; exact a4, by rw [hf 2 (by omega)]; exact a5, by rw [hf 3 (by omega)]; exact a6, ?_, ?_, ?_⟩
  · have := hg (2 + 3 * k) (by omega); rw [← Nat.add_assoc] at this; rw [this]; exact a7
  · have := hg (2 + 3 * k + 1) (by omega); rw [← Nat.add_assoc, ← Nat.add_assoc] at this; rw [this]; exact a8
  · have := hg (2 + 3 * k + 2) (by omega); rw [← Nat.add_assoc, ← Nat.add_assoc] at this; rw [this]; exact a9
theorem IM.congr2 {T p o i : Nat} {f g f' g' : Nat → Nat → Int32} (hf : ∀ i, i ≤ 3 → f' (p + i) = f (p + i)) (hg : ∀ j, j < 26 → g' 10 (o + j) = g 10 (o + j)) (hg2 : g' 11 i = g 11 i) (h : IM T p o i f g) : IM T p o i f' g' := by
  have e0 : f' p = f p := hf 0 (by omega)
  rcases h with ⟨h1, h2⟩ | ⟨h1, h2, h3⟩
  · exact Or.inl ⟨by rw [e0]; exact h1, by rw [hg2]; exact h2⟩
  · exact Or.inr ⟨by rw [e0]; exact h1, by rw [hg2]; exact h2, h3.congr2 hf hg⟩
theorem rowc_sjL {q o q' o' n : Nat} {J J' : Mem} (h : rowc q o q' o' n J J') (hq : 9 ≤ q) : sjL J J' := by
  obtain ⟨h1, h2, h3⟩ := h
  refine ⟨⟨?_, ?_, ?_⟩, fun z a b => h1 z (by omega)⟩ <;> rw [h1 0 (by omega)]
theorem isImage0 : fX4_isImage 0 = some 1 := by decide
theorem isImage1 : fX4_isImage 1 = some 1 := by decide
theorem isImageN {a : Int32} (h : bad 2 a) : fX4_isImage a = some 0 := by
  unfold fX4_isImage
  rw [if_neg (show ¬ a = 0 from bne h 0 (by omega) (by omega)), if_neg (show ¬ a = 1 from bne h 1 (by omega) (by omega))]
theorem imageOf0 (M : Mem) : fX4_imageOf 0 M = some 32 := by unfold fX4_imageOf; rw [if_pos rfl]
theorem imageOf1 (M : Mem) : fX4_imageOf 1 M = some 36 := by unfold fX4_imageOf; rw [if_neg (by decide)]
theorem keep_gen {L : Lnd} {M J : Mem} (h : InvL L M J) {p u : Nat} (hp : (p = 32 ∧ u = 0) ∨ (p = 36 ∧ u = 1)) : ∃ (r : Int32) (M1 M2 J1 : Mem), fX2_copy p 28 M = some M1 ∧ M2 = ms M1 p 5 1 ∧ M2.1 28 0 = r ∧ fX5_keep_18 (nI u) (fun M4 => (Option.bind (sta M4 11 2 (nI u) (1 : Int32)) fun M5 => (Option.bind (ld (M5.1 9) 26 (0 : Int32)) fun x6 => some (x6, M5)))) mF 0 J = some (r, J1) ∧ InvL L M2 J1 := by
  have hK := h
  obtain ⟨hL, h2, hC, hR, h6, hs, h8, h9, h10⟩ := h
  have hs0 := hs
  obtain ⟨now, cnt, s1, s2, s3, s4, s5, s6, s7⟩ := hs
  have hu : u < 2 := by omega
  have hb : isM p := by rcases hp with ⟨rfl, -⟩ | ⟨rfl, -⟩; exact isM_32; exact isM_36
  have hne := isM_ne hb isM_28 (by omega)
  obtain ⟨M1, hM1, e1⟩ := c_copy hb isM_28 (by omega) s2 s5
  obtain ⟨J2, hJ2, e2⟩ := r_keep_lp (J0 := J) hu (fun M4 => (Option.bind (sta M4 11 2 (nI u) (1 : Int32)) fun M5 => (Option.bind (ld (M5.1 9) 26 (0 : Int32)) fun x6 => some (x6, M5)))) mF 0 J (Nat.zero_le _) (fuel (by omega)) ⟨fun _ _ => rfl, rfl, fun j => by rw [if_neg (by omega)]⟩
  have g1 := hM1.1
  have hrow : ∀ q, (∀ i, i ≤ 3 → q ≠ p + i) → (ms M1 p 5 1).1 q = M.1 q := fun q hq => by
    have := hq 0 (by omega)
    rw [ms_row (by omega)]; exact g1 q hq
  have j1 := hJ2.1
  refine ⟨nI now, M1, _, ms J2 11 u 1, e1, rfl, ?_, ?_, ?_⟩
  · rw [hrow 28 (fun i hi => fun e => by omega)]; exact s3
  · refine e2.trans ?_
    rw [sta_at hu (by omega), bnd, ld_0 (by omega) (by omega), ms_ne (by omega), j1 9 (by omega), s4, bnd]
  · have hj : ∀ z, z ≠ 10 → z ≠ 11 → (ms J2 11 u 1).1 z = J.1 z := fun z a b => by rw [ms_row b]; exact j1 z a
    have h11 : ∀ i, i ≠ u → (ms J2 11 u 1).1 11 i = J.1 11 i := fun i hi => by rw [ms_ne (Or.inr hi), j1 11 (by omega)]
    have h10r : ∀ j, (ms J2 11 u 1).1 10 j = if 26 * u ≤ j ∧ j < 26 * u + 26 then J.1 9 (0 + (j - 26 * u)) else J.1 10 j := fun j => by rw [ms_ne (by omega)]; exact hJ2.2.2 j
    have him : IM (lT L) p (26 * u) u (ms M1 p 5 1).1 (ms J2 11 u 1).1 := by
      refine Or.inr ⟨ms_eq _ _ _ _, ms_eq _ _ _ _, ?_⟩
      have := SEq.cpy (M' := M1) (J := J) (J' := ms J2 11 u 1) (q' := 10) (o' := 26 * u) hs0 s5 s2 hM1 (fun j hj => by
        rw [h10r, if_pos (by omega), Nat.zero_add, Nat.zero_add, Nat.add_sub_cancel_left])
      obtain ⟨n1, c1, b1, b2, b3, b4, b5, b6, b7⟩ := this
      refine ⟨n1, c1, b1, b2, by rw [ms_ne (by omega)]; exact b3, b4, by rw [ms_ne (by omega)]; exact b5, b6, fun k hk => ?_⟩
      obtain ⟨t, c, hh, a1, a2, a3, a4, a5, a6, a7⟩ := b7 k hk
      exact ⟨t, c, hh, a1, a2, a3, by rw [ms_ne (by omega)]; exact a4, by rw [ms_ne (by omega)]; exact a5, by rw [ms_ne (by omega)]; exact a6, a7⟩
    refine inv_frame hK (hrow 0 (by omega)) (fun q a b => hrow q (by omega)) ((rowc_sjL hJ2 (by omega)).trans (sjL.row _ _ _ (by omega))) (h6.congr (by rw [hrow 1 (by omega)]) (hrow 2 (by omega)) (by rw [hj 0 (by omega) (by omega)]) (hj 1 (by omega) (by omega))) (hs0.congr (fun i hi => hrow _ (by omega)) (hj 9 (by omega) (by omega))) ?_ ?_ ?_
    · rcases hp with ⟨rfl, rfl⟩ | ⟨rfl, rfl⟩
      · exact him
      · exact h8.congr2 (fun i hi => hrow _ (by omega)) (fun j hj => by rw [h10r, if_neg (by omega)]) (h11 0 (by omega))
    · rcases hp with ⟨rfl, rfl⟩ | ⟨rfl, rfl⟩
      · exact h9.congr2 (fun i hi => hrow _ (by omega)) (fun j hj => by rw [h10r, if_neg (by omega)]) (h11 1 (by omega))
      · exact him
    · show M1.2 = J2.2
      rw [hM1.2.1, hJ2.2.1]; exact h10
theorem pu_keep (a1 : Int32) {M J : Mem} (hI : Inv M J) : ∃ (r : Int32) (M1 J1 : Mem), fX4_keep a1 M = some (r, M1) ∧ fX5_keep a1 J = some (r, J1) ∧ Inv M1 J1 := by
  obtain ⟨L, hI⟩ := hI
  have hJ := inv_th hI
  unfold fX4_keep fX5_keep
  rw [bnd]
  generalize ms J 0 0 0 = J1 at hJ ⊢
  have e7 : fX5_in a1 0 1 = some (if bad 2 a1 then (0 : Int32) else 1) := r_in2 2 1 rfl (by omega) a1
  by_cases q : bad 2 a1
  · refine ⟨-1, M, J1, ?_, ?_, L, hJ⟩ <;> simp only [isImageN q, e7, q, bnd, ↓reduceIte]
  rcases nb2 q with rfl | rfl
  · obtain ⟨r, M1, M2, J2, x1, x2, x3, x4, x5⟩ := keep_gen hJ (Or.inl ⟨rfl, rfl⟩)
    refine ⟨r, M2, J2, ?_, ?_, L, x5⟩
    · simp only [isImage0, imageOf0, bnd, n10, x1, ← x2, x3, ↓reduceIte]
    · simp only [e7, q, bnd, n10, ↓reduceIte]; exact x4
  · obtain ⟨r, M1, M2, J2, x1, x2, x3, x4, x5⟩ := keep_gen hJ (Or.inr ⟨rfl, rfl⟩)
    refine ⟨r, M2, J2, ?_, ?_, L, x5⟩
    · simp only [isImage1, imageOf1, bnd, n10, x1, ← x2, x3, ↓reduceIte]
    · simp only [e7, q, bnd, n10, ↓reduceIte]; exact x4
theorem back_gen {L : Lnd} {M J : Mem} (h : InvL L M J) {p u : Nat} (hp : (p = 32 ∧ u = 0) ∨ (p = 36 ∧ u = 1)) (him : SEq (lT L) p 10 (26 * u) M.1 J.1) : ∃ (r : Int32) (M1 J1 : Mem), fX2_copy 28 p M = some M1 ∧ M1.1 28 0 = r ∧ fX5_back_30 (nI u) (fun M6 => (Option.bind (ld (M6.1 9) 26 (0 : Int32)) fun x7 => some (x7, M6))) mF 0 J = some (r, J1) ∧ InvL L M1 J1 := by
  have hK := h
  obtain ⟨hL, h2, hC, hR, h6, hs, h8, h9, h10⟩ := h
  have him0 := him
  obtain ⟨now, cnt, s1, s2, s3, s4, s5, s6, s7⟩ := him
  have hu : u < 2 := by omega
  have hb : isM p := by rcases hp with ⟨rfl, -⟩ | ⟨rfl, -⟩; exact isM_32; exact isM_36
  obtain ⟨M1, hM1, e1⟩ := c_copy isM_28 hb (by omega) s2 s5
  obtain ⟨J2, hJ2, e2⟩ := r_back_lp (J0 := J) hu (fun M6 => (Option.bind (ld (M6.1 9) 26 (0 : Int32)) fun x7 => some (x7, M6))) mF 0 J (Nat.zero_le _) (fuel (by omega)) ⟨fun _ _ => rfl, rfl, fun j => by rw [if_neg (by omega)]⟩
  have hrow : ∀ q, (∀ i, i ≤ 3 → q ≠ 28 + i) → M1.1 q = M.1 q := hM1.1
  have j1 := hJ2.1
  have j9 : ∀ j, j < 26 → J2.1 9 (0 + j) = J.1 10 (26 * u + j) := fun j hj => by rw [hJ2.2.2, if_pos (by omega), Nat.zero_add, Nat.sub_zero]
  refine ⟨nI now, M1, J2, e1, hM1.2.2.2.1.trans s3, ?_, ?_⟩
  · refine e2.trans ?_
    have := j9 0 (by omega)
    rw [Nat.zero_add, Nat.add_zero] at this
    rw [ld_0 (by omega) (by omega), this, s4, bnd]
  · refine inv_frame hK (hrow 0 (by omega)) (fun q a b => hrow q (by omega)) (rowc_sjL hJ2 (by omega)) (h6.congr (by rw [hrow 1 (by omega)]) (hrow 2 (by omega)) (by rw [j1 0 (by omega)]) (j1 1 (by omega))) (SEq.cpy him0 s5 s2 hM1 j9) (h8.congr (fun i hi => hrow _ (by omega)) (j1 10 (by omega)) (j1 11 (by omega))) (h9.congr (fun i hi => hrow _ (by omega)) (j1 10 (by omega)) (j1 11 (by omega))) (by rw [hM1.2.1, hJ2.2.1]; exact h10)
theorem pu_back (a1 : Int32) {M J : Mem} (hI : Inv M J) : ∃ (r : Int32) (M1 J1 : Mem), fX4_back a1 M = some (r, M1) ∧ fX5_back a1 J = some (r, J1) ∧ Inv M1 J1 := by
  obtain ⟨L, hI⟩ := hI
  have hJ := inv_th hI
  unfold fX4_back fX5_back
  rw [bnd]
  generalize ms J 0 0 0 = J1 at hJ ⊢
  have e7 : fX5_in a1 0 1 = some (if bad 2 a1 then (0 : Int32) else 1) := r_in2 2 1 rfl (by omega) a1
  have hJ0 := hJ
  obtain ⟨-, -, -, -, -, -, h8, h9, -⟩ := hJ0
  by_cases q : bad 2 a1
  · refine ⟨-1, M, J1, ?_, ?_, L, hJ⟩ <;> simp only [isImageN q, e7, q, bnd, ↓reduceIte]
  rcases nb2 q with rfl | rfl
  · rcases h8 with ⟨b1, b2⟩ | ⟨b1, b2, b3⟩
    · refine ⟨-2, M, J1, ?_, ?_, L, hJ⟩
      · simp only [isImage0, imageOf0, bnd, n10, b1, ↓reduceIte]
      · simp only [e7, q, bnd, n10, ld_0 (show 0 < 2 by omega) (by omega), b2, ↓reduceIte]
    · obtain ⟨r, M1, J2, x1, x3, x4, x5⟩ := back_gen hJ (Or.inl ⟨rfl, rfl⟩) b3
      refine ⟨r, M1, J2, ?_, ?_, L, x5⟩
      · simp only [isImage0, imageOf0, bnd, n10, b1, x1, x3, ↓reduceIte]
      · simp only [e7, q, bnd, n10, ld_0 (show 0 < 2 by omega) (by omega), b2, ↓reduceIte]; exact x4
  · rcases h9 with ⟨b1, b2⟩ | ⟨b1, b2, b3⟩
    · refine ⟨-2, M, J1, ?_, ?_, L, hJ⟩
      · simp only [isImage1, imageOf1, bnd, n10, b1, ↓reduceIte]
      · simp only [e7, q, bnd, n10, ld_1 (show 1 < 2 by omega) (by omega), b2, ↓reduceIte]
    · obtain ⟨r, M1, J2, x1, x3, x4, x5⟩ := back_gen hJ (Or.inr ⟨rfl, rfl⟩) b3
      refine ⟨r, M1, J2, ?_, ?_, L, x5⟩
      · simp only [isImage1, imageOf1, bnd, n10, b1, x1, x3, ↓reduceIte]
      · simp only [e7, q, bnd, n10, ld_1 (show 1 < 2 by omega) (by omega), b2, ↓reduceIte]; exact x4
