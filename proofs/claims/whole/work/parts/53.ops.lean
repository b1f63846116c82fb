/-! town, road, stop, far -/
def cntR (L : Lnd) (t : Nat) : Nat → Nat
  | 0 => 0
  | r + 1 => cntR L t r + if L 2 r = t ∨ L 3 r = t then 1 else 0
def cntS (L : Lnd) (t : Nat) : Nat → Nat
  | 0 => 0
  | r + 1 => cntS L t r + if L 5 r = t then 1 else 0
theorem cntR_y {L : Lnd} {t r : Nat} (h : L 2 r = t ∨ L 3 r = t) : cntR L t (r + 1) = cntR L t r + 1 := by show _ + (if _ then _ else _) = _; rw [if_pos h]
theorem cntR_n {L : Lnd} {t r : Nat} (h : ¬ (L 2 r = t ∨ L 3 r = t)) : cntR L t (r + 1) = cntR L t r := by show _ + (if _ then _ else _) = _; rw [if_neg h, Nat.add_zero]
theorem cntS_y {L : Lnd} {t r : Nat} (h : L 5 r = t) : cntS L t (r + 1) = cntS L t r + 1 := by show _ + (if _ then _ else _) = _; rw [if_pos h]
theorem cntS_n {L : Lnd} {t r : Nat} (h : ¬ L 5 r = t) : cntS L t (r + 1) = cntS L t r := by show _ + (if _ then _ else _) = _; rw [if_neg h, Nat.add_zero]
theorem i3 : (3 : Int32) = nI 3 := rfl
theorem i2 : (2 : Int32) = nI 2 := rfl
theorem i1 : (1 : Int32) = nI 1 := rfl
theorem i0 : (0 : Int32) = nI 0 := rfl
theorem nb2 {a : Int32} (h : ¬ bad 2 a) : a = 0 ∨ a = 1 := by
  obtain ⟨j, hj, rfl⟩ := nbad (by omega) h
  rcases (show j = 0 ∨ j = 1 by omega) with rfl | rfl
  · exact Or.inl rfl
  · exact Or.inr rfl
theorem nb3 {a : Int32} (h : ¬ bad 3 a) : a = 0 ∨ a = 1 ∨ a = 2 := by
  obtain ⟨j, hj, rfl⟩ := nbad (by omega) h
  rcases (show j = 0 ∨ j = 1 ∨ j = 2 by omega) with rfl | rfl | rfl
  · exact Or.inl rfl
  · exact Or.inr (Or.inl rfl)
  · exact Or.inr (Or.inr rfl)
theorem nb4 {a : Int32} (h : ¬ bad 4 a) : a = 0 ∨ a = 1 ∨ a = 2 ∨ a = 3 := by
  obtain ⟨j, hj, rfl⟩ := nbad (by omega) h
  rcases (show j = 0 ∨ j = 1 ∨ j = 2 ∨ j = 3 by omega) with rfl | rfl | rfl | rfl
  · exact Or.inl rfl
  · exact Or.inr (Or.inl rfl)
  · exact Or.inr (Or.inr (Or.inl rfl))
  · exact Or.inr (Or.inr (Or.inr rfl))
theorem bne {n : Nat} {a : Int32} (h : bad n a) (j : Nat) (hj : j < n) (hn : n < 2 ^ 31) : ¬ a = nI j := fun z => nbad_j hn hj (by rw [z] at h; exact h)
theorem n20 : ¬ (2 : Int32) = 0 := by decide
theorem n21 : ¬ (2 : Int32) = 1 := by decide
theorem n30 : ¬ (3 : Int32) = 0 := by decide
theorem n31 : ¬ (3 : Int32) = 1 := by decide
theorem n32 : ¬ (3 : Int32) = 2 := by decide
theorem n10 : ¬ (1 : Int32) = 0 := by decide
theorem n91 : ¬ (-9 : Int32) = 0 := by decide
theorem fuel {k : Nat} (h : k < 20000) : k < 0 + mF := by unfold mF; omega
theorem nI_iff {a b : Nat} (ha : a < 2 ^ 31) (hb : b < 2 ^ 31) : nI a = nI b ↔ a = b := nI_eq ha hb
section PURE1
variable {L : Lnd} {M J : Mem} {b : Nat}
theorem lRT (hL : Lok L) {r : Nat} (h : r < lR L) : L 2 r < lT L ∧ L 3 r < lT L ∧ L 2 r ≠ L 3 r ∧ 1 ≤ L 4 r ∧ L 4 r ≤ 30 := hL.2.2.2.2.1 r h
theorem c_roadsOf_lp (hL : Lok L) (hC : LC b L M.1) {t : Nat} (ht : t < 6) (K : Int32 → Option Int32) : ∀ (n r : Nat), r ≤ lR L → lR L < r + n → fX1_roadsOf_4 b (nI t) M K n (nI (cntR L t r)) (nI r) = K (nI (cntR L t (lR L)))
  | 0, r, h1, h2 => by omega
  | n + 1, r, h1, h2 => by
    have hR := hL.2.1
    unfold fX1_roadsOf_4
    rw [hC.2.1]
    by_cases h : r = lR L
    · rw [if_pos (by rw [h]; exact Int32.le_refl _), h]
    · have hr : r < lR L := by omega
      have q := lRT hL hr
      have hT := hL.1
      have hq := hC.2.2.2.2.1 r hr
      have ih := c_roadsOf_lp hL hC ht K n (r + 1) hr (by omega)
      simp only [nI_1]
      rw [if_neg (nI_ge hr (by omega)), ld_at (by omega) (by omega), bnd, hq.1, ld_at (by omega) (by omega), bnd, hq.2.1]
      by_cases e1 : L 2 r = t
      · rw [if_pos (by rw [e1])]
        rw [cntR_y (Or.inl e1)] at ih
        exact ih
      · rw [if_neg (fun z => e1 (nIe z (by omega) (by omega)))]
        by_cases e2 : L 3 r = t
        · rw [if_pos (by rw [e2])]
          rw [cntR_y (Or.inr e2)] at ih
          exact ih
        · rw [if_neg (fun z => e2 (nIe z (by omega) (by omega)))]
          rw [cntR_n (by rintro (z | z) <;> contradiction)] at ih
          exact ih
theorem r_roadsOf_lp (hL : Lok L) (hC : LR L J.1) {t : Nat} (ht : t < 6) (K : Int32 → Option Int32) : ∀ (n r : Nat), r ≤ lR L → lR L < r + n → fX5_roadsOf_4 (nI t) J K n (nI (cntR L t r)) (nI r) = K (nI (cntR L t (lR L)))
  | 0, r, h1, h2 => by omega
  | n + 1, r, h1, h2 => by
    have hR := hL.2.1
    unfold fX5_roadsOf_4
    rw [hC.2.1]
    by_cases h : r = lR L
    · rw [if_pos (by rw [h]; exact Int32.le_refl _), h]
    · have hr : r < lR L := by omega
      have q := lRT hL hr
      have hT := hL.1
      have hq := hC.2.2.2.2.1 r hr
      have ih := r_roadsOf_lp hL hC ht K n (r + 1) hr (by omega)
      simp only [i3, pk_mul, nI_1, Int32.add_zero]
      rw [if_neg (nI_ge hr (by omega)), ld_at (by omega) (by omega), bnd, hq.1, ld_at (by omega) (by omega), bnd, hq.2.1]
      by_cases e1 : L 2 r = t
      · rw [if_pos (by rw [e1])]
        rw [cntR_y (Or.inl e1)] at ih
        exact ih
      · rw [if_neg (fun z => e1 (nIe z (by omega) (by omega)))]
        by_cases e2 : L 3 r = t
        · rw [if_pos (by rw [e2])]
          rw [cntR_y (Or.inr e2)] at ih
          exact ih
        · rw [if_neg (fun z => e2 (nIe z (by omega) (by omega)))]
          rw [cntR_n (by rintro (z | z) <;> contradiction)] at ih
          exact ih
theorem c_roadsOf (hL : Lok L) (hC : LC b L M.1) {t : Nat} (ht : t < 6) : fX1_roadsOf b (nI t) M = some (nI (cntR L t (lR L))) := by
  unfold fX1_roadsOf
  exact c_roadsOf_lp hL hC ht _ mF 0 (Nat.zero_le _) (fuel (by have := hL.2.1; omega))
theorem r_roadsOf (hL : Lok L) (hC : LR L J.1) {t : Nat} (ht : t < 6) : fX5_roadsOf (nI t) J = some (nI (cntR L t (lR L))) := by
  unfold fX5_roadsOf
  exact r_roadsOf_lp hL hC ht _ mF 0 (Nat.zero_le _) (fuel (by have := hL.2.1; omega))
theorem c_stopsOf_lp (hL : Lok L) (hC : LC b L M.1) {t : Nat} (ht : t < 6) (K : Int32 → Option Int32) : ∀ (n r : Nat), r ≤ lS L → lS L < r + n → fX1_stopsOf_4 b (nI t) M K n (nI (cntS L t r)) (nI r) = K (nI (cntS L t (lS L)))
  | 0, r, h1, h2 => by omega
  | n + 1, r, h1, h2 => by
    have hR := hL.2.2.1
    unfold fX1_stopsOf_4
    rw [hC.2.2.1]
    by_cases h : r = lS L
    · rw [if_pos (by rw [h]; exact Int32.le_refl _), h]
    · have hr : r < lS L := by omega
      have q := hL.2.2.2.2.2.1 r hr
      have hT := hL.1
      have hq := hC.2.2.2.2.2.1 r hr
      have ih := c_stopsOf_lp hL hC ht K n (r + 1) hr (by omega)
      simp only [nI_1]
      rw [if_neg (nI_ge hr (by omega)), ld_at (by omega) (by omega), bnd, hq.1]
      by_cases e1 : L 5 r = t
      · rw [if_pos (by rw [e1])]
        rw [cntS_y e1] at ih
        exact ih
      · rw [if_neg (fun z => e1 (nIe z (by omega) (by omega)))]
        rw [cntS_n e1] at ih
        exact ih
theorem r_stopsOf_lp (hL : Lok L) (hC : LR L J.1) {t : Nat} (ht : t < 6) (u2 : Int32) (K : Int32 → Option (Int32 × Mem)) : ∀ (n r : Nat), r ≤ lS L → lS L < r + n → fX5_town_29 (nI t) u2 J K n (nI (cntS L t r)) (nI r) = K (nI (cntS L t (lS L)))
  | 0, r, h1, h2 => by omega
  | n + 1, r, h1, h2 => by
    have hR := hL.2.2.1
    unfold fX5_town_29
    rw [hC.2.2.1]
    by_cases h : r = lS L
    · rw [if_pos (by rw [h]; exact Int32.le_refl _), h]
    · have hr : r < lS L := by omega
      have q := hL.2.2.2.2.2.1 r hr
      have hT := hL.1
      have hq := hC.2.2.2.2.2.1 r hr
      have ih := r_stopsOf_lp hL hC ht u2 K n (r + 1) hr (by omega)
      simp only [nI_1, Int32.add_zero]
      rw [if_neg (nI_ge hr (by omega)), ld_at (by omega) (by omega), bnd, hq.1]
      by_cases e1 : L 5 r = t
      · rw [if_pos (by rw [e1])]
        rw [cntS_y e1] at ih
        exact ih
      · rw [if_neg (fun z => e1 (nIe z (by omega) (by omega)))]
        rw [cntS_n e1] at ih
        exact ih
theorem c_bidOf (hL : Lok L) (hC : LC b L M.1) {t : Nat} (ht : t < lT L) : fX1_bidOf b (nI t) M = some (nI (L 1 t)) := by
  have hT := hL.1
  unfold fX1_bidOf
  rw [c_isTown hC.1, if_neg (nbad_j (by omega) ht), bnd, if_neg (by decide), ld_at (by omega) (by omega), hC.2.2.2.1 t ht, bnd]
theorem c_leaves (hL : Lok L) (hC : LC b L M.1) {k : Nat} (hk : k < lS L) : fX1_leaves b (nI k) M = some (nI (L 7 k + L 6 k)) := by
  have hT := hL.2.2.1
  have hq := hC.2.2.2.2.2.1 k hk
  unfold fX1_leaves
  rw [c_isStop hC.2.2.1, if_neg (nbad_j (by omega) hk), bnd, if_neg (by decide), ld_at (by omega) (by omega), hq.2.2, bnd, ld_at (by omega) (by omega), hq.2.1, bnd, nI_add]
theorem c_distance (hL : Lok L) (hC : LC b L M.1) (hm : LCm b L M.1) {a c : Nat} (ha : a < lT L) (hc : c < lT L) : fX1_distance b (nI a) (nI c) M = some (encC (dist L a c)) := by
  have hT := hL.1
  unfold fX1_distance
  rw [c_isTown hC.1, if_neg (nbad_j (by omega) ha), bnd, if_neg (by decide), c_isTown hC.1, if_neg (nbad_j (by omega) hc), bnd, if_neg (by decide), show (6 : Int32) = nI 6 from rfl, pk_mul, nI_add, ld_at (by omega) (by omega), hm.1 a ha c hc, bnd]
theorem r_farOf (hL : Lok L) (hm : LRm L J.1) {a c : Nat} (ha : a < lT L) (hc : c < lT L) : fX5_farOf (nI a) (nI c) J = some (encC (dist L a c)) := by
  have hT := hL.1
  unfold fX5_farOf
  rw [show (6 : Int32) = nI 6 from rfl, pk_mul, nI_add, ld_at (by omega) (by omega), hm a ha c hc, bnd, bnd]
  cases h : dist L a c with
  | none => rfl
  | some v =>
    have := dist_le hL h
    show (if nI v = _ then _ else some (nI v)) = some (nI v)
    rw [if_neg (nI_mM (by omega))]
end PURE1
/-- a call of the reference begins with thrown = 0 -/
theorem pu_town (a1 : Int32) (a2 : Int32) {M J : Mem} (hI : Inv M J) : ∃ (r : Int32) (J1 : Mem), fX4_town a1 a2 M = some r ∧ fX5_town a1 a2 J = some (r, J1) ∧ Inv M J1 := by
  obtain ⟨L, hI⟩ := hI
  have hk : Inv M (ms J 0 0 0) := ⟨L, inv_th hI⟩
  have hJ := inv_th hI
  unfold fX4_town fX5_town
  rw [bnd]
  generalize ms J 0 0 0 = J1 at hk hJ ⊢
  obtain ⟨hL, h2, ⟨hC, hCm⟩, ⟨hR, hRm⟩, -⟩ := hJ
  have hT := hL.1
  by_cases q : bad (lT L) a1
  · refine ⟨-1, J1, ?_, ?_, hk⟩ <;> simp only [c_isTown hC.1, r_isTown hL hR.1, q, bnd, ↓reduceIte]
  obtain ⟨t, ht, rfl⟩ := nbad (by omega) q
  have hS := hL.2.2.1
  have e1 := c_bidOf hL hC ht
  have e2 := c_roadsOf hL hC (t := t) (by omega)
  have e3 : fX1_stopsOf (lp (M.1 0 1)) (nI t) M = some (nI (cntS L t (lS L))) := by
    unfold fX1_stopsOf
    exact c_stopsOf_lp hL hC (by omega) _ mF 0 (Nat.zero_le _) (fuel (by omega))
  have e4 : ∀ K, fX5_town_29 (nI t) a2 J1 K mF 0 0 = K (nI (cntS L t (lS L))) := fun K => r_stopsOf_lp hL hR (t := t) (by omega) a2 K mF 0 (Nat.zero_le _) (fuel (by omega))
  have e5 := r_roadsOf hL hR (t := t) (by omega)
  have e6 : ld (J1.1 2) 12 (nI t) = some (nI (L 1 t)) := by rw [ld_at (by omega) (by omega), hR.2.2.2.1 t ht]
  have e7 : fX5_in a2 0 2 = some (if bad 3 a2 then (0 : Int32) else 1) := r_in2 3 2 rfl (by omega) a2
  by_cases q2 : bad 3 a2
  · have g0 : ¬ a2 = 0 := bne q2 0 (by omega) (by omega)
    have g1 : ¬ a2 = 1 := bne q2 1 (by omega) (by omega)
    have g2 : ¬ a2 = 2 := bne q2 2 (by omega) (by omega)
    refine ⟨-1, J1, ?_, ?_, hk⟩ <;> simp only [c_isTown hC.1, r_isTown hL hR.1, q, bnd, ↓reduceIte, n10, g0, g1, g2, e7, q2]
  rcases nb3 q2 with rfl | rfl | rfl
  · refine ⟨nI (L 1 t), J1, ?_, ?_, hk⟩ <;> simp only [c_isTown hC.1, r_isTown hL hR.1, q, bnd, ↓reduceIte, n10, e7, q2, e1, e4, e6]
  · refine ⟨nI (cntR L t (lR L)), J1, ?_, ?_, hk⟩ <;> simp only [c_isTown hC.1, r_isTown hL hR.1, q, bnd, ↓reduceIte, n10, e7, q2, e2, e4, e5]
  · refine ⟨nI (cntS L t (lS L)), J1, ?_, ?_, hk⟩ <;> simp only [c_isTown hC.1, r_isTown hL hR.1, q, bnd, ↓reduceIte, n10, n20, n21, e7, q2, e3, e4]
theorem pu_far (a1 : Int32) (a2 : Int32) {M J : Mem} (hI : Inv M J) : ∃ (r : Int32) (J1 : Mem), fX4_far a1 a2 M = some r ∧ fX5_far a1 a2 J = some (r, J1) ∧ Inv M J1 := by
  obtain ⟨L, hI⟩ := hI
  have hk : Inv M (ms J 0 0 0) := ⟨L, inv_th hI⟩
  have hJ := inv_th hI
  unfold fX4_far fX5_far
  rw [bnd]
  generalize ms J 0 0 0 = J1 at hk hJ ⊢
  obtain ⟨hL, h2, ⟨hC, hCm⟩, ⟨hR, hRm⟩, -⟩ := hJ
  have hT := hL.1
  by_cases q : bad (lT L) a1
  · refine ⟨-1, J1, ?_, ?_, hk⟩ <;> simp only [c_isTown hC.1, r_isTown hL hR.1, q, bnd, ↓reduceIte]
  by_cases q2 : bad (lT L) a2
  · refine ⟨-1, J1, ?_, ?_, hk⟩ <;> simp only [c_isTown hC.1, r_isTown hL hR.1, q, q2, bnd, ↓reduceIte, n10]
  obtain ⟨t, ht, rfl⟩ := nbad (by omega) q
  obtain ⟨u, hu, rfl⟩ := nbad (by omega) q2
  refine ⟨encC (dist L t u), J1, ?_, ?_, hk⟩ <;> simp only [c_isTown hC.1, r_isTown hL hR.1, q, q2, bnd, ↓reduceIte, n10, c_distance hL hC hCm ht hu, r_farOf hL hRm ht hu]
theorem pu_road (a1 : Int32) (a2 : Int32) {M J : Mem} (hI : Inv M J) : ∃ (r : Int32) (J1 : Mem), fX4_road a1 a2 M = some r ∧ fX5_road a1 a2 J = some (r, J1) ∧ Inv M J1 := by
  obtain ⟨L, hI⟩ := hI
  have hk : Inv M (ms J 0 0 0) := ⟨L, inv_th hI⟩
  have hJ := inv_th hI
  unfold fX4_road fX5_road
  rw [bnd]
  generalize ms J 0 0 0 = J1 at hk hJ ⊢
  obtain ⟨hL, h2, ⟨hC, hCm⟩, ⟨hR, hRm⟩, -⟩ := hJ
  have hT := hL.2.1
  have e0 : fX5_in a1 0 (J1.1 0 14 - 1) = some (if bad (lR L) a1 then (0 : Int32) else 1) := by rw [hR.2.1]; exact r_in _ (by omega) a1
  by_cases q : bad (lR L) a1
  · refine ⟨-1, J1, ?_, ?_, hk⟩ <;> simp only [c_isRoad hC.2.1, e0, q, bnd, ↓reduceIte]
  have e7 : fX5_in a2 0 2 = some (if bad 3 a2 then (0 : Int32) else 1) := r_in2 3 2 rfl (by omega) a2
  by_cases q2 : bad 3 a2
  · have g0 : ¬ a2 = 0 := bne q2 0 (by omega) (by omega)
    have g1 : ¬ a2 = 1 := bne q2 1 (by omega) (by omega)
    have g2 : ¬ a2 = 2 := bne q2 2 (by omega) (by omega)
    refine ⟨-1, J1, ?_, ?_, hk⟩ <;> simp only [c_isRoad hC.2.1, e0, q, bnd, ↓reduceIte, n10, g0, g1, g2, e7, q2]
  obtain ⟨k, hkR, rfl⟩ := nbad (by omega) q
  have hc := hC.2.2.2.2.1 k hkR
  have hr := hR.2.2.2.2.1 k hkR
  have r0 : ld (J1.1 3) 60 (3 * nI k + 0) = some (nI (L 2 k)) := by
    rw [i3, pk_mul, Int32.add_zero, ld_at (by omega) (by omega), hr.1]
  have r1 : ld (J1.1 3) 60 (3 * nI k + 1) = some (nI (L 3 k)) := by
    rw [i3, pk_mul, nI_1, ld_at (by omega) (by omega), hr.2.1]
  have r2 : ld (J1.1 3) 60 (3 * nI k + 2) = some (nI (L 4 k)) := by
    rw [i3, i2, pk_mul, nI_add, ld_at (by omega) (by omega), hr.2.2]
  have c0 : ld (M.1 (lp (M.1 0 1) + 2)) 10 (nI k) = some (nI (L 2 k)) := by rw [ld_at (by omega) (by omega), hc.1]
  have c1 : ld (M.1 (lp (M.1 0 1) + 3)) 10 (nI k) = some (nI (L 3 k)) := by rw [ld_at (by omega) (by omega), hc.2.1]
  have c2 : ld (M.1 (lp (M.1 0 1) + 4)) 10 (nI k) = some (nI (L 4 k)) := by rw [ld_at (by omega) (by omega), hc.2.2]
  rcases nb3 q2 with rfl | rfl | rfl
  · refine ⟨nI (L 2 k), J1, ?_, ?_, hk⟩ <;> simp only [c_isRoad hC.2.1, e0, q, bnd, ↓reduceIte, n10, e7, q2, r0, c0]
  · refine ⟨nI (L 3 k), J1, ?_, ?_, hk⟩ <;> simp only [c_isRoad hC.2.1, e0, q, bnd, ↓reduceIte, n10, e7, q2, r1, c1]
  · refine ⟨nI (L 4 k), J1, ?_, ?_, hk⟩ <;> simp only [c_isRoad hC.2.1, e0, q, bnd, ↓reduceIte, n10, n20, n21, e7, q2, r2, c2]
theorem pu_stop (a1 : Int32) (a2 : Int32) {M J : Mem} (hI : Inv M J) : ∃ (r : Int32) (J1 : Mem), fX4_stop a1 a2 M = some r ∧ fX5_stop a1 a2 J = some (r, J1) ∧ Inv M J1 := by
  obtain ⟨L, hI⟩ := hI
  have hk : Inv M (ms J 0 0 0) := ⟨L, inv_th hI⟩
  have hJ := inv_th hI
  unfold fX4_stop fX5_stop
  rw [bnd]
  generalize ms J 0 0 0 = J1 at hk hJ ⊢
  obtain ⟨hL, h2, ⟨hC, hCm⟩, ⟨hR, hRm⟩, -⟩ := hJ
  have hT := hL.2.2.1
  have e0 : fX5_in a1 0 (J1.1 0 15 - 1) = some (if bad (lS L) a1 then (0 : Int32) else 1) := by rw [hR.2.2.1]; exact r_in _ (by omega) a1
  by_cases q : bad (lS L) a1
  · refine ⟨-1, J1, ?_, ?_, hk⟩ <;> simp only [c_isStop hC.2.2.1, e0, q, bnd, ↓reduceIte]
  have e7 : fX5_in a2 0 3 = some (if bad 4 a2 then (0 : Int32) else 1) := r_in2 4 3 rfl (by omega) a2
  by_cases q2 : bad 4 a2
  · have g0 : ¬ a2 = 0 := bne q2 0 (by omega) (by omega)
    have g1 : ¬ a2 = 1 := bne q2 1 (by omega) (by omega)
    have g2 : ¬ a2 = 2 := bne q2 2 (by omega) (by omega)
    have g3 : ¬ a2 = 3 := bne q2 3 (by omega) (by omega)
    refine ⟨-1, J1, ?_, ?_, hk⟩ <;> simp only [c_isStop hC.2.2.1, e0, q, bnd, ↓reduceIte, n10, g0, g1, g2, g3, e7, q2]
  obtain ⟨k, hkR, rfl⟩ := nbad (by omega) q
  have hc := hC.2.2.2.2.2.1 k hkR
  have hr := hR.2.2.2.2.2.1 k hkR
  have r0 : ld (J1.1 4) 20 (nI k) = some (nI (L 5 k)) := by rw [ld_at (by omega) (by omega), hr.1]
  have r1 : ld (J1.1 5) 20 (nI k) = some (nI (L 6 k)) := by rw [ld_at (by omega) (by omega), hr.2.1]
  have r2 : ld (J1.1 8) 10 (nI k) = some (nI (L 7 k)) := by rw [ld_at (by omega) (by omega), hr.2.2]
  have c0 : ld (M.1 (lp (M.1 0 1) + 5)) 10 (nI k) = some (nI (L 5 k)) := by rw [ld_at (by omega) (by omega), hc.1]
  have c1 : ld (M.1 (lp (M.1 0 1) + 6)) 10 (nI k) = some (nI (L 6 k)) := by rw [ld_at (by omega) (by omega), hc.2.1]
  have c2 : ld (M.1 (lp (M.1 0 1) + 7)) 10 (nI k) = some (nI (L 7 k)) := by rw [ld_at (by omega) (by omega), hc.2.2]
  rcases nb4 q2 with rfl | rfl | rfl | rfl
  · refine ⟨nI (L 5 k), J1, ?_, ?_, hk⟩ <;> simp only [c_isStop hC.2.2.1, e0, q, bnd, ↓reduceIte, n10, e7, q2, r0, c0]
  · refine ⟨nI (L 6 k), J1, ?_, ?_, hk⟩ <;> simp only [c_isStop hC.2.2.1, e0, q, bnd, ↓reduceIte, n10, e7, q2, r1, c1]
  · refine ⟨nI (L 7 k), J1, ?_, ?_, hk⟩ <;> simp only [c_isStop hC.2.2.1, e0, q, bnd, ↓reduceIte, n10, n20, n21, e7, q2, r2, c2]
  · refine ⟨nI (L 7 k + L 6 k), J1, ?_, ?_, hk⟩ <;> simp only [c_isStop hC.2.2.1, e0, q, bnd, ↓reduceIte, n10, n30, n31, n32, e7, q2, r2, r1, c_leaves hL hC hkR, nI_add]
