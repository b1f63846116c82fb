/-! pace, meets, so, ill, rate -/
theorem pace_mod : ∀ a b : Fin 24, fJ9_floorMod_7cf53 (nI b.val - nI a.val + 12) 24 = rmi (nI b.val - nI a.val + 36) 24 := by decide +kernel
theorem rmi_pace : ∀ a b : Fin 24, (rmi (nI b.val - nI a.val + 36) 24).isSome = true := by decide +kernel
theorem pu_pace (a1 : Int32) (a2 : Int32) {M J : Mem} (hI : Inv M J) : ∃ (r : Int32) (J1 : Mem), fX4_pace a1 a2 M = some r ∧ fX5_pace a1 a2 J = some (r, J1) ∧ Inv M J1 := by
  obtain ⟨L, hI⟩ := hI
  have hJ := inv_th hI
  unfold fX4_pace fX5_pace
  rw [bnd]
  generalize ms J 0 0 0 = J1 at hJ ⊢
  have hK := hJ
  have hk : Inv M J1 := ⟨L, hK⟩
  obtain ⟨hL, h2, ⟨hC, hCm⟩, ⟨hR, hRm⟩, -⟩ := hJ
  have hT := hL.1
  by_cases q : bad (lT L) a1
  · refine ⟨-1000000, J1, ?_, ?_, hk⟩ <;> simp only [c_isTown hC.1, r_isTown hL hR.1, q, bnd, ↓reduceIte]
  have e7 : fX5_in a2 0 998 = some (if bad 999 a2 then (0 : Int32) else 1) := r_in2 999 998 rfl (by omega) a2
  by_cases p : bad 999 a2
  · refine ⟨-1000000, J1, ?_, ?_, hk⟩
    · by_cases c : a2 < 0
      · simp only [c_isTown hC.1, q, c, n10, bnd, ↓reduceIte]
      · have c2 : ¬ a2 < 999 := nlt_of_le (p.resolve_left c)
        simp only [c_isTown hC.1, q, c, c2, n10, bnd, ↓reduceIte]
    · simp only [r_isTown hL hR.1, q, p, e7, n10, bnd, ↓reduceIte]
  obtain ⟨t, ht, rfl⟩ := nbad (by omega) q
  obtain ⟨h, hh, rfl⟩ := nbad (by omega) p
  have c1 : ¬ nI h < 0 := nI_pos (by omega)
  have c2 : nI h < 999 := nI_lt (b := 999) (by omega) (by omega)
  obtain ⟨J2, q1, s1⟩ := r_clockIn hL hR hRm ht (h := h) (by omega)
  obtain ⟨J3, q2, s2⟩ := r_clockIn hL (hR.sJ s1) (hRm.sJ s1) ht (h := h + 1) (by omega)
  have k3 : Inv M J3 := ⟨L, inv_sJ hK (s1.trans s2)⟩
  have d1 := c_clockAt hL hC hCm ht (show h ≤ 9999 by omega)
  have d2 := c_clockAt hL hC hCm ht (show h + 1 ≤ 9999 by omega)
  cases e1 : clk L t h with
  | none =>
    rw [e1, encC_none] at q1 d1
    refine ⟨-9, J3, ?_, ?_, k3⟩
    · simp only [c_isTown hC.1, q, c1, c2, n10, bnd, nI_1, d1, d2, ↓reduceIte]
    · simp only [r_isTown hL hR.1, q, p, e7, n10, bnd, nI_1, q1, q2, ↓reduceIte]
  | some x =>
    rw [e1, encC_some] at q1 d1
    have hx := clk_24 e1
    have x9 : ¬ nI x = -9 := nI_m9 (by omega)
    cases e2 : clk L t (h + 1) with
    | none =>
      rw [e2, encC_none] at q2 d2
      refine ⟨-9, J3, ?_, ?_, k3⟩
      · simp only [c_isTown hC.1, q, c1, c2, n10, bnd, nI_1, d1, d2, x9, ↓reduceIte]
      · simp only [r_isTown hL hR.1, q, p, e7, n10, bnd, nI_1, q1, q2, x9, ↓reduceIte]
    | some y =>
      rw [e2, encC_some] at q2 d2
      have hy := clk_24 e2
      have y9 : ¬ nI y = -9 := nI_m9 (by omega)
      have m1 := pace_mod ⟨x, hx⟩ ⟨y, hy⟩
      have m2 := rmi_pace ⟨x, hx⟩ ⟨y, hy⟩
      simp only at m1 m2
      obtain ⟨z, hz⟩ := Option.isSome_iff_exists.mp m2
      rw [hz] at m1
      refine ⟨z - 12, J3, ?_, ?_, k3⟩
      · simp only [c_isTown hC.1, q, c1, c2, n10, bnd, nI_1, d1, d2, x9, y9, m1, ↓reduceIte]
      · simp only [r_isTown hL hR.1, q, p, e7, n10, bnd, nI_1, q1, q2, x9, y9, hz, ↓reduceIte]
theorem c_isStart (a : Int32) : fX4_isStart a = some (if bad 901 a then (0 : Int32) else 1) := by
  rw [← r_in2 901 900 rfl (by omega) a]; rfl
theorem bndp {α β : Type} (x : α) (f : α → Option β) : Option.bind (some x) f = f x := Eq.trans (b := f x) rfl rfl
theorem encC_or {L : Lnd} (hL : Lok L) (a c : Nat) : encC (dist L a c) = -9 ∨ ∃ x : Nat, x ≤ 1920 ∧ encC (dist L a c) = nI x := by
  cases e : dist L a c with
  | none => exact Or.inl rfl
  | some x => exact Or.inr ⟨x, dist_le hL e, rfl⟩
theorem pu_meets (a1 : Int32) (a2 : Int32) (a3 : Int32) (a4 : Int32) (a5 : Int32) (a6 : Int32) {M J : Mem} (hI : Inv M J) : ∃ (r : Int32) (J1 : Mem), fX4_meets a1 a2 a3 a4 a5 a6 M = some r ∧ fX5_meets a1 a2 a3 a4 a5 a6 J = some (r, J1) ∧ Inv M J1 := by
  obtain ⟨L, hI⟩ := hI
  have hJ := inv_th hI
  unfold fX4_meets fX5_meets
  rw [bnd]
  generalize ms J 0 0 0 = J1 at hJ ⊢
  have hK := hJ
  have hk : Inv M J1 := ⟨L, hK⟩
  obtain ⟨hL, h2, ⟨hC, hCm⟩, ⟨hR, hRm⟩, -⟩ := hJ
  have hT := hL.1
  have b2 : fX5_in a2 0 900 = some (if bad 901 a2 then (0 : Int32) else 1) := r_in2 901 900 rfl (by omega) a2
  have b4 : fX5_in a4 0 900 = some (if bad 901 a4 then (0 : Int32) else 1) := r_in2 901 900 rfl (by omega) a4
  have b6 : fX5_in a6 0 1 = some (if bad 2 a6 then (0 : Int32) else 1) := r_in2 2 1 rfl (by omega) a6
  by_cases q1 : bad (lT L) a1
  · refine ⟨-1, J1, ?_, ?_, hk⟩ <;> simp only [c_isTown hC.1, r_isTown hL hR.1, q1, bnd, ↓reduceIte]
  by_cases q3 : bad (lT L) a3
  · by_cases q2 : bad 901 a2 <;> refine ⟨-1, J1, ?_, ?_, hk⟩ <;> simp only [c_isTown hC.1, r_isTown hL hR.1, c_isStart, b2, q1, q2, q3, n10, bnd, ↓reduceIte]
  by_cases q5 : bad (lT L) a5
  · by_cases q2 : bad 901 a2 <;> by_cases q4 : bad 901 a4 <;> refine ⟨-1, J1, ?_, ?_, hk⟩ <;> simp only [c_isTown hC.1, r_isTown hL hR.1, c_isStart, b2, b4, q1, q2, q3, q4, q5, n10, bnd, ↓reduceIte]
  by_cases q2 : bad 901 a2
  · refine ⟨-1, J1, ?_, ?_, hk⟩ <;> simp only [c_isTown hC.1, r_isTown hL hR.1, c_isStart, b2, q1, q2, q3, q5, n10, bnd, ↓reduceIte]
  by_cases q4 : bad 901 a4
  · refine ⟨-1, J1, ?_, ?_, hk⟩ <;> simp only [c_isTown hC.1, r_isTown hL hR.1, c_isStart, b2, b4, q1, q2, q3, q4, q5, n10, bnd, ↓reduceIte]
  by_cases q6 : bad 2 a6
  · refine ⟨-1, J1, ?_, ?_, hk⟩
    · by_cases c : a6 < 0
      · simp only [c_isTown hC.1, c_isStart, q1, q2, q3, q4, q5, c, n10, bnd, ↓reduceIte]
      · have c2 : ¬ a6 ≤ 1 := fun z => by
          have h3 := q6.resolve_left c
          exact absurd (Int32.le_trans h3 z) (by decide)
        simp only [c_isTown hC.1, c_isStart, q1, q2, q3, q4, q5, c, c2, n10, bnd, ↓reduceIte]
    · simp only [r_isTown hL hR.1, b2, b4, b6, q1, q2, q3, q4, q5, q6, n10, bnd, ↓reduceIte]
  obtain ⟨t, ht, rfl⟩ := nbad (by omega) q1
  obtain ⟨u, hu, rfl⟩ := nbad (by omega) q3
  obtain ⟨w, hw, rfl⟩ := nbad (by omega) q5
  obtain ⟨h, hh, rfl⟩ := nbad (by omega) q2
  obtain ⟨g, hg, rfl⟩ := nbad (by omega) q4
  have c1 : ¬ a6 < 0 := fun z => q6 (Or.inl z)
  have c2 : a6 ≤ 1 := by rcases nb2 q6 with rfl | rfl <;> decide
  have d1 := c_distance hL hC hCm ht hw
  have d2 := c_distance hL hC hCm hu hw
  have f1 := r_farOf hL hRm ht hw
  have f2 := r_farOf hL hRm hu hw
  have hX := encC_or hL t w
  have hY := encC_or hL u w
  generalize encC (dist L t w) = X at d1 f1 hX
  generalize encC (dist L u w) = Y at d2 f2 hY
  by_cases x9 : X = -9
  · refine ⟨-9, J1, ?_, ?_, hk⟩
    · simp only [c_isTown hC.1, c_isStart, q1, q2, q3, q4, q5, c1, c2, n10, bndp, d1, d2, x9, ↓reduceIte]
    · simp only [r_isTown hL hR.1, b2, b4, b6, q1, q2, q3, q4, q5, q6, n10, bndp, f1, x9, ↓reduceIte]
  by_cases y9 : Y = -9
  · refine ⟨-9, J1, ?_, ?_, hk⟩
    · simp only [c_isTown hC.1, c_isStart, q1, q2, q3, q4, q5, c1, c2, n10, bndp, d1, d2, x9, y9, ↓reduceIte]
    · simp only [r_isTown hL hR.1, b2, b4, b6, q1, q2, q3, q4, q5, q6, n10, bndp, f1, f2, x9, y9, ↓reduceIte]
  obtain ⟨x, hx, rfl⟩ := hX.resolve_left x9
  obtain ⟨y, hy, rfl⟩ := hY.resolve_left y9
  by_cases z : h + x ≤ g + y
  · have mx : (if nI h + nI x < nI g + nI y then nI g + nI y else nI h + nI x) = nI (g + y) := by
      rw [nI_add, nI_add]
      by_cases z2 : h + x < g + y
      · rw [if_pos (nI_lt z2 (by omega))]
      · rw [if_neg (nI_nlt (by omega) (by omega)), show h + x = g + y by omega]
    have me : nI h + nI x ≤ nI g + nI y := by rw [nI_add, nI_add]; exact nI_le z (by omega)
    obtain ⟨J2, k1, s1⟩ := r_clockIn hL hR hRm hw (h := g + y) (by omega)
    have k2 := c_clockAt hL hC hCm hw (show g + y ≤ 9999 by omega)
    rw [← nI_add] at k1
    rcases nb2 q6 with rfl | rfl
    · refine ⟨nI (g + y), J1, ?_, ?_, hk⟩
      · simp only [c_isTown hC.1, c_isStart, q1, q2, q3, q4, q5, c1, c2, n10, bndp, d1, d2, x9, y9, mx, ↓reduceIte]
      · simp only [r_isTown hL hR.1, b2, b4, b6, q1, q2, q3, q4, q5, q6, n10, bndp, f1, f2, x9, y9, me, ↓reduceIte]
        rw [nI_add]
    · refine ⟨encC (clk L w (g + y)), J2, ?_, ?_, L, inv_sJ hK s1⟩
      · simp only [c_isTown hC.1, c_isStart, q1, q2, q3, q4, q5, c1, c2, n10, bndp, d1, d2, x9, y9, mx, k2, ↓reduceIte]
      · simp only [r_isTown hL hR.1, b2, b4, b6, q1, q2, q3, q4, q5, q6, n10, bndp, f1, f2, x9, y9, me, k1, ↓reduceIte]
  · have mx : (if nI h + nI x < nI g + nI y then nI g + nI y else nI h + nI x) = nI (h + x) := by
      rw [nI_add, nI_add]
      rw [if_neg (nI_nlt (by omega) (by omega))]
    have me : ¬ nI h + nI x ≤ nI g + nI y := by rw [nI_add, nI_add]; exact nI_ge (by omega) (by omega)
    obtain ⟨J2, k1, s1⟩ := r_clockIn hL hR hRm hw (h := h + x) (by omega)
    have k2 := c_clockAt hL hC hCm hw (show h + x ≤ 9999 by omega)
    rw [← nI_add] at k1
    rcases nb2 q6 with rfl | rfl
    · refine ⟨nI (h + x), J1, ?_, ?_, hk⟩
      · simp only [c_isTown hC.1, c_isStart, q1, q2, q3, q4, q5, c1, c2, n10, bndp, d1, d2, x9, y9, mx, ↓reduceIte]
      · simp only [r_isTown hL hR.1, b2, b4, b6, q1, q2, q3, q4, q5, q6, n10, bndp, f1, f2, x9, y9, me, ↓reduceIte]
        rw [nI_add]
    · refine ⟨encC (clk L w (h + x)), J2, ?_, ?_, L, inv_sJ hK s1⟩
      · simp only [c_isTown hC.1, c_isStart, q1, q2, q3, q4, q5, c1, c2, n10, bndp, d1, d2, x9, y9, mx, k2, ↓reduceIte]
      · simp only [r_isTown hL hR.1, b2, b4, b6, q1, q2, q3, q4, q5, q6, n10, bndp, f1, f2, x9, y9, me, k1, ↓reduceIte]
theorem so_lp {L : Lnd} {M J0 : Mem} (hL : Lok L) (hC : LC (lp (M.1 0 1)) L M.1) (hm : LCm (lp (M.1 0 1)) L M.1) {cnt : Nat} (h0 : cnt ≤ 8) (h1 : M.1 28 1 = nI cnt) (h2 : J0.1 9 1 = nI cnt) (h7 : ∀ k, k < cnt → ∃ t c h : Nat, t < lT L ∧ c < 24 ∧ h ≤ 999 ∧ M.1 (28 + 1) k = nI t ∧ M.1 (28 + 2) k = nI c ∧ M.1 (28 + 3) k = nI h ∧ J0.1 9 (2 + 3 * k) = nI t ∧ J0.1 9 (2 + 3 * k + 1) = nI c ∧ J0.1 9 (2 + 3 * k + 2) = nI h) : ∀ (n k : Nat) (acc : Int32) (J : Mem), k ≤ cnt → cnt < k + n → sJ J0 J → LR L J.1 → LRm L J.1 → ∃ (r : Int32) (J' : Mem), fX4_so_4 M (fun y => some y) n acc (nI k) = some r ∧ fX5_so_9 (fun y6 M7 => some (y6, M7)) n acc (nI k) J = some (r, J') ∧ sJ J0 J'
  | 0, k, _, _, g1, g2, _, _, _ => by omega
  | n + 1, k, acc, J, g1, g2, hs, hR, hRm => by
    have r9 := hs.1 9 (by omega) (by omega)
    unfold fX4_so_4 fX5_so_9
    rw [h1, ld_1 (by omega) (by omega), bnd, r9, h2]
    by_cases e : k = cnt
    · subst e
      exact ⟨acc, J, if_pos (Int32.le_refl _), if_pos (Int32.le_refl _), hs⟩
    have hk : k < cnt := by omega
    have z : ¬ nI cnt ≤ nI k := nI_ge hk (by omega)
    obtain ⟨t, c, h, a1, a2, a3, a4, a5, a6, a7, a8, a9⟩ := h7 k hk
    have hT := hL.1
    obtain ⟨J1, q1, s1⟩ := r_clockIn hL hR hRm a1 (h := h) (by omega)
    have r91 := s1.1 9 (by omega) (by omega)
    rw [if_neg z, if_neg z, ld_at (by omega) (by omega), a4, bnd, ld_at (by omega) (by omega), a6, bnd, c_clockAt hL hC hm a1 (by omega), bnd, ld_at (by omega) (by omega), a5, bnd]
    simp only [i2, i3, pk_mul, nI_add, nI_1, or0]
    rw [ld_at (by omega) (by omega), a7, bnd, ld_at (by omega) (by omega), a9, bnd, q1, bnd]
    dsimp only
    rw [r91, r9, ld_at (by omega) (by omega), a8, bnd]
    by_cases y : encC (clk L t h) = nI c
    · rw [if_pos y, if_pos y]
      exact so_lp hL hC hm h0 h1 h2 h7 n (k + 1) _ J1 (by omega) (by omega) (hs.trans s1) (hR.sJ s1) (hRm.sJ s1)
    · rw [if_neg y, if_neg y]
      exact so_lp hL hC hm h0 h1 h2 h7 n (k + 1) _ J1 (by omega) (by omega) (hs.trans s1) (hR.sJ s1) (hRm.sJ s1)
theorem pu_so {M J : Mem} (hI : Inv M J) : ∃ (r : Int32) (J1 : Mem), fX4_so M = some r ∧ fX5_so J = some (r, J1) ∧ Inv M J1 := by
  obtain ⟨L, hI⟩ := hI
  have hJ := inv_th hI
  unfold fX4_so fX5_so
  rw [bnd]
  generalize ms J 0 0 0 = J1 at hJ ⊢
  have hK := hJ
  obtain ⟨hL, h2, ⟨hC, hCm⟩, ⟨hR, hRm⟩, h6, ⟨now, cnt, s1, s2, s3, s4, s5, s6, s7⟩, h8, h9, h10⟩ := hJ
  simp only [Nat.zero_add] at s4 s6 s7
  obtain ⟨r, J2, e1, e2, e3⟩ := so_lp hL hC hCm s2 s5 s6 s7 mF 0 0 J1 (by omega) (fuel (by omega)) (sJ.refl _) hR hRm
  exact ⟨r, J2, e1, e2, L, inv_sJ hK e3⟩
theorem ill_lp {L : Lnd} {M J : Mem} (hL : Lok L) (hC : LC (lp (M.1 0 1)) L M.1) (hR : LR L J.1) {now : Nat} (h1 : M.1 28 0 = nI now) (h2 : J.1 9 0 = nI now) (u1 u2 : Int32) (J9 : Mem) : ∀ (n k : Nat) (acc : Int32), k ≤ lS L → lS L < k + n → ∃ r : Int32, fX4_ill_24 u1 u2 M (fun y => some y) n acc (nI k) = some r ∧ fX5_ill_29 u1 u2 J (fun y6 => some (y6, J9)) n acc (nI k) = some (r, J9)
  | 0, k, _, g1, g2 => by omega
  | n + 1, k, acc, g1, g2 => by
    have hS := hL.2.2.1
    unfold fX4_ill_24 fX5_ill_29
    rw [hC.2.2.1, hR.2.2.1]
    by_cases e : k = lS L
    · rw [e]
      exact ⟨acc, if_pos (Int32.le_refl _), if_pos (Int32.le_refl _)⟩
    have hk : k < lS L := by omega
    have z : ¬ nI (lS L) ≤ nI k := nI_ge hk (by omega)
    have hc := (hC.2.2.2.2.2.1 k hk).2.2
    have hr := (hR.2.2.2.2.2.1 k hk).2.2
    have ih := fun acc => ill_lp hL hC hR h1 h2 u1 u2 J9 n (k + 1) acc (by omega) (by omega)
    rw [if_neg z, if_neg z, ld_at (by omega) (by omega), hc, ld_at (by omega) (by omega), hr, ld_0 (by omega) (by omega), h2, h1]
    simp only [bnd, nI_1, Int32.add_zero]
    by_cases y : nI (L 7 k) ≤ nI now
    · rw [if_pos y, if_pos y]
      by_cases x : u2 < nI (L 7 k)
      · rw [if_pos x, if_pos x]; exact ih _
      · rw [if_neg x, if_neg x]; exact ih _
    · rw [if_neg y, if_neg y]
      by_cases x : u2 < nI (L 7 k) + u1
      · rw [if_pos x, if_pos x]; exact ih _
      · rw [if_neg x, if_neg x]; exact ih _
theorem pu_ill (a1 : Int32) (a2 : Int32) {M J : Mem} (hI : Inv M J) : ∃ (r : Int32) (J1 : Mem), fX4_ill a1 a2 M = some r ∧ fX5_ill a1 a2 J = some (r, J1) ∧ Inv M J1 := by
  obtain ⟨L, hI⟩ := hI
  have hJ := inv_th hI
  unfold fX4_ill fX5_ill
  rw [bnd]
  generalize ms J 0 0 0 = J1 at hJ ⊢
  have hK := hJ
  have hk : Inv M J1 := ⟨L, hK⟩
  obtain ⟨hL, h2, ⟨hC, hCm⟩, ⟨hR, hRm⟩, h6, ⟨now, cnt, s1, s2, s3, s4, s5, s6, s7⟩, h8, h9, h10⟩ := hJ
  have hS := hL.2.2.1
  by_cases c1 : a1 < 0
  · refine ⟨-1, J1, ?_, ?_, hk⟩ <;> simp only [c1, fX5_in_no (lo := 0) (hi := 99) (Or.inl c1), bnd, ↓reduceIte]
  by_cases c2 : 99 < a1
  · refine ⟨-1, J1, ?_, ?_, hk⟩ <;> simp only [c1, c2, fX5_in_no (lo := 0) (hi := 99) (Or.inr c2), bnd, ↓reduceIte]
  have cY := fX5_in_yes (lo := 0) (hi := 99) c1 c2
  by_cases q : bad 1000 a2
  · refine ⟨-1, J1, ?_, ?_, hk⟩ <;> simp only [c1, c2, cY, c_isHour, r_isHour, q, n10, bnd, ↓reduceIte]
  obtain ⟨r, e1, e2⟩ := ill_lp hL hC hR s3 s4 a1 a2 J1 mF 0 0 (by omega) (fuel (by omega))
  rw [nI_0] at e1 e2
  refine ⟨r, J1, ?_, ?_, hk⟩ <;> simp only [c1, c2, cY, c_isHour, r_isHour, q, n10, bnd, e1, e2, ↓reduceIte]
theorem nb6 {a : Int32} (h : ¬ bad 6 a) : a = 0 ∨ a = 1 ∨ a = 2 ∨ a = 3 ∨ a = 4 ∨ a = 5 := by
  obtain ⟨j, hj, rfl⟩ := nbad (by omega) h
  rcases (show j = 0 ∨ j = 1 ∨ j = 2 ∨ j = 3 ∨ j = 4 ∨ j = 5 by omega) with rfl | rfl | rfl | rfl | rfl | rfl
  · exact Or.inl rfl
  · exact Or.inr (Or.inl rfl)
  · exact Or.inr (Or.inr (Or.inl rfl))
  · exact Or.inr (Or.inr (Or.inr (Or.inl rfl)))
  · exact Or.inr (Or.inr (Or.inr (Or.inr (Or.inl rfl))))
  · exact Or.inr (Or.inr (Or.inr (Or.inr (Or.inr rfl))))
theorem n40 : ¬ (4 : Int32) = 0 := by decide
theorem n41 : ¬ (4 : Int32) = 1 := by decide
theorem n42 : ¬ (4 : Int32) = 2 := by decide
theorem n43 : ¬ (4 : Int32) = 3 := by decide
theorem n50 : ¬ (5 : Int32) = 0 := by decide
theorem n51 : ¬ (5 : Int32) = 1 := by decide
theorem n52 : ¬ (5 : Int32) = 2 := by decide
theorem n53 : ¬ (5 : Int32) = 3 := by decide
theorem n54 : ¬ (5 : Int32) = 4 := by decide
section PURE4
variable {L : Lnd} {M : Mem}
theorem c_townRate (hL : Lok L) (hC : LC (lp (M.1 0 1)) L M.1) {t : Nat} (ht : t < lT L) (x : Int64) : fX4_townRate (nI t) (ml M x) = some (nI (L 1 t), ml M (x + 1)) := by
  unfold fX4_townRate
  have e : fX1_bidOf (lp ((ml M (x + 1)).1 0 1)) (nI t) (ml M (x + 1)) = some (nI (L 1 t)) := c_bidOf (M := ml M (x + 1)) (b := lp (M.1 0 1)) hL hC ht
  show Option.bind (some (ml M (x + 1))) _ = _
  rw [bnd, e, bnd]
theorem c_marketRate (hL : Lok L) (hC : LC (lp (M.1 0 1)) L M.1) {t : Nat} (ht : t < lT L) (x : Int64) : fX4_marketRate (nI t) (ml M x) = some (nI (L 1 t) + nI (cntR L t (lR L)), ml M (x + 11)) := by
  have hT := hL.1
  unfold fX4_marketRate
  have e := c_townRate hL hC ht (x + 10)
  rw [show x + 10 + 1 = x + 11 by rw [Int64.add_assoc]; rfl] at e
  have e2 : fX1_roadsOf (lp ((ml M (x + 11)).1 0 1)) (nI t) (ml M (x + 11)) = some (nI (cntR L t (lR L))) := c_roadsOf (M := ml M (x + 11)) (b := lp (M.1 0 1)) hL hC (by omega)
  show Option.bind (some (ml M (x + 10))) _ = _
  simp only [bnd, e, e2]
theorem c_innRate (hL : Lok L) (hC : LC (lp (M.1 0 1)) L M.1) (hm : LCm (lp (M.1 0 1)) L M.1) {t now : Nat} (ht : t < lT L) (h1 : M.1 28 0 = nI now) (h2 : now ≤ 999) (x : Int64) : fX4_innRate (nI t) (ml M x) = some (nI (L 1 t) - (if encC (clk L t now) = -9 then 0 else encC (clk L t now)), ml M (x + 101)) := by
  unfold fX4_innRate
  have e := c_townRate hL hC ht (x + 100)
  rw [show x + 100 + 1 = x + 101 by rw [Int64.add_assoc]; rfl] at e
  have e2 : fX1_clockAt (lp ((ml M (x + 100)).1 0 1)) (nI t) ((ml M (x + 100)).1 28 0) (ml M (x + 100)) = some (encC (clk L t now)) := by
    rw [ml_1, h1]; exact c_clockAt (M := ml M (x + 100)) (b := lp (M.1 0 1)) hL hC hm ht (by omega)
  show Option.bind (some (ml M (x + 100))) _ = _
  simp only [bnd, e, e2]
  by_cases c : encC (clk L t now) = -9
  · rw [if_pos c, if_pos c]
  · rw [if_neg c, if_neg c]
theorem c_fairRate (hL : Lok L) (hC : LC (lp (M.1 0 1)) L M.1) {t : Nat} (ht : t < lT L) (x : Int64) : fX4_fairRate (nI t) (ml M x) = some (2 * (nI (L 1 t) + nI (cntR L t (lR L))), ml M (x + 1011)) := by
  unfold fX4_fairRate
  have e := c_marketRate hL hC ht (x + 1000)
  rw [show x + 1000 + 11 = x + 1011 by rw [Int64.add_assoc]; rfl] at e
  show Option.bind (some (ml M (x + 1000))) _ = _
  simp only [bnd, e]
theorem c_ferryRate (hL : Lok L) (hC : LC (lp (M.1 0 1)) L M.1) (hm : LCm (lp (M.1 0 1)) L M.1) {t now : Nat} (ht : t < lT L) (h1 : M.1 28 0 = nI now) (h2 : now ≤ 999) (x : Int64) : fX4_ferryRate (nI t) (ml M x) = some (nI (L 1 t) - (if encC (clk L t now) = -9 then 0 else encC (clk L t now)) + nI t, ml M (x + 10101)) := by
  unfold fX4_ferryRate
  have e := c_innRate hL hC hm ht h1 h2 (x + 10000)
  rw [show x + 10000 + 101 = x + 10101 by rw [Int64.add_assoc]; rfl] at e
  show Option.bind (some (ml M (x + 10000))) _ = _
  simp only [bnd, e]
theorem c_millRate (hL : Lok L) (hC : LC (lp (M.1 0 1)) L M.1) {t now : Nat} (ht : t < lT L) (h1 : M.1 28 0 = nI now) (x : Int64) : fX4_millRate (nI t) (ml M x) = some (nI (L 1 t) + nI now, ml M (x + 100001)) := by
  unfold fX4_millRate
  have e := c_townRate hL hC ht (x + 100000)
  rw [show x + 100000 + 1 = x + 100001 by rw [Int64.add_assoc]; rfl] at e
  show Option.bind (some (ml M (x + 100000))) _ = _
  simp only [bnd, e, ml_1, h1]
theorem ml_self (M : Mem) : ml M M.2 = M := rfl
end PURE4
theorem inv_ml {L : Lnd} {M J : Mem} (h : InvL L M J) (x : Int64) : InvL L (ml M x) (ml J x) := by
  obtain ⟨h1, h2, h3, h4, h6, h7, h8, h9, h10⟩ := h
  exact ⟨h1, h2, h3, h4, h6, h7, h8, h9, rfl⟩
theorem pu_rate (a1 : Int32) (a2 : Int32) {M J : Mem} (hI : Inv M J) : ∃ (r : Int32) (M1 J1 : Mem), fX4_rate a1 a2 M = some (r, M1) ∧ fX5_rate a1 a2 J = some (r, J1) ∧ Inv M1 J1 := by
  obtain ⟨L, hI⟩ := hI
  have hJ := inv_th hI
  unfold fX4_rate fX5_rate
  rw [bnd]
  generalize ms J 0 0 0 = J1 at hJ ⊢
  have hK := hJ
  have hk : Inv M J1 := ⟨L, hK⟩
  obtain ⟨hL, h2, ⟨hC, hCm⟩, ⟨hR, hRm⟩, h6, ⟨now, cnt, s1, s2, s3, s4, s5, s6, s7⟩, h8, h9, h10⟩ := hJ
  have hT := hL.1
  have e7 : fX5_in a1 0 5 = some (if bad 6 a1 then (0 : Int32) else 1) := r_in2 6 5 rfl (by omega) a1
  by_cases q : bad (lT L) a2
  · by_cases p : bad 6 a1 <;> refine ⟨-1000000, M, J1, ?_, ?_, hk⟩ <;> simp only [c_isTown hC.1, r_isTown hL hR.1, e7, p, q, n10, bnd, ↓reduceIte]
  by_cases p : bad 6 a1
  · have g0 : ¬ a1 = 0 := bne p 0 (by omega) (by omega)
    have g1 : ¬ a1 = 1 := bne p 1 (by omega) (by omega)
    have g2 : ¬ a1 = 2 := bne p 2 (by omega) (by omega)
    have g3 : ¬ a1 = 3 := bne p 3 (by omega) (by omega)
    have g4 : ¬ a1 = 4 := bne p 4 (by omega) (by omega)
    have g5 : ¬ a1 = 5 := bne p 5 (by omega) (by omega)
    refine ⟨-1000000, M, J1, ?_, ?_, hk⟩ <;> simp only [c_isTown hC.1, e7, p, q, g0, g1, g2, g3, g4, g5, n10, bnd, ↓reduceIte]
  obtain ⟨t, ht, rfl⟩ := nbad (by omega) q
  obtain ⟨J2, k1, k2⟩ := r_clockIn hL hR hRm ht (h := now) (by omega)
  have hR2 := hR.sJ k2
  have hI2 := inv_sJ hK k2
  have w1 := c_townRate hL hC ht M.2
  have w2 := c_marketRate hL hC ht M.2
  have w3 := c_innRate hL hC hCm ht s3 s1 M.2
  have w4 := c_fairRate hL hC ht M.2
  have w5 := c_ferryRate hL hC hCm ht s3 s1 M.2
  have w6 := c_millRate hL hC ht s3 M.2
  rw [ml_self] at w1 w2 w3 w4 w5 w6
  have l9 : ld (J1.1 9) 26 0 = some (nI now) := by rw [ld_0 (by omega) (by omega), s4]
  have l2 : ld (J2.1 2) 12 (nI t) = some (nI (L 1 t)) := by rw [ld_at (by omega) (by omega), hR2.2.2.2.1 t ht]
  have l92 : ld (J2.1 9) 26 0 = some (nI now) := by rw [k2.1 9 (by omega) (by omega)]; exact l9
  have rr := r_roadsOf hL hR2 (t := t) (by omega)
  have m2 : M.2 = J2.2 := hI2.2.2.2.2.2.2.2.2
  have fin : ∀ x, Inv (ml M (M.2 + x)) (ml J2 (J2.2 + x)) := fun x => by rw [← m2]; exact ⟨L, inv_ml hI2 _⟩
  by_cases c : encC (clk L t now) = -9
  · rw [if_pos c] at w3 w5
    rcases nb6 p with rfl | rfl | rfl | rfl | rfl | rfl
    · refine ⟨nI (L 1 t), _, _, ?_, ?_, fin 1⟩
      · simp only [c_isTown hC.1, q, n10, bnd, w1, ↓reduceIte]
      · simp only [r_isTown hL hR.1, e7, p, q, n10, bnd, l9, k1, c, l2, l92, rr, ml_1, ↓reduceIte]
    · refine ⟨nI (L 1 t) + nI (cntR L t (lR L)), _, _, ?_, ?_, fin 11⟩
      · simp only [c_isTown hC.1, q, n10, bnd, w2, ↓reduceIte]
      · simp only [r_isTown hL hR.1, e7, p, q, n10, bnd, l9, k1, c, l2, l92, rr, ml_1, ↓reduceIte]
    · refine ⟨nI (L 1 t) - 0, _, _, ?_, ?_, fin 101⟩
      · simp only [c_isTown hC.1, q, n10, n20, n21, bnd, w3, ↓reduceIte]
      · simp only [r_isTown hL hR.1, e7, p, q, n10, n20, n21, bnd, l9, k1, c, l2, l92, rr, ml_1, ↓reduceIte]
    · refine ⟨2 * (nI (L 1 t) + nI (cntR L t (lR L))), _, _, ?_, ?_, fin 1011⟩
      · simp only [c_isTown hC.1, q, n10, n30, n31, n32, bnd, w4, ↓reduceIte]
      · simp only [r_isTown hL hR.1, e7, p, q, n10, n30, n31, n32, bnd, l9, k1, c, l2, l92, rr, ml_1, ↓reduceIte]
    · refine ⟨(nI (L 1 t) - 0) + nI t, _, _, ?_, ?_, fin 10101⟩
      · simp only [c_isTown hC.1, q, n10, n40, n41, n42, n43, bnd, w5, ↓reduceIte]
      · simp only [r_isTown hL hR.1, e7, p, q, n10, n40, n41, n42, n43, bnd, l9, k1, c, l2, l92, rr, ml_1, ↓reduceIte]
    · refine ⟨nI (L 1 t) + nI now, _, _, ?_, ?_, fin 100001⟩
      · simp only [c_isTown hC.1, q, n10, n50, n51, n52, n53, n54, bnd, w6, ↓reduceIte]
      · simp only [r_isTown hL hR.1, e7, p, q, n10, n50, n51, n52, n53, n54, bnd, l9, k1, c, l2, l92, rr, ml_1, ↓reduceIte]
  · rw [if_neg c] at w3 w5
    rcases nb6 p with rfl | rfl | rfl | rfl | rfl | rfl
    · refine ⟨nI (L 1 t), _, _, ?_, ?_, fin 1⟩
      · simp only [c_isTown hC.1, q, n10, bnd, w1, ↓reduceIte]
      · simp only [r_isTown hL hR.1, e7, p, q, n10, bnd, l9, k1, c, l2, l92, rr, ml_1, ↓reduceIte]
    · refine ⟨nI (L 1 t) + nI (cntR L t (lR L)), _, _, ?_, ?_, fin 11⟩
      · simp only [c_isTown hC.1, q, n10, bnd, w2, ↓reduceIte]
      · simp only [r_isTown hL hR.1, e7, p, q, n10, bnd, l9, k1, c, l2, l92, rr, ml_1, ↓reduceIte]
    · refine ⟨nI (L 1 t) - encC (clk L t now), _, _, ?_, ?_, fin 101⟩
      · simp only [c_isTown hC.1, q, n10, n20, n21, bnd, w3, ↓reduceIte]
      · simp only [r_isTown hL hR.1, e7, p, q, n10, n20, n21, bnd, l9, k1, c, l2, l92, rr, ml_1, ↓reduceIte]
    · refine ⟨2 * (nI (L 1 t) + nI (cntR L t (lR L))), _, _, ?_, ?_, fin 1011⟩
      · simp only [c_isTown hC.1, q, n10, n30, n31, n32, bnd, w4, ↓reduceIte]
      · simp only [r_isTown hL hR.1, e7, p, q, n10, n30, n31, n32, bnd, l9, k1, c, l2, l92, rr, ml_1, ↓reduceIte]
    · refine ⟨(nI (L 1 t) - encC (clk L t now)) + nI t, _, _, ?_, ?_, fin 10101⟩
      · simp only [c_isTown hC.1, q, n10, n40, n41, n42, n43, bnd, w5, ↓reduceIte]
      · simp only [r_isTown hL hR.1, e7, p, q, n10, n40, n41, n42, n43, bnd, l9, k1, c, l2, l92, rr, ml_1, ↓reduceIte]
    · refine ⟨nI (L 1 t) + nI now, _, _, ?_, ?_, fin 100001⟩
      · simp only [c_isTown hC.1, q, n10, n50, n51, n52, n53, n54, bnd, w6, ↓reduceIte]
      · simp only [r_isTown hL hR.1, e7, p, q, n10, n50, n51, n52, n53, n54, bnd, l9, k1, c, l2, l92, rr, ml_1, ↓reduceIte]
