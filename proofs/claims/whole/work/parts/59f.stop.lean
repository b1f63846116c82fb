/-! the item stop -/
theorem stop_ext (D : Lnd) (t r cm rd : Nat) : ∃ D' : Lnd, lT D' = lT D ∧ lR D' = lR D ∧ lS D' = lS D + 1 ∧ D' 5 (lS D) = t ∧ D' 6 (lS D) = r ∧ D' 7 (lS D) = cm ∧ D' 8 (lS D) = rd ∧ (∀ k, k ≠ lS D → D' 5 k = D 5 k ∧ D' 6 k = D 6 k ∧ D' 7 k = D 7 k ∧ D' 8 k = D 8 k) ∧ (∀ p, 1 ≤ p → p ≤ 4 → D' p = D p) := by
  refine ⟨dset (dset (dset (dset (dset D 5 (lS D) t) 6 (lS D) r) 7 (lS D) cm) 8 (lS D) rd) 0 2 (lS D + 1), ?_, ?_, dset_eq _ _ _ _, ?_, ?_, ?_, ?_, fun k hk => ⟨?_, ?_, ?_, ?_⟩, fun p h1 h2 => ?_⟩
  · show dset _ _ _ _ 0 0 = _
    rw [dset_ne (by omega), dset_ne (by omega), dset_ne (by omega), dset_ne (by omega), dset_ne (by omega)]
  · show dset _ _ _ _ 0 1 = _
    rw [dset_ne (by omega), dset_ne (by omega), dset_ne (by omega), dset_ne (by omega), dset_ne (by omega)]
  · rw [dset_ne (by omega), dset_ne (by omega), dset_ne (by omega), dset_ne (by omega), dset_eq]
  · rw [dset_ne (by omega), dset_ne (by omega), dset_ne (by omega), dset_eq]
  · rw [dset_ne (by omega), dset_ne (by omega), dset_eq]
  · rw [dset_ne (by omega), dset_eq]
  · rw [dset_ne (by omega), dset_ne (by omega), dset_ne (by omega), dset_ne (by omega), dset_ne (by omega)]
  · rw [dset_ne (by omega), dset_ne (by omega), dset_ne (by omega), dset_ne (by omega), dset_ne (by omega)]
  · rw [dset_ne (by omega), dset_ne (by omega), dset_ne (by omega), dset_ne (by omega), dset_ne (by omega)]
  · rw [dset_ne (by omega), dset_ne (by omega), dset_ne (by omega), dset_ne (by omega), dset_ne (by omega)]
  · funext q
    rw [dset_ne (by omega), dset_ne (by omega), dset_ne (by omega), dset_ne (by omega), dset_ne (by omega)]
section STOPS
variable {b : Nat}
theorem way_lp {D : Lnd} {M : Mem} (hL : Lok D) (hC : LC b D M.1) {a c : Nat} (ha : a < 6) (hc : c < 6) : ∀ (d m r : Nat), r + d = lR D → d < m → fX1_wayToNextStop_30 b (nI c) (nI a) M (some (-9)) m (nI r) = some (encO (fj (jn (D 2) (D 3) a c) d r))
  | _, 0, _, _, h => by omega
  | 0, m + 1, r, h1, _ => by
    unfold fX1_wayToNextStop_30
    rw [hC.2.1, if_pos (by rw [← h1]; exact Int32.le_refl _)]; rfl
  | d + 1, m + 1, r, h1, h2 => by
    have hT := hL.1
    have hRn := hL.2.1
    have hr : r < lR D := by omega
    have hR := lRT hL hr
    obtain ⟨p1, p2, -⟩ := hC.2.2.2.2.1 r hr
    have ih := way_lp hL hC ha hc d m (r + 1) (by omega) (by omega)
    have ef : ∀ x y : Nat, x < 100 → y < 100 → (nI x = nI y ↔ x = y) := fun x y h1 h2 => nI_eq (by omega) (by omega)
    have l2 : ld (M.1 (b + 2)) 10 (nI r) = some (nI (D 2 r)) := by rw [ld_at (by omega) (by omega), p1]
    have l3 : ld (M.1 (b + 3)) 10 (nI r) = some (nI (D 3 r)) := by rw [ld_at (by omega) (by omega), p2]
    unfold fX1_wayToNextStop_30
    rw [hC.2.1, if_neg (nI_ge hr (by omega)), l2, l3]
    simp only [bndp, nI_1]
    rw [ih]
    have eg : fj (jn (D 2) (D 3) a c) (d + 1) r = if jn (D 2) (D 3) a c r = true then some r else fj (jn (D 2) (D 3) a c) d (r + 1) := rfl
    rw [eg]
    unfold jn
    simp only [decide_eq_true_eq, ef _ _ (show D 2 r < 100 by omega) (show a < 100 by omega), ef _ _ (show D 2 r < 100 by omega) (show c < 100 by omega), ef _ _ (show D 3 r < 100 by omega) (show a < 100 by omega), ef _ _ (show D 3 r < 100 by omega) (show c < 100 by omega)]
    by_cases z1 : D 2 r = a
    · by_cases z2 : D 3 r = c
      · rw [if_pos z1, if_pos z2, if_pos (Or.inl ⟨z1, z2⟩)]; rfl
      · rw [if_pos z1, if_neg z2]
        by_cases z3 : D 2 r = c
        · by_cases z4 : D 3 r = a
          · rw [if_pos z3, if_pos z4, if_pos (Or.inr ⟨z3, z4⟩)]; rfl
          · rw [if_pos z3, if_neg z4, if_neg (by rintro (w | w) <;> omega)]
        · rw [if_neg z3, if_neg (by rintro (w | w) <;> omega)]
    · rw [if_neg z1]
      by_cases z3 : D 2 r = c
      · by_cases z4 : D 3 r = a
        · rw [if_pos z3, if_pos z4, if_pos (Or.inr ⟨z3, z4⟩)]; rfl
        · rw [if_pos z3, if_neg z4, if_neg (by rintro (w | w) <;> omega)]
      · rw [if_neg z3, if_neg (by rintro (w | w) <;> omega)]
abbrev fst0 (D : Lnd) (v : Nat) : Option Nat := fj (jn (D 2) (D 3) (D 5 (lS D - 1)) v) (lR D) 0
theorem c_way {D : Lnd} {M : Mem} (hL : Lok D) (hC : LC b D M.1) {v : Nat} (hv : v < lT D) : fX1_wayToNextStop b (nI v) M = some (if lS D = 0 then -9 else encO (fst0 D v)) := by
  have hT := hL.1
  have hS := hL.2.2.1
  unfold fX1_wayToNextStop
  rw [c_isStop hC.2.2.1, hC.2.2.1, bnd]
  by_cases z : lS D = 0
  · rw [if_pos (show bad (lS D) (nI (lS D) - 1) from bad_m1 (by omega) z _), if_pos rfl, if_pos z]
  · have e1 : nI (lS D) - 1 = nI (lS D - 1) := by rw [i1, pk_sub (by omega)]
    have h5 := (hL.2.2.2.2.2.1 (lS D - 1) (by omega)).1
    rw [e1, if_neg (nbad_j (by omega) (by omega)), if_neg n10, if_neg z, ld_at (by omega) (by omega), (hC.2.2.2.2.2.1 (lS D - 1) (by omega)).1, bnd]
    have := way_lp hL hC (a := D 5 (lS D - 1)) (c := v) (by omega) (by omega) (lR D) mF 0 (by omega) (by unfold mF; have := hL.2.1; omega)
    rw [nI_0] at this
    exact this
theorem c_canStop {D : Lnd} {M : Mem} (hL : Lok D) (hC : LC b D M.1) {v : Nat} (hv : v < lT D) : fX1_canStopNext b (nI v) M = some (if lS D = 0 ∨ (fst0 D v).isSome = true then (1 : Int32) else 0) := by
  have hT := hL.1
  have hS := hL.2.2.1
  unfold fX1_canStopNext
  rw [c_isTown hC.1, if_neg (nbad_j (by omega) hv), bnd, if_neg n10, hC.2.2.1, c_way hL hC hv, bnd]
  by_cases z : lS D = 0
  · rw [if_pos (show nI (lS D) = 0 by rw [z]; rfl), if_pos (Or.inl z)]
  · rw [if_neg (nI_ne0 (by omega) (by omega)), if_neg z]
    cases e : fst0 D v with
    | none => rw [show encO none = -9 from rfl, if_pos rfl, if_neg (show ¬ (lS D = 0 ∨ (none : Option Nat).isSome = true) from fun w => w.elim z (fun w => by cases w))]
    | some g =>
      have hg := (fj_some _ _ _ e).2.1
      have hR := hL.2.1
      rw [show encO (some g) = nI g from rfl, if_neg (nI_m9 (by omega)), if_pos (show lS D = 0 ∨ (some g).isSome = true from Or.inr rfl)]
theorem add_stop (hb : isL b) {D : Lnd} {M : Mem} (hL : Lok D) (hF : Lfst D) (hC : LC b D M.1) (q : lS D < 10) {v1 v2 : Nat} (hv1 : v1 < lT D) (hv2 : v2 ≤ 9) (hq : lS D = 0 ∨ ∃ g, fst0 D v1 = some g) : ∃ D' M', fX1_addStop b (nI v1) (nI v2) M = some M' ∧ cF b M M' ∧ M'.1 1 = M.1 1 ∧ LC b D' M'.1 ∧ Lok D' ∧ Lfst D' ∧ lT D' = lT D ∧ lR D' = lR D ∧ lS D' = lS D + 1 ∧ D' 5 (lS D) = v1 ∧ D' 6 (lS D) = v2 ∧ (∀ k, k ≠ lS D → D' 5 k = D 5 k ∧ D' 6 k = D 6 k) ∧ (∀ p, 1 ≤ p → p ≤ 4 → D' p = D p) := by
  have hT := hL.1
  have hRn := hL.2.1
  have hb3 : 3 ≤ b := by rcases hb with rfl | rfl <;> omega
  have e6 : M.1 b 6 = nI (lS D) := hC.2.2.1
  have core : ∀ (cm rd : Nat) (x2 : Int32), cm ≤ 39 * lS D → (0 < lS D → x2 = nI rd ∧ rd < lR D ∧ ((D 2 rd = D 5 (lS D - 1) ∧ D 3 rd = v1) ∨ (D 2 rd = v1 ∧ D 3 rd = D 5 (lS D - 1))) ∧ cm = D 7 (lS D - 1) + D 6 (lS D - 1) + D 4 rd ∧ ∀ r, r < rd → jn (D 2) (D 3) (D 5 (lS D - 1)) v1 r = false) → ∃ D' : Lnd, LC b D' (ms (ms (ms (ms (ms M (b + 5) (lS D) (nI v1)) (b + 6) (lS D) (nI v2)) (b + 8) (lS D) x2) (b + 7) (lS D) (nI cm)) b 6 (nI (lS D + 1))).1 ∧ Lok D' ∧ Lfst D' ∧ lT D' = lT D ∧ lR D' = lR D ∧ lS D' = lS D + 1 ∧ D' 5 (lS D) = v1 ∧ D' 6 (lS D) = v2 ∧ (∀ k, k ≠ lS D → D' 5 k = D 5 k ∧ D' 6 k = D 6 k) ∧ (∀ p, 1 ≤ p → p ≤ 4 → D' p = D p) := by
    intro cm rd x2 hcm hS
    obtain ⟨D', d0, d1, d2, d3, d4, d5, d6, d7, d8⟩ := stop_ext D v1 v2 cm rd
    refine ⟨D', ?_, ?_, ?_, d0, d1, d2, d3, d4, fun k hk => ⟨(d7 k hk).1, (d7 k hk).2.1⟩, d8⟩
    · obtain ⟨c1, c2, c3, c4, c5, c6, c7⟩ := hC
      refine ⟨?_, ?_, by rw [d2, ms_eq], fun i hi => ?_, fun r hr => ?_, fun k hk => ?_, fun k hk => ?_⟩
      · rw [d0, ms_ne (by omega), ms_ne (by omega), ms_ne (by omega), ms_ne (by omega), ms_ne (by omega)]; exact c1
      · rw [d1, ms_ne (by omega), ms_ne (by omega), ms_ne (by omega), ms_ne (by omega), ms_ne (by omega)]; exact c2
      · rw [d0] at hi
        rw [d8 1 (by omega) (by omega), ms_ne (by omega), ms_ne (by omega), ms_ne (by omega), ms_ne (by omega), ms_ne (by omega)]; exact c4 i hi
      · rw [d1] at hr
        obtain ⟨z1, z2, z3⟩ := c5 r hr
        rw [d8 2 (by omega) (by omega), d8 3 (by omega) (by omega), d8 4 (by omega) (by omega)]
        refine ⟨?_, ?_, ?_⟩ <;> rw [ms_ne (by omega), ms_ne (by omega), ms_ne (by omega), ms_ne (by omega), ms_ne (by omega)] <;> assumption
      · rw [d2] at hk
        by_cases z : k = lS D
        · rw [z, d3, d4, d5]
          refine ⟨?_, ?_, ?_⟩
          · rw [ms_ne (by omega), ms_ne (by omega), ms_ne (by omega), ms_ne (by omega), ms_eq]
          · rw [ms_ne (by omega), ms_ne (by omega), ms_ne (by omega), ms_eq]
          · rw [ms_ne (by omega), ms_eq]
        · obtain ⟨y1, y2, y3, y4⟩ := d7 k z
          obtain ⟨z1, z2, z3⟩ := c6 k (by omega)
          rw [y1, y2, y3]
          refine ⟨?_, ?_, ?_⟩ <;> rw [ms_ne (by omega), ms_ne (by omega), ms_ne (by omega), ms_ne (by omega), ms_ne (by omega)] <;> assumption
      · rw [d2] at hk
        by_cases z : k + 1 = lS D
        · rw [z, d6, ms_ne (by omega), ms_ne (by omega), ms_eq]
          exact (hS (by omega)).1
        · rw [(d7 (k + 1) z).2.2.2, ms_ne (by omega), ms_ne (by omega), ms_ne (by omega), ms_ne (by omega), ms_ne (by omega)]
          exact c7 k (by omega)
    · refine ⟨by rw [d0]; exact hT, by rw [d1]; exact hRn, by rw [d2]; omega, fun i hi => ?_, fun r hr => ?_, fun k hk => ?_, fun k hk => ?_⟩
      · rw [d0] at hi; rw [d8 1 (by omega) (by omega)]; exact hL.2.2.2.1 i hi
      · rw [d1] at hr
        rw [d8 2 (by omega) (by omega), d8 3 (by omega) (by omega), d8 4 (by omega) (by omega), d0]; exact lRT hL hr
      · rw [d2] at hk
        by_cases z : k = lS D
        · rw [z, d3, d4, d5, d0]; exact ⟨hv1, hv2, hcm⟩
        · obtain ⟨y1, y2, y3, y4⟩ := d7 k z
          rw [y1, y2, y3, d0]; exact hL.2.2.2.2.2.1 k (by omega)
      · rw [d2] at hk
        rw [d8 2 (by omega) (by omega), d8 3 (by omega) (by omega), d8 4 (by omega) (by omega), d1]
        by_cases z : k + 1 = lS D
        · obtain ⟨y1, y2, y3, y4⟩ := d7 k (by omega)
          obtain ⟨x1, x3, x4, x5, x6⟩ := hS (by omega)
          rw [show lS D - 1 = k by omega] at x4 x5
          rw [z, d6, d3, d5, y1, y2, y3]
          exact ⟨x3, x4, x5⟩
        · obtain ⟨y1, y2, y3, y4⟩ := d7 k (by omega)
          obtain ⟨z1, z2, z3, z4⟩ := d7 (k + 1) z
          rw [y1, y2, y3, z1, z3, z4]; exact hL.2.2.2.2.2.2 k (by omega)
    · intro k hk r hr
      rw [d2] at hk
      rw [d8 2 (by omega) (by omega), d8 3 (by omega) (by omega)]
      by_cases z : k + 1 = lS D
      · obtain ⟨y1, y2, y3, y4⟩ := d7 k (by omega)
        obtain ⟨x1, x3, x4, x5, x6⟩ := hS (by omega)
        rw [z, d6] at hr
        rw [z, d3, y1]
        have := x6 r hr
        rw [show lS D - 1 = k by omega] at this
        exact this
      · obtain ⟨y1, y2, y3, y4⟩ := d7 k (by omega)
        obtain ⟨z1, z2, z3, z4⟩ := d7 (k + 1) z
        rw [z4] at hr
        rw [y1, z1]; exact hF k (by omega) r hr
  have frame : ∀ (x2 cm : Int32), cF b M (ms (ms (ms (ms (ms M (b + 5) (lS D) (nI v1)) (b + 6) (lS D) (nI v2)) (b + 8) (lS D) x2) (b + 7) (lS D) cm) b 6 (nI (lS D + 1))) ∧ (ms (ms (ms (ms (ms M (b + 5) (lS D) (nI v1)) (b + 6) (lS D) (nI v2)) (b + 8) (lS D) x2) (b + 7) (lS D) cm) b 6 (nI (lS D + 1))).1 1 = M.1 1 := fun x2 cm => ⟨((((cF.put hb _ _ _ (by omega)).trans (cF.put hb _ _ _ (by omega))).trans (cF.put hb _ _ _ (by omega))).trans (cF.put hb _ _ _ (by omega))).trans (cF.put hb _ _ _ (by omega)), by rw [ms_row (by omega), ms_row (by omega), ms_row (by omega), ms_row (by omega), ms_row (by omega)]⟩
  unfold fX1_addStop
  rw [e6, if_pos (show nI (lS D) < 10 from nI_lt (b := 10) q (by omega)), c_way hL hC hv1, bnd, sta_at q (by omega), bnd, ms_ne (by omega), e6, sta_at q (by omega), bnd, ms_ne (by omega), ms_ne (by omega), e6, sta_at q (by omega), bnd]
  have isR : ∀ x : Int32, fX1_isRoad b x (ms (ms (ms M (b + 5) (lS D) (nI v1)) (b + 6) (lS D) (nI v2)) (b + 8) (lS D) (if lS D = 0 then -9 else encO (fst0 D v1))) = some (if bad (lR D) x then (0 : Int32) else 1) := fun x => c_isRoad (by rw [ms_ne (by omega), ms_ne (by omega), ms_ne (by omega)]; exact hC.2.1) x
  have isS : ∀ x : Int32, fX1_isStop b x (ms (ms (ms M (b + 5) (lS D) (nI v1)) (b + 6) (lS D) (nI v2)) (b + 8) (lS D) (if lS D = 0 then -9 else encO (fst0 D v1))) = some (if bad (lS D) x then (0 : Int32) else 1) := fun x => c_isStop (by rw [ms_ne (by omega), ms_ne (by omega), ms_ne (by omega)]; exact e6) x
  rw [isR, bnd, ms_ne (by omega), ms_ne (by omega), ms_ne (by omega), e6, isS, bnd]
  by_cases z : lS D = 0
  · rw [if_pos z, if_pos (bad_m9 _), if_pos rfl, sta_at q (by omega), bnd, bnd, ms_ne (by omega), ms_ne (by omega), ms_ne (by omega), ms_ne (by omega), e6, nI_1]
    obtain ⟨D', g⟩ := core 0 0 (-9) (by omega) (fun h => by omega)
    obtain ⟨f1, f2⟩ := frame (-9) 0
    exact ⟨D', _, rfl, f1, f2, g⟩
  · obtain ⟨g, hg⟩ := hq.resolve_left z
    obtain ⟨g1, g2, g3, g4⟩ := fj_some _ _ _ hg
    have hgR : g < lR D := by omega
    have hm := hL.2.2.2.2.2.1 (lS D - 1) (by omega)
    have hRr := lRT hL hgR
    have hcs := hC.2.2.2.2.2.1 (lS D - 1) (by omega)
    have e1 : nI (lS D) - 1 = nI (lS D - 1) := by rw [i1, pk_sub (by omega)]
    rw [if_neg z, hg, show encO (some g) = nI g from rfl, if_neg (nbad_j (by omega) hgR), if_neg n10, e1, if_neg (nbad_j (by omega) (by omega)), if_neg n10]
    have lv : fX1_leaves b (nI (lS D - 1)) (ms (ms (ms M (b + 5) (lS D) (nI v1)) (b + 6) (lS D) (nI v2)) (b + 8) (lS D) (nI g)) = some (nI (D 7 (lS D - 1) + D 6 (lS D - 1))) := by
      rw [if_neg z, hg, show encO (some g) = nI g from rfl] at isS
      unfold fX1_leaves
      rw [isS, if_neg (nbad_j (by omega) (by omega)), bnd, if_neg n10, ld_at (by omega) (by omega), ms_ne (by omega), ms_ne (by omega), ms_ne (by omega), hcs.2.2, bnd, ld_at (by omega) (by omega), ms_ne (by omega), ms_ne (by omega), ms_ne (by omega), hcs.2.1, bnd, nI_add]
    rw [lv, bnd, ld_at (by omega) (by omega), ms_ne (by omega), ms_ne (by omega), ms_ne (by omega), (hC.2.2.2.2.1 g hgR).2.2, bnd, nI_add, sta_at q (by omega), bnd, bnd, ms_ne (by omega), ms_ne (by omega), ms_ne (by omega), ms_ne (by omega), e6, nI_1]
    have hjn : (D 2 g = D 5 (lS D - 1) ∧ D 3 g = v1) ∨ (D 2 g = v1 ∧ D 3 g = D 5 (lS D - 1)) := of_decide_eq_true g3
    obtain ⟨D', k⟩ := core (D 7 (lS D - 1) + D 6 (lS D - 1) + D 4 g) g (nI g) (by omega) (fun _ => ⟨rfl, hgR, hjn, rfl, fun r hr => g4 r (by omega) hr⟩)
    obtain ⟨f1, f2⟩ := frame (nI g) (nI (D 7 (lS D - 1) + D 6 (lS D - 1) + D 4 g))
    exact ⟨D', _, rfl, f1, f2, k⟩
def stail (r18 : Int32) (x : Int32 × Mem) : Option Mem := Option.bind (sta x.2 4 20 ((10 : Int32) + r18) x.1) fun M5 => (Option.bind (fX5_number (0 : Int32) (9 : Int32) M5) fun x6 => (Option.bind (sta x6.2 5 20 ((10 : Int32) + (M5.1 0 18)) x6.1) fun M7 => (Option.bind (some (ms M7 0 18 ((M7.1 0 18) + (1 : Int32)))) fun M8 => some M8)))
theorem readsItem2 (J : Mem) : fX5_readsItem 2 J = if (J.1 0 5) = (2 : Int32) then (Option.bind (fX5_in (J.1 0 7) (0 : Int32) ((J.1 0 16) - (1 : Int32))) fun x9 => (if x9 = 0 then (Option.bind (fX5_takes (0 : Int32) J) fun x => stail (J.1 0 18) x) else (if (J.1 0 18) = 0 then (Option.bind (fX5_takes (1 : Int32) J) fun x => stail (J.1 0 18) x) else (Option.bind (ld (J.1 4) 20 ((9 : Int32) + (J.1 0 18))) fun x22 => (Option.bind (fX5_roadOf (30 : Int32) (J.1 0 17) x22 (J.1 0 7) J) fun x23 => (if x23 = (-9 : Int32) then (Option.bind (fX5_takes (0 : Int32) J) fun x => stail (J.1 0 18) x) else (Option.bind (fX5_takes (1 : Int32) J) fun x => stail (J.1 0 18) x))))))) else (Option.bind (fX5_takes (0 : Int32) J) fun x => stail (J.1 0 18) x) := by
  unfold fX5_readsItem
  rw [if_neg n20, if_neg n21]
  rfl
theorem stail_ill {S f : Nat} (hS : S < 10) (hf : f ≤ 300) {y : Int32} {J : Mem} (h : J.1 0 8 = nI f) (h18 : J.1 0 18 = nI S) : ∃ J', stail (nI S) (y, J) = some J' ∧ rF J J' ∧ J'.1 0 8 = nI f := by
  have p0 : (10 : Int32) + nI S = nI (10 + S) := by rw [show (10 : Int32) = nI 10 from rfl, nI_add]
  have h2 : (ms J 4 (10 + S) y).1 0 8 = nI f := by rw [ms_ne (by omega)]; exact h
  unfold stail
  dsimp only
  rw [p0, sta_at (by omega) (by omega), bnd, num_ill hf h2, bnd]
  dsimp only
  rw [ms_ne (by omega), h18, p0, sta_at (by omega) (by omega), bnd, bnd]
  refine ⟨_, rfl, ((rF.put _ _ _ (by omega)).trans (rF.put _ _ _ (by omega))).trans (rF.put _ _ _ (by omega)), ?_⟩
  rw [ms_ne (by omega), ms_ne (by omega)]; exact h2
theorem r_dOk {tx : Nat → Nat} {n : Nat} {D : Lnd} {J : Mem} {e : Nat} (hL : Lok D) (hR : LRd D J) (hy : TXr tx n J) (he : e ≤ n) (h : TKr tx n e J) (hw : J.1 0 8 = -1) (q : lS D < 10) (hx : tB tx n e ≤ 300) : if okn tx n e 0 (nI (lT D) - 1) ∧ (lS D = 0 ∨ (fst0 D (tV tx n e)).isSome = true) then ∃ J', fX5_readsItem 2 J = stail (nI (lS D)) (nI (tV tx n e), J') ∧ kr J J' ∧ TKr tx n (tE tx n e) J' else ∃ J', fX5_readsItem 2 J = some J' ∧ rF J J' ∧ J'.1 0 8 = nI (tB tx n e) := by
  have hT := hL.1
  have hRn := hL.2.1
  have hk := tK_le tx n e
  have hr := rk_in _ hk
  obtain ⟨r1, r2, r3, r4, r5, r6⟩ := hR
  have h8 : (ms J 0 8 (nI (tB tx n e))).1 0 8 = nI (tB tx n e) := ms_eq _ _ _ _
  obtain ⟨Jb, b1, b2, b3⟩ := stail_ill q hx (y := 0) h8 (by rw [ms_ne (by omega)]; exact r3)
  have t0 : (Option.bind (fX5_takes (0 : Int32) J) fun x => stail (nI (lS D)) x) = some Jb := by rw [take0 hw, bnd, h.2.1]; exact b1
  have bad : fX5_readsItem 2 J = some Jb → ∃ J', fX5_readsItem 2 J = some J' ∧ rF J J' ∧ J'.1 0 8 = nI (tB tx n e) := fun g => ⟨Jb, g, (rF.put 0 8 _ (by omega)).trans b2, b3⟩
  obtain ⟨J1, u1, u2, u3⟩ := take1 hy he h hw
  have t1 : (Option.bind (fX5_takes (1 : Int32) J) fun x => stail (nI (lS D)) x) = stail (nI (lS D)) (J.1 0 7, J1) := by rw [u1, bnd]
  rw [readsItem2, r1, r3, t0, t1] at bad
  rw [readsItem2, r1, r3, t0, t1]
  by_cases c : tK tx n e = 4
  · rw [if_pos (show J.1 0 5 = 2 by rw [h.1, hr.2.2.2.1.mpr c]; rfl)] at bad ⊢
    have h7 := h.2.2.2.1 c
    rw [h7] at bad ⊢
    by_cases d : nI (tV tx n e) < 0 ∨ nI (lT D) - 1 < nI (tV tx n e)
    · rw [fX5_in_no d, bnd, if_pos rfl] at bad ⊢
      rw [if_neg (fun z => d.elim z.1.2.1 z.1.2.2)]
      exact bad rfl
    · have ok : okn tx n e 0 (nI (lT D) - 1) := ⟨c, fun z => d (Or.inl z), fun z => d (Or.inr z)⟩
      have hv := tV_99 c
      have hl := ok_pred (show lT D < 2 ^ 30 by omega) (show tV tx n e < 2 ^ 31 by omega) ok.2.2
      rw [fX5_in_yes ok.2.1 ok.2.2, bnd, if_neg n10] at bad ⊢
      by_cases s : lS D = 0
      · rw [if_pos (show nI (lS D) = 0 by rw [s]; rfl), if_pos ⟨ok, Or.inl s⟩]
        exact ⟨J1, rfl, u2, u3⟩
      · rw [if_neg (nI_ne0 (by omega) (by omega))] at bad ⊢
        have p9 : (9 : Int32) + nI (lS D) = nI (10 + (lS D - 1)) := by rw [show (9 : Int32) = nI 9 from rfl, nI_add]; congr 1; omega
        have h5 := (hL.2.2.2.2.2.1 (lS D - 1) (by omega)).1
        have hro := r_roadOf (J := J) (B := 30) (N := lR D) (P := D 2) (Q := D 3) (a := D 5 (lS D - 1)) (c := tV tx n e) (by omega) (fun r hr => by
          have b := lRT hL hr
          exact ⟨(r5 r hr).1, (r5 r hr).2.1, by omega, by omega⟩) (by omega) (by omega)
        rw [p9, ld_at (by omega) (by omega), (r6 (lS D - 1) (by omega)).1, bnd, r2, show (30 : Int32) = nI 30 from rfl, hro, bnd] at bad ⊢
        cases ef : fj (jn (D 2) (D 3) (D 5 (lS D - 1)) (tV tx n e)) (lR D) 0 with
        | none =>
          rw [ef, show encO none = -9 from rfl, if_pos rfl] at bad
          rw [show encO none = -9 from rfl, if_pos rfl, if_neg (show ¬ (okn tx n e 0 (nI (lT D) - 1) ∧ (lS D = 0 ∨ (fst0 D (tV tx n e)).isSome = true)) from fun z => z.2.elim s (fun w => by rw [show fst0 D (tV tx n e) = none from ef] at w; cases w))]
          exact bad rfl
        | some g =>
          have hg := (fj_some _ _ _ ef).2.1
          rw [show encO (some g) = nI g from rfl, if_neg (nI_m9 (by omega)), if_pos (show okn tx n e 0 (nI (lT D) - 1) ∧ (lS D = 0 ∨ (fst0 D (tV tx n e)).isSome = true) from ⟨ok, Or.inr (by rw [show fst0 D (tV tx n e) = some g from ef]; rfl)⟩)]
          exact ⟨J1, rfl, u2, u3⟩
  · rw [if_neg (show ¬ J.1 0 5 = 2 from fun z => c (hr.2.2.2.1.mp (nIe (b := 2) (h.1.symm.trans z) (by omega) (by omega))))] at bad ⊢
    rw [if_neg (fun z => c z.1.1)]
    exact bad rfl
theorem it_stop {tx : Nat → Nat} {n : Nat} (hb : isL b) {K : Int32 → Mem → Option (Int32 × Mem)} {m e : Nat} {D : Lnd} {M J : Mem} (h : ST tx n b e D M J) (hk : tK tx n e = 3) : Itm tx n b (lT D + lR D + lS D) M J (fX3_readStop b M) (fun J' => fX5_land_36 K (m + 1) (nI (lT D + lR D + lS D)) J = fX5_land_36 K m (nI (lT D + lR D + lS D + 1)) J') := by
  obtain ⟨he, hx, hy, hc, hr, hw, hL, hF, hC, hR⟩ := h
  have hT := hL.1
  have hSn := hL.2.2.1
  have hb3 : 3 ≤ b := by rcases hb with rfl | rfl <;> omega
  have hk5 : J.1 0 5 = 1 := by rw [hr.1, hk]; rfl
  have hk7 : J.1 0 7 = 2 := by rw [hr.2.2.2.2 (by omega), hk]; rfl
  have he1 := (tE_le (tx := tx) he).2
  have he2 := (tE_le (tx := tx) he1).2
  have he3 := (tE_le (tx := tx) he2).2
  unfold fX3_readStop
  rw [hC.2.2.1]
  by_cases q : lS D < 10
  · rw [if_pos (show nI (lS D) < 10 from nI_lt (b := 10) q (by omega))]
    obtain ⟨J1, t1, t2, t3⟩ := take1 hy he hr hw
    have go1 : fX5_land_36 K (m + 1) (nI (lT D + lR D + lS D)) J = tl1 K m (nI (lT D + lR D + lS D)) 2 J1 := by
      rw [land_good hw hk5 (Or.inr (Or.inr ⟨by rw [hk7]; decide, by rw [hk7]; decide, by rw [hR.2.2.1]; exact nI_ge (b := 10) q (by omega)⟩)), t1, bnd, hk7]
    obtain ⟨M1, a1, a2, a3⟩ := c_rnum hx he hc 0 (nI (lT D) - 1)
    have hw1 : J1.1 0 8 = -1 := (t2.2.1 8 (by omega)).trans hw
    have hR1 := hR.kr t2
    have hy1 := hy.kr t2
    have go2 : tl1 K m (nI (lT D + lR D + lS D)) 2 J1 = Option.bind (fX5_readsItem 2 J1) fun J2 => tlf K m (nI (lT D + lR D + lS D)) J2 := by
      unfold tl1
      rw [r_well hw1, bnd, if_neg n10]
    rw [go2] at go1
    have dOk := r_dOk hL hR1 hy1 he1 t3 hw1 q (tB_300 hx he1)
    have hx1 := hx.kc a2
    have hC1 := hC.kc hb a2
    rw [hC.1, a1, bnd]
    by_cases o1 : okn tx n (tE tx n e) 0 (nI (lT D) - 1)
    · rw [if_pos o1]
      have hv1 := tV_99 o1.1
      have hl1 := ok_pred (show lT D < 2 ^ 30 by omega) (show tV tx n (tE tx n e) < 2 ^ 31 by omega) o1.2.2
      have hm1 := a3.2.2.2 o1.1
      dsimp only
      rw [if_neg n10, hm1, c_canStop hL hC1 hl1, bnd]
      by_cases o2 : lS D = 0 ∨ (fst0 D (tV tx n (tE tx n e))).isSome = true
      · rw [if_pos ⟨o1, o2⟩] at dOk
        rw [if_pos o2, if_neg n10]
        obtain ⟨J2, s1, s2, s3⟩ := dOk
        have hR2 := hR1.kr s2
        have hy2 := hy1.kr s2
        have hw2 : J2.1 0 8 = -1 := (s2.2.1 8 (by omega)).trans hw1
        rw [s1] at go1
        generalize tV tx n (tE tx n e) = v1 at go1 hv1 hl1 hm1 o2 ⊢
        obtain ⟨M2, b1, b2, b3⟩ := c_rnum hx1 he1 a3 0 9
        have hx2 := hx1.kc b2
        rw [b1, bnd]
        have p0 : (10 : Int32) + nI (lS D) = nI (10 + lS D) := by rw [show (10 : Int32) = nI 10 from rfl, nI_add]
        have hw3 : (ms J2 4 (10 + lS D) (nI v1)).1 0 8 = -1 := by rw [ms_ne (by omega)]; exact hw2
        have f3 : rF J (ms J2 4 (10 + lS D) (nI v1)) := (t2.trans s2).rF.trans (rF.put _ _ _ (by omega))
        have tk3 : TKr tx n (tE tx n (tE tx n e)) (ms J2 4 (10 + lS D) (nI v1)) := s3.congr (fun j g1 g2 => ms_ne (by omega))
        have num := r_num (hy.rF f3) he2 tk3 hw3 0 9
        unfold stail at go1
        dsimp only at go1
        rw [p0, sta_at (by omega) (by omega), bnd, ms_ne (by omega), hR2.2.2.1, p0] at go1
        by_cases o3 : okn tx n (tE tx n (tE tx n e)) 0 9
        · rw [if_pos o3] at num ⊢
          obtain ⟨J4, x1, x2, x3⟩ := num
          have hhi : tV tx n (tE tx n (tE tx n e)) < 10 := ok_pred (T := 10) (by omega) (by have := tV_99 o3.1; omega) o3.2.2
          have hm2 := b3.2.2.2 o3.1
          dsimp only
          rw [if_neg n10, hm2]
          generalize tV tx n (tE tx n (tE tx n e)) = v2 at x1 hhi hm2 ⊢
          rw [x1, bnd] at go1
          dsimp only at go1
          have e18 : J4.1 0 18 = nI (lS D) := by rw [x2.2.1 18 (by omega), ms_ne (by omega)]; exact hR2.2.2.1
          rw [sta_at (by omega) (by omega), bnd, bnd, ms_ne (by omega), e18, nI_1, bnd] at go1
          obtain ⟨M3, g1, g2⟩ := c_semi hx2 he2 b3
          have kk := (a2.trans b2).trans g1
          have hC3 := hC.kc hb kk
          have f5 : rF J (ms (ms J4 5 (10 + lS D) (nI v2)) 0 18 (nI (lS D + 1))) := ((f3.trans x2.rF).trans (rF.put _ _ _ (by omega))).trans (rF.put _ _ _ (by omega))
          have hw5 : (ms (ms J4 5 (10 + lS D) (nI v2)) 0 18 (nI (lS D + 1))).1 0 8 = -1 := by
            rw [ms_ne (by omega), ms_ne (by omega), x2.2.1 8 (by omega)]; exact hw3
          have tk5 : TKr tx n (tE tx n (tE tx n (tE tx n e))) (ms (ms J4 5 (10 + lS D) (nI v2)) 0 18 (nI (lS D + 1))) := x3.congr (fun j g1 g2 => by rw [ms_ne (by omega), ms_ne (by omega)])
          have semi := tlf_semi (K := K) (m := m) (v := nI (lT D + lR D + lS D)) (hy.rF f5) he3 tk5 hw5
          by_cases c : tK tx n (tE tx n (tE tx n (tE tx n e))) = 5
          · rw [if_pos c] at semi g2
            obtain ⟨J6, y1, y2, y3⟩ := semi
            obtain ⟨D', M4, z1, z2, z3, z4, z5, z6, z7, z8, z9, z10, z11, z12, z13⟩ := add_stop hb hL hF hC3 q hl1 (show v2 ≤ 9 by omega) (o2.imp id (fun w => Option.isSome_iff_exists.mp w))
            have hR5 : LRd D' (ms (ms J4 5 (10 + lS D) (nI v2)) 0 18 (nI (lS D + 1))) := by
              obtain ⟨r1, r2, r3, r4, r5, r6⟩ := hR2
              have j4 : ∀ p, p ≠ 0 → J4.1 p = (ms J2 4 (10 + lS D) (nI v1)).1 p := fun p hp => x2.1 p hp
              refine ⟨?_, ?_, by rw [z9, ms_eq], fun i hi => ?_, fun r hr => ?_, fun k hk => ?_⟩
              · rw [z7, ms_ne (by omega), ms_ne (by omega), x2.2.1 16 (by omega), ms_ne (by omega)]; exact r1
              · rw [z8, ms_ne (by omega), ms_ne (by omega), x2.2.1 17 (by omega), ms_ne (by omega)]; exact r2
              · rw [z7] at hi
                rw [z13 1 (by omega) (by omega), ms_ne (by omega), ms_ne (by omega), j4 2 (by omega), ms_ne (by omega)]; exact r4 i hi
              · rw [z8] at hr
                obtain ⟨w1, w2, w3⟩ := r5 r hr
                rw [z13 2 (by omega) (by omega), z13 3 (by omega) (by omega), z13 4 (by omega) (by omega)]
                refine ⟨?_, ?_, ?_⟩ <;> rw [ms_ne (by omega), ms_ne (by omega), j4 3 (by omega), ms_ne (by omega)] <;> assumption
              · rw [z9] at hk
                by_cases w : k = lS D
                · rw [w, z10, z11]
                  refine ⟨?_, ?_⟩
                  · rw [ms_ne (by omega), ms_ne (by omega), j4 4 (by omega), ms_eq]
                  · rw [ms_ne (by omega), ms_eq]
                · obtain ⟨w1, w2⟩ := z12 k w
                  obtain ⟨w3, w4⟩ := r6 k (by omega)
                  rw [w1, w2]
                  refine ⟨?_, ?_⟩
                  · rw [ms_ne (by omega), ms_ne (by omega), j4 4 (by omega), ms_ne (by omega)]; exact w3
                  · rw [ms_ne (by omega), ms_ne (by omega), j4 5 (by omega), ms_ne (by omega)]; exact w4
            rw [g2.1, bnd]
            dsimp only
            rw [if_neg n10, z1, bnd]
            exact ⟨M4, J6, kk.cF.trans z2, f5.trans y2.rF, go1.trans (by rw [y1, nI_1]), Or.inr ⟨_, D', rfl, ⟨(tE_le (tx := tx) he3).2, (hx.kc kk).cF hb z2, hy.rF (f5.trans y2.rF), g2.2.congr z3, y3, (y2.2.1 8 (by omega)).trans hw5, z5, z6, z4, hR5.kr y2⟩, by rw [z7, z8, z9]; omega⟩⟩
          · rw [if_neg c] at semi g2
            rw [g2.1, bnd]
            dsimp only
            rw [if_pos rfl]
            exact ⟨M3, _, kk.cF, f5.trans (rF.put 0 8 _ (by omega)), go1.trans (by rw [semi, nI_1]), Or.inl ⟨_, tB_300 hx he3, rfl, g2.2.2.1, ms_eq _ _ _ _⟩⟩
        · rw [if_neg o3] at num ⊢
          rw [num, bnd] at go1
          dsimp only at go1
          rw [sta_at (by omega) (by omega), bnd, bnd, bnd] at go1
          dsimp only
          rw [if_pos rfl]
          have ff : ∀ x : Int32, (ms (ms (ms (ms J2 4 (10 + lS D) (nI v1)) 0 8 (nI (tB tx n (tE tx n (tE tx n e))))) 5 (10 + lS D) 0) 0 18 x).1 0 8 = nI (tB tx n (tE tx n (tE tx n e))) := fun x => by rw [ms_ne (by omega), ms_ne (by omega), ms_eq]
          rw [tlf_ill (tB_300 hx he2) (ff _), nI_1] at go1
          exact ⟨M2, _, (a2.trans b2).cF, ((f3.trans (rF.put 0 8 _ (by omega))).trans (rF.put _ _ _ (by omega))).trans (rF.put _ _ _ (by omega)), go1, Or.inl ⟨_, tB_300 hx he2, rfl, b3.2.1, ff _⟩⟩
      · rw [if_neg (fun z => o2 z.2)] at dOk
        rw [if_neg o2, if_pos rfl]
        obtain ⟨J2, s1, s2, s3⟩ := dOk
        rw [s1, bnd, tlf_ill (tB_300 hx he1) s3, nI_1] at go1
        exact ⟨M1, J2, a2.cF, t2.rF.trans s2, go1, Or.inl ⟨_, tB_300 hx he1, rfl, a3.2.1, s3⟩⟩
    · rw [if_neg (fun z => o1 z.1)] at dOk
      rw [if_neg o1]
      dsimp only
      rw [if_pos rfl]
      obtain ⟨J2, s1, s2, s3⟩ := dOk
      rw [s1, bnd, tlf_ill (tB_300 hx he1) s3, nI_1] at go1
      exact ⟨M1, J2, a2.cF, t2.rF.trans s2, go1, Or.inl ⟨_, tB_300 hx he1, rfl, a3.2.1, s3⟩⟩
  · rw [if_neg (show ¬ nI (lS D) < 10 from nI_nlt (b := 10) (by omega) (by omega))]
    refine ⟨M, ms J 0 8 (nI (tB tx n e)), kc.cF (kc.refl M), rF.put _ _ _ (by omega), ?_, Or.inl ⟨tB tx n e, tB_300 hx he, rfl, hc.2.1, ms_eq _ _ _ _⟩⟩
    rw [land_bad (tB_300 hx he) hw (by rw [hk5]; decide) hr.2.1 (Or.inr (Or.inr (Or.inr ⟨by rw [hk7]; decide, by rw [hk7]; decide, by rw [hR.2.2.1]; exact nI_le (a := 10) (by omega) (by omega)⟩))), nI_1]
end STOPS
