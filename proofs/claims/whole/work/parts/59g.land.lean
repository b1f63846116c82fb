/-! the whole text, and the land taken over -/
theorem land_ill {K : Int32 → Mem → Option (Int32 × Mem)} {m f : Nat} {v : Int32} {J : Mem} (hf : f ≤ 300) (h : J.1 0 8 = nI f) : fX5_land_36 K (m + 1) v J = K v J := by
  show Option.bind (fX5_isWell J) _ = _
  rw [r_ill hf h, bnd, if_pos rfl]
theorem read_lp {tx : Nat → Nat} {n b : Nat} (hb : isL b) (K : Int32 → Mem → Option (Int32 × Mem)) : ∀ (d N m e : Nat) (D : Lnd) (M J : Mem), lT D + lR D + lS D + d = 27 → d < N → d + 1 < m → ST tx n b e D M J → ∃ M' J', cF b M M' ∧ rF J J' ∧ ((∃ (f : Nat) (w : Int32), f ≤ 300 ∧ fX3_readAll_15 b (fun y4 M5 => some (y4, M5)) N (nI (lT D + lR D + lS D)) M = some (-9, M') ∧ M'.1 1 4 = nI f ∧ J'.1 0 8 = nI f ∧ fX5_land_36 K m (nI (lT D + lR D + lS D)) J = K w J') ∨ (∃ (v : Nat) (D' : Lnd), v ≤ 26 ∧ fX3_readAll_15 b (fun y4 M5 => some (y4, M5)) N (nI (lT D + lR D + lS D)) M = some (nI v, M') ∧ fX5_land_36 K m (nI (lT D + lR D + lS D)) J = K (nI v) J' ∧ J'.1 0 8 = -1 ∧ Lok D' ∧ Lfst D' ∧ LC b D' M'.1 ∧ LRd D' J'))
  | d, 0, m, e, D, M, J, _, h, _, _ => by omega
  | d, N + 1, 0, e, D, M, J, _, _, h, _ => by omega
  | d, N + 1, m + 1, e, D, M, J, h1, h2, h3, hs => by
    have hs0 := hs
    obtain ⟨he, hx, hy, hc, hr, hw, hL, hF, hC, hR⟩ := hs
    have hT := hL.1
    have hRn := hL.2.1
    have hSn := hL.2.2.1
    have hk := tK_le tx n e
    have hrk := rk_in _ hk
    have kn : ∀ j : Nat, j < 100 → (M.1 1 2 = nI j ↔ tK tx n e = j) := fun j hj => by rw [hc.1]; exact nI_eq (by omega) (by omega)
    obtain ⟨m', rfl⟩ : ∃ m', m = m' + 1 := ⟨m - 1, by omega⟩
    unfold fX3_readAll_15
    by_cases c0 : tK tx n e = 0
    · rw [if_pos (show M.1 1 2 = 0 from (kn 0 (by omega)).mpr c0)]
      refine ⟨M, J, kc.cF (kc.refl M), rF.refl J, Or.inr ⟨lT D + lR D + lS D, D, by omega, rfl, ?_, hw, hL, hF, hC, hR⟩⟩
      show Option.bind (fX5_isWell J) _ = _
      rw [r_well hw, bnd, if_neg n10, if_pos (show J.1 0 5 = 0 by rw [hr.1, c0]; rfl)]
    rw [if_neg (show ¬ M.1 1 2 = 0 from fun z => c0 ((kn 0 (by omega)).mp z)), if_neg (show ¬ (300 : Int32) ≤ nI (lT D + lR D + lS D) from nI_ge (b := 300) (by omega) (by omega))]
    have cont : ∀ rd : Option (Int32 × Mem), Itm tx n b (lT D + lR D + lS D) M J rd (fun J' => fX5_land_36 K (m' + 1 + 1) (nI (lT D + lR D + lS D)) J = fX5_land_36 K (m' + 1) (nI (lT D + lR D + lS D + 1)) J') → ∃ M' J', cF b M M' ∧ rF J J' ∧ ((∃ (f : Nat) (w : Int32), f ≤ 300 ∧ (Option.bind rd fun x => (if x.1 = 0 then some ((-9 : Int32), x.2) else (fX3_readAll_15 b (fun y4 M5 => some (y4, M5)) N (nI (lT D + lR D + lS D) + 1) x.2))) = some (-9, M') ∧ M'.1 1 4 = nI f ∧ J'.1 0 8 = nI f ∧ fX5_land_36 K (m' + 1 + 1) (nI (lT D + lR D + lS D)) J = K w J') ∨ (∃ (v : Nat) (D' : Lnd), v ≤ 26 ∧ (Option.bind rd fun x => (if x.1 = 0 then some ((-9 : Int32), x.2) else (fX3_readAll_15 b (fun y4 M5 => some (y4, M5)) N (nI (lT D + lR D + lS D) + 1) x.2))) = some (nI v, M') ∧ fX5_land_36 K (m' + 1 + 1) (nI (lT D + lR D + lS D)) J = K (nI v) J' ∧ J'.1 0 8 = -1 ∧ Lok D' ∧ Lfst D' ∧ LC b D' M'.1 ∧ LRd D' J')) := by
      intro rd hi
      obtain ⟨M1, J1, f1, f2, f3, f4⟩ := hi
      rcases f4 with ⟨f, hf, g1, g2, g3⟩ | ⟨e', D', g1, g2, g3⟩
      · refine ⟨M1, J1, f1, f2, Or.inl ⟨f, nI (lT D + lR D + lS D + 1), hf, ?_, g2, g3, ?_⟩⟩
        · rw [g1, bnd]; rfl
        · exact f3.trans (land_ill hf g3)
      · have hT' := g2.2.2.2.2.2.2.1.1
        have hR' := g2.2.2.2.2.2.2.1.2.1
        have hS' := g2.2.2.2.2.2.2.1.2.2.1
        obtain ⟨d', rfl⟩ : ∃ d', d = d' + 1 := ⟨d - 1, by omega⟩
        obtain ⟨M2, J2, k1, k2, k3⟩ := read_lp hb K d' N (m' + 1) e' D' M1 J1 (by omega) (by omega) (by omega) g2
        rw [g3] at k3
        refine ⟨M2, J2, f1.trans k1, f2.trans k2, ?_⟩
        have er : (Option.bind rd fun x => (if x.1 = 0 then some ((-9 : Int32), x.2) else (fX3_readAll_15 b (fun y4 M5 => some (y4, M5)) N (nI (lT D + lR D + lS D) + 1) x.2))) = fX3_readAll_15 b (fun y4 M5 => some (y4, M5)) N (nI (lT D + lR D + lS D + 1)) M1 := by
          rw [g1, bnd]
          dsimp only
          rw [if_neg n10, nI_1]
        rcases k3 with ⟨f, w, p1, p2, p3, p4, p5⟩ | ⟨v, D2, p1, p2, p3, p4⟩
        · exact Or.inl ⟨f, w, p1, er.trans p2, p3, p4, f3.trans p5⟩
        · exact Or.inr ⟨v, D2, p1, er.trans p2, f3.trans p3, p4⟩
    by_cases c1 : tK tx n e = 1
    · rw [if_pos (show M.1 1 2 = 1 from (kn 1 (by omega)).mpr c1)]
      exact cont _ (it_town hb hs0 c1)
    rw [if_neg (show ¬ M.1 1 2 = 1 from fun z => c1 ((kn 1 (by omega)).mp z))]
    by_cases c2 : tK tx n e = 2
    · rw [if_pos (show M.1 1 2 = 2 from (kn 2 (by omega)).mpr c2)]
      exact cont _ (it_road hb hs0 c2)
    rw [if_neg (show ¬ M.1 1 2 = 2 from fun z => c2 ((kn 2 (by omega)).mp z))]
    by_cases c3 : tK tx n e = 3
    · rw [if_pos (show M.1 1 2 = 3 from (kn 3 (by omega)).mpr c3)]
      exact cont _ (it_stop hb hs0 c3)
    rw [if_neg (show ¬ M.1 1 2 = 3 from fun z => c3 ((kn 3 (by omega)).mp z))]
    have n0 : ¬ J.1 0 5 = 0 := fun z => c0 (hrk.2.1.mp (nIe (b := 0) (hr.1.symm.trans z) (by omega) (by omega)))
    have n1 : ¬ J.1 0 5 = 1 := fun z => by
      have := hrk.2.2.1.mp (nIe (b := 1) (hr.1.symm.trans z) (by omega) (by omega))
      omega
    refine ⟨M, ms J 0 8 (nI (tB tx n e)), kc.cF (kc.refl M), rF.put _ _ _ (by omega), Or.inl ⟨tB tx n e, nI (lT D + lR D + lS D) + 1, tB_300 hx he, rfl, hc.2.1, ms_eq _ _ _ _, ?_⟩⟩
    rw [land_bad (tB_300 hx he) hw n0 hr.2.1 (Or.inl n1)]
    exact land_ill (tB_300 hx he) (ms_eq _ _ _ _)
/-- a fault: the land told stays -/
theorem inv_fault {L : Lnd} {M M' J J' : Mem} (h : InvL L M J) (g : cF (lp (M.1 0 2)) M M') (r : rF J J') : InvL L M' J' := by
  obtain ⟨hL, hP, ⟨h3, h4⟩, ⟨h5, h6⟩, h7, h8, h9, h10, h11⟩ := h
  have hb := lp_le (M.1 0 2)
  have e0 : M'.1 0 = M.1 0 := g.1 0 (by omega) (Or.inl (by omega))
  have hrow : ∀ i, i ≤ 10 → M'.1 (lp (M.1 0 1) + i) = M.1 (lp (M.1 0 1) + i) := by
    intro i hi
    rcases hP with ⟨p1, p2⟩ | ⟨p1, p2⟩
    · have e1 : lp (M.1 0 1) = 3 := by rw [p1]; rfl
      have e2 : lp (M.1 0 2) = 14 := by rw [p2]; rfl
      rw [e2] at g
      rw [e1]
      exact g.1 _ (by omega) (Or.inl (by omega))
    · have e1 : lp (M.1 0 1) = 14 := by rw [p1]; rfl
      have e2 : lp (M.1 0 2) = 3 := by rw [p2]; rfl
      rw [e2] at g
      rw [e1]
      exact g.1 _ (by omega) (Or.inr (by omega))
  have hi : ∀ q, 28 ≤ q → M'.1 q = M.1 q := fun q hq => g.1 q (by omega) (Or.inr (by omega))
  have ht : tl M'.1 = tl M.1 := by unfold tl; rw [e0]
  obtain ⟨r1, r2, r3, r4, r5, r6⟩ := r
  have hT := hL.1
  have hRn := hL.2.1
  have hSn := hL.2.2.1
  refine ⟨hL, ?_, ⟨?_, ?_⟩, ⟨?_, ?_⟩, h7.congr g.2.1 (g.1 2 (by omega) (Or.inl (by omega))) (r2 3 (by omega)) (r1 1 (by omega)), h8.congr (fun i _ => hi _ (by omega)) (r1 9 (by omega)), h9.congr (fun i _ => hi _ (by omega)) (r1 10 (by omega)) (r1 11 (by omega)), h10.congr (fun i _ => hi _ (by omega)) (r1 10 (by omega)) (r1 11 (by omega)), by rw [g.2.2, r6]; exact h11⟩
  · unfold PT at hP ⊢; rw [e0]; exact hP
  · rw [ht]; exact h3.congr hrow
  · rw [ht]; exact h4.congr hrow
  · obtain ⟨l1, l2, l3, l4, l5, l6, l7⟩ := h5
    refine ⟨by rw [r2 13 (by omega)]; exact l1, by rw [r2 14 (by omega)]; exact l2, by rw [r2 15 (by omega)]; exact l3, fun i hi => by rw [r3 i (by omega)]; exact l4 i hi, fun r hr => ?_, fun k hk => ?_, fun k hk => by rw [r1 7 (by omega)]; exact l7 k hk⟩
    · rw [r4 _ (by omega), r4 _ (by omega), r4 _ (by omega)]; exact l5 r hr
    · rw [(r5 k (by omega)).1, (r5 k (by omega)).2, r1 8 (by omega)]; exact l6 k hk
  · unfold LRm at h6 ⊢; rw [r1 6 (by omega)]; exact h6
/-! the reference's draft copied -/
def cpr (q o k : Nat) (J0 J : Mem) : Prop := (∀ z, z ≠ q → J.1 z = J0.1 z) ∧ J.2 = J0.2 ∧ ∀ j, J.1 q j = if j < k then J0.1 q (o + j) else J0.1 q j
theorem cpr.step {q o k : Nat} {J0 J : Mem} (h : cpr q o k J0 J) (hk : k < o) : cpr q o (k + 1) J0 (ms J q k (J.1 q (o + k))) := by
  obtain ⟨h1, h2, h3⟩ := h
  refine ⟨fun z hz => by rw [ms_row hz]; exact h1 z hz, h2, fun j => ?_⟩
  by_cases e : j = k
  · subst e
    rw [ms_eq, if_pos (by omega), h3, if_neg (by omega)]
  · rw [ms_ne (Or.inr e), h3]
    by_cases c : j < k
    · rw [if_pos c, if_pos (by omega)]
    · rw [if_neg c, if_neg (by omega)]
theorem cpr.zero (q o : Nat) (J : Mem) : cpr q o 0 J J := ⟨fun _ _ => rfl, rfl, fun j => by rw [if_neg (by omega)]⟩
theorem l_213 {J0 : Mem} (u1 : Int32) (K : Mem → Option (Int32 × Mem)) : ∀ (n k : Nat) (J : Mem), k ≤ 6 → 6 < k + n → cpr 2 6 k J0 J → ∃ J', cpr 2 6 6 J0 J' ∧ fX5_land_213 u1 K n (nI k) J = K J'
  | 0, k, J, h1, h2, _ => by omega
  | n + 1, k, J, h1, h2, h => by
    unfold fX5_land_213
    by_cases e : k = 6
    · subst e; exact ⟨J, h, if_pos (by decide)⟩
    rw [if_neg (show ¬ (6 : Int32) ≤ nI k from nI_ge (b := 6) (by omega) (by omega)), i6, nI_add, ld_at (by omega) (by omega), bnd, sta_at (by omega) (by omega), bnd, nI_1]
    exact l_213 u1 K n (k + 1) _ (by omega) (by omega) (h.step (by omega))
theorem l_242 {J0 : Mem} (u1 : Int32) (K : Mem → Option (Int32 × Mem)) : ∀ (n k : Nat) (J : Mem), k ≤ 30 → 30 < k + n → cpr 3 30 k J0 J → ∃ J', cpr 3 30 30 J0 J' ∧ fX5_land_242 u1 K n (nI k) J = K J'
  | 0, k, J, h1, h2, _ => by omega
  | n + 1, k, J, h1, h2, h => by
    unfold fX5_land_242
    by_cases e : k = 30
    · subst e; exact ⟨J, h, if_pos (by decide)⟩
    rw [if_neg (show ¬ (30 : Int32) ≤ nI k from nI_ge (b := 30) (by omega) (by omega)), show (30 : Int32) = nI 30 from rfl, nI_add, ld_at (by omega) (by omega), bnd, sta_at (by omega) (by omega), bnd, nI_1]
    exact l_242 u1 K n (k + 1) _ (by omega) (by omega) (h.step (by omega))
def cp2 (k : Nat) (J0 J : Mem) : Prop := (∀ z, z ≠ 4 → z ≠ 5 → J.1 z = J0.1 z) ∧ J.2 = J0.2 ∧ (∀ j, J.1 4 j = if j < k then J0.1 4 (10 + j) else J0.1 4 j) ∧ ∀ j, J.1 5 j = if j < k then J0.1 5 (10 + j) else J0.1 5 j
theorem l_271 {J0 : Mem} (u1 : Int32) (K : Mem → Option (Int32 × Mem)) : ∀ (n k : Nat) (J : Mem), k ≤ 10 → 10 < k + n → cp2 k J0 J → ∃ J', cp2 10 J0 J' ∧ fX5_land_271 u1 K n (nI k) J = K J'
  | 0, k, J, h1, h2, _ => by omega
  | n + 1, k, J, h1, h2, h => by
    unfold fX5_land_271
    by_cases e : k = 10
    · subst e; exact ⟨J, h, if_pos (by decide)⟩
    rw [if_neg (show ¬ (10 : Int32) ≤ nI k from nI_ge (b := 10) (by omega) (by omega)), show (10 : Int32) = nI 10 from rfl, nI_add, ld_at (by omega) (by omega), bnd, sta_at (by omega) (by omega), bnd, ld_at (by omega) (by omega), bnd, sta_at (by omega) (by omega), bnd, nI_1]
    obtain ⟨g1, g2, g3, g4⟩ := h
    refine l_271 u1 K n (k + 1) _ (by omega) (by omega) ⟨fun z a b => by rw [ms_row b, ms_row a]; exact g1 z a b, g2, fun j => ?_, fun j => ?_⟩
    · rw [ms_ne (by omega)]
      by_cases e : j = k
      · subst e; rw [ms_eq, if_pos (by omega), g3, if_neg (by omega)]
      · rw [ms_ne (Or.inr e), g3]
        by_cases c : j < k
        · rw [if_pos c, if_pos (by omega)]
        · rw [if_neg c, if_neg (by omega)]
    · by_cases e : j = k
      · subst e; rw [ms_eq, if_pos (by omega), ms_ne (by omega), g4, if_neg (by omega)]
      · rw [ms_ne (Or.inr e), ms_ne (by omega), g4]
        by_cases c : j < k
        · rw [if_pos c, if_pos (by omega)]
        · rw [if_neg c, if_neg (by omega)]
def landK (y8 : Int32) (M9 : Mem) : Option (Int32 × Mem) := (Option.bind (fX5_isWell M9) fun x10 => (if x10 = 0 then some (((-10 : Int32) - (M9.1 0 8)), M9) else (Option.bind (some (ms M9 0 13 (M9.1 0 16))) fun M12 => (Option.bind (some (ms M12 0 14 (M12.1 0 17))) fun M13 => (Option.bind (some (ms M13 0 15 (M13.1 0 18))) fun M14 => (fX5_land_213 y8 (fun M15 => (fX5_land_242 y8 (fun M16 => (fX5_land_271 y8 (fun M17 => (Option.bind (some (ms M17 0 3 (0 : Int32))) fun M18 => (Option.bind (sta M18 11 2 (0 : Int32) (0 : Int32)) fun M19 => (Option.bind (sta M19 11 2 (1 : Int32) (0 : Int32)) fun M20 => (Option.bind (sta M20 9 26 (0 : Int32) (0 : Int32)) fun M21 => (Option.bind (sta M21 9 26 (1 : Int32) (0 : Int32)) fun M22 => (Option.bind (fX5_reckons M22) fun x23 => some (y8, x23)))))))) mF (0 : Int32) M16)) mF (0 : Int32) M15)) mF (0 : Int32) M14))))))
theorem land_eq (J : Mem) : fX5_land J = (Option.bind (fX5_advances (ms (ms (ms (ms (ms (ms J 0 0 0) 0 8 (-1)) 0 4 0) 0 16 0) 0 17 0) 0 18 0)) fun x7 => fX5_land_36 landK mF 0 x7) := rfl
/-- the reference takes its draft over -/
theorem r_over {D : Lnd} (hL : Lok D) (hF : Lfst D) {J : Mem} (hw : J.1 0 8 = -1) (hR : LRd D J) (y : Int32) : ∃ J', landK y J = some (y, J') ∧ LR D J'.1 ∧ LRm D J'.1 ∧ J'.1 0 3 = 0 ∧ J'.1 9 0 = 0 ∧ J'.1 9 1 = 0 ∧ J'.1 11 0 = 0 ∧ J'.1 11 1 = 0 ∧ J'.2 = J.2 := by
  have hT := hL.1
  have hRn := hL.2.1
  have hSn := hL.2.2.1
  obtain ⟨r1, r2, r3, r4, r5, r6⟩ := hR
  unfold landK
  rw [r_well hw, bnd, if_neg n10, bnd, bnd, bnd]
  have q13 : (ms (ms (ms J 0 13 (J.1 0 16)) 0 14 ((ms J 0 13 (J.1 0 16)).1 0 17)) 0 15 ((ms (ms J 0 13 (J.1 0 16)) 0 14 ((ms J 0 13 (J.1 0 16)).1 0 17)).1 0 18)).1 0 13 = nI (lT D) := by rw [ms_ne (by omega), ms_ne (by omega), ms_eq]; exact r1
  have q14 : (ms (ms (ms J 0 13 (J.1 0 16)) 0 14 ((ms J 0 13 (J.1 0 16)).1 0 17)) 0 15 ((ms (ms J 0 13 (J.1 0 16)) 0 14 ((ms J 0 13 (J.1 0 16)).1 0 17)).1 0 18)).1 0 14 = nI (lR D) := by rw [ms_ne (by omega), ms_eq, ms_ne (by omega)]; exact r2
  have q15 : (ms (ms (ms J 0 13 (J.1 0 16)) 0 14 ((ms J 0 13 (J.1 0 16)).1 0 17)) 0 15 ((ms (ms J 0 13 (J.1 0 16)) 0 14 ((ms J 0 13 (J.1 0 16)).1 0 17)).1 0 18)).1 0 15 = nI (lS D) := by rw [ms_eq, ms_ne (by omega), ms_ne (by omega)]; exact r3
  have qr : ∀ z, z ≠ 0 → (ms (ms (ms J 0 13 (J.1 0 16)) 0 14 ((ms J 0 13 (J.1 0 16)).1 0 17)) 0 15 ((ms (ms J 0 13 (J.1 0 16)) 0 14 ((ms J 0 13 (J.1 0 16)).1 0 17)).1 0 18)).1 z = J.1 z := fun z hz => by rw [ms_row hz, ms_row hz, ms_row hz]
  have q2 : (ms (ms (ms J 0 13 (J.1 0 16)) 0 14 ((ms J 0 13 (J.1 0 16)).1 0 17)) 0 15 ((ms (ms J 0 13 (J.1 0 16)) 0 14 ((ms J 0 13 (J.1 0 16)).1 0 17)).1 0 18)).2 = J.2 := rfl
  generalize ms (ms (ms J 0 13 (J.1 0 16)) 0 14 ((ms J 0 13 (J.1 0 16)).1 0 17)) 0 15 ((ms (ms J 0 13 (J.1 0 16)) 0 14 ((ms J 0 13 (J.1 0 16)).1 0 17)).1 0 18) = Ja at q13 q14 q15 qr q2 ⊢
  obtain ⟨Jb, b1, b2⟩ := l_213 y (fun M15 => (fX5_land_242 y (fun M16 => (fX5_land_271 y (fun M17 => (Option.bind (some (ms M17 0 3 (0 : Int32))) fun M18 => (Option.bind (sta M18 11 2 (0 : Int32) (0 : Int32)) fun M19 => (Option.bind (sta M19 11 2 (1 : Int32) (0 : Int32)) fun M20 => (Option.bind (sta M20 9 26 (0 : Int32) (0 : Int32)) fun M21 => (Option.bind (sta M21 9 26 (1 : Int32) (0 : Int32)) fun M22 => (Option.bind (fX5_reckons M22) fun x23 => some (y, x23)))))))) mF (0 : Int32) M16)) mF (0 : Int32) M15)) mF 0 Ja (by omega) (fuel (by omega)) (cpr.zero 2 6 Ja)
  obtain ⟨Jc, c1, c2⟩ := l_242 y (fun M16 => (fX5_land_271 y (fun M17 => (Option.bind (some (ms M17 0 3 (0 : Int32))) fun M18 => (Option.bind (sta M18 11 2 (0 : Int32) (0 : Int32)) fun M19 => (Option.bind (sta M19 11 2 (1 : Int32) (0 : Int32)) fun M20 => (Option.bind (sta M20 9 26 (0 : Int32) (0 : Int32)) fun M21 => (Option.bind (sta M21 9 26 (1 : Int32) (0 : Int32)) fun M22 => (Option.bind (fX5_reckons M22) fun x23 => some (y, x23)))))))) mF (0 : Int32) M16)) mF 0 Jb (by omega) (fuel (by omega)) (cpr.zero 3 30 Jb)
  obtain ⟨Jd, d1, d2⟩ := l_271 y (fun M17 => (Option.bind (some (ms M17 0 3 (0 : Int32))) fun M18 => (Option.bind (sta M18 11 2 (0 : Int32) (0 : Int32)) fun M19 => (Option.bind (sta M19 11 2 (1 : Int32) (0 : Int32)) fun M20 => (Option.bind (sta M20 9 26 (0 : Int32) (0 : Int32)) fun M21 => (Option.bind (sta M21 9 26 (1 : Int32) (0 : Int32)) fun M22 => (Option.bind (fX5_reckons M22) fun x23 => some (y, x23)))))))) mF 0 Jc (by omega) (fuel (by omega)) (⟨fun _ _ _ => rfl, rfl, fun j => by rw [if_neg (by omega)], fun j => by rw [if_neg (by omega)]⟩ : cp2 0 Jc Jc)
  rw [nI_0] at b2 c2 d2
  rw [b2, c2, d2, bnd, sta_0 (by omega) (by omega), bnd, sta_1 (by omega) (by omega), bnd, sta_0 (by omega) (by omega), bnd, sta_1 (by omega) (by omega), bnd]
  have z0 : ∀ j, j ≠ 3 → (ms (ms (ms (ms (ms Jd 0 3 0) 11 0 0) 11 1 0) 9 0 0) 9 1 0).1 0 j = Ja.1 0 j := fun j hj => by
    rw [ms_ne (by omega), ms_ne (by omega), ms_ne (by omega), ms_ne (by omega), ms_ne (Or.inr hj), d1.1 0 (by omega) (by omega), c1.1 0 (by omega), b1.1 0 (by omega)]
  have zz : ∀ q, q ≠ 0 → q ≠ 9 → q ≠ 11 → (ms (ms (ms (ms (ms Jd 0 3 0) 11 0 0) 11 1 0) 9 0 0) 9 1 0).1 q = Jd.1 q := fun q h1 h2 h3 => by
    rw [ms_row h2, ms_row h2, ms_row h3, ms_row h3, ms_row h1]
  have w2 : ∀ j, j < 6 → Jd.1 2 j = J.1 2 (6 + j) := fun j hj => by
    rw [d1.1 2 (by omega) (by omega), c1.1 2 (by omega), b1.2.2 j, if_pos hj, qr 2 (by omega)]
  have w3 : ∀ j, j < 30 → Jd.1 3 j = J.1 3 (30 + j) := fun j hj => by
    rw [d1.1 3 (by omega) (by omega), c1.2.2 j, if_pos hj, b1.1 3 (by omega), qr 3 (by omega)]
  have w4 : ∀ j, j < 10 → Jd.1 4 j = J.1 4 (10 + j) ∧ Jd.1 5 j = J.1 5 (10 + j) := fun j hj => by
    rw [d1.2.2.1 j, d1.2.2.2 j, if_pos hj, if_pos hj, c1.1 4 (by omega), c1.1 5 (by omega), b1.1 4 (by omega), b1.1 5 (by omega), qr 4 (by omega), qr 5 (by omega)]
    exact ⟨rfl, rfl⟩
  have hR0 : LR0 D (ms (ms (ms (ms (ms Jd 0 3 0) 11 0 0) 11 1 0) 9 0 0) 9 1 0).1 := by
    refine ⟨by rw [z0 13 (by omega)]; exact q13, by rw [z0 14 (by omega)]; exact q14, by rw [z0 15 (by omega)]; exact q15, fun i hi => ?_, fun r hr => ?_, fun k hk => ?_⟩
    · rw [zz 2 (by omega) (by omega) (by omega), w2 i (by omega)]; exact r4 i hi
    · rw [zz 3 (by omega) (by omega) (by omega), w3 _ (by omega), w3 _ (by omega), w3 _ (by omega), ← Nat.add_assoc, ← Nat.add_assoc]; exact r5 r hr
    · rw [zz 4 (by omega) (by omega) (by omega), zz 5 (by omega) (by omega) (by omega), (w4 k (by omega)).1, (w4 k (by omega)).2]; exact r6 k hk
  obtain ⟨J', e1, e2, e3, e4, e5⟩ := r_reckons hL hF hR0
  rw [e1, bnd]
  refine ⟨J', rfl, e2, e3, ?_, ?_, ?_, ?_, ?_, ?_⟩
  · rw [e4 0 (by omega) (by omega) (by omega), ms_ne (by omega), ms_ne (by omega), ms_ne (by omega), ms_ne (by omega), ms_eq]
  · rw [e4 9 (by omega) (by omega) (by omega), ms_ne (by omega), ms_eq]
  · rw [e4 9 (by omega) (by omega) (by omega), ms_eq]
  · rw [e4 11 (by omega) (by omega) (by omega), ms_ne (by omega), ms_ne (by omega), ms_ne (by omega), ms_eq]
  · rw [e4 11 (by omega) (by omega) (by omega), ms_ne (by omega), ms_ne (by omega), ms_eq]
  · rw [e5]; exact (d1.2.1.trans c1.2.1).trans (b1.2.1.trans q2)
theorem c_reset2 (p : Nat) (M : Mem) : fX2_reset p M = some (ms (ms (ms M p 0 0) p 1 0) p 5 0) := rfl
theorem pu_land {M J : Mem} (hI : Inv M J) : ∃ (r : Int32) (M1 J1 : Mem), fX4_land M = some (r, M1) ∧ fX5_land J = some (r, J1) ∧ Inv M1 J1 := by
  obtain ⟨L, hI⟩ := hI
  have hJ := inv_th hI
  rw [land_eq]
  generalize ms J 0 0 0 = J1 at hJ ⊢
  have hK := hJ
  obtain ⟨hL, hP, h3, h4, ⟨n, hn, t1, t2, t3⟩, h7, h8, h9, h10⟩ := hJ
  have hb := lp_ok (M.1 0 2)
  have hb2 := lp_le (M.1 0 2)
  have htx : ∀ i, i < n → (M.1 2 i).toNatClampNeg < 256 ∧ M.1 2 i = nI (M.1 2 i).toNatClampNeg ∧ J1.1 1 i = nI (M.1 2 i).toNatClampNeg := fun i hi => by
    obtain ⟨c, hc, e1, e2⟩ := t3 i hi
    rw [e1, nI_clamp (by omega)]
    exact ⟨hc, rfl, e2⟩
  have hx : TXc (fun i => (M.1 2 i).toNatClampNeg) n M := ⟨t1, hn, fun i hi => ⟨(htx i hi).1, (htx i hi).2.1⟩⟩
  have hy : TXr (fun i => (M.1 2 i).toNatClampNeg) n J1 := ⟨t2, hn, fun i hi => ⟨(htx i hi).1, (htx i hi).2.2⟩⟩
  generalize (fun i => (M.1 2 i).toNatClampNeg) = tx at hx hy
  -- the class begins
  have er : fX1_reset (lp (M.1 0 2)) M = some (ms (ms (ms M (lp (M.1 0 2)) 0 0) (lp (M.1 0 2)) 2 0) (lp (M.1 0 2)) 6 0) := rfl
  have f1 : cF (lp (M.1 0 2)) M (ms (ms (ms M (lp (M.1 0 2)) 0 0) (lp (M.1 0 2)) 2 0) (lp (M.1 0 2)) 6 0) := ((cF.put hb _ _ _ (by omega)).trans (cF.put hb _ _ _ (by omega))).trans (cF.put hb _ _ _ (by omega))
  have hC3 : LC (lp (M.1 0 2)) L0 (ms (ms (ms M (lp (M.1 0 2)) 0 0) (lp (M.1 0 2)) 2 0) (lp (M.1 0 2)) 6 0).1 := ⟨by rw [ms_ne (by omega), ms_ne (by omega), ms_eq]; rfl, by rw [ms_ne (by omega), ms_eq]; rfl, by rw [ms_eq]; rfl, fun i hi => absurd hi (Nat.not_lt_zero i), fun i hi => absurd hi (Nat.not_lt_zero i), fun i hi => absurd hi (Nat.not_lt_zero i), fun i hi => absurd hi (Nat.not_lt_zero _)⟩
  have f2 : kc (ms (ms (ms M (lp (M.1 0 2)) 0 0) (lp (M.1 0 2)) 2 0) (lp (M.1 0 2)) 6 0) (ms (ms (ms (ms M (lp (M.1 0 2)) 0 0) (lp (M.1 0 2)) 2 0) (lp (M.1 0 2)) 6 0) 1 5 0) := kc.put _ _ (by omega)
  obtain ⟨M5, a1, a2, a3, a4, a5, a6⟩ := c_next (e := 0) ((hx.cF hb f1).kc f2) (ms_eq _ _ _ _) (Nat.zero_le n)
  have kk := f2.trans a2
  -- the reference begins
  have g1 : rF J1 (ms (ms (ms (ms (ms J1 0 8 (-1)) 0 4 0) 0 16 0) 0 17 0) 0 18 0) := (((((rF.put _ _ _ (by omega)).trans (kr.put _ _ (by omega)).rF).trans (rF.put _ _ _ (by omega))).trans (rF.put _ _ _ (by omega))).trans (rF.put _ _ _ (by omega)))
  obtain ⟨J7, b1, b2, b3, b4, b5, b6, b7⟩ := r_adv (e := 0) (hy.rF g1) (by rw [ms_ne (by omega), ms_ne (by omega), ms_ne (by omega), ms_eq]; rfl) (Nat.zero_le n)
  have hw7 : J7.1 0 8 = -1 := by rw [b2.2.1 8 (by omega), ms_ne (by omega), ms_ne (by omega), ms_ne (by omega), ms_ne (by omega), ms_eq]
  have hR7 : LRd L0 J7 := by
    refine ⟨?_, ?_, ?_, fun i hi => absurd hi (Nat.not_lt_zero i), fun i hi => absurd hi (Nat.not_lt_zero i), fun i hi => absurd hi (Nat.not_lt_zero i)⟩
    · rw [b2.2.1 16 (by omega), ms_ne (by omega), ms_ne (by omega), ms_eq]; rfl
    · rw [b2.2.1 17 (by omega), ms_ne (by omega), ms_eq]; rfl
    · rw [b2.2.1 18 (by omega), ms_eq]; rfl
  have hST : ST tx n (lp (M.1 0 2)) 0 L0 M5 J7 := ⟨Nat.zero_le n, ((hx.cF hb f1).kc f2).kc a2, (hy.rF g1).kr b2, ⟨a3, a4, a5, a6⟩, ⟨b3, b4, b5, b6, b7⟩, hw7, L0_ok, L0_fst, hC3.kc hb kk, hR7⟩
  obtain ⟨M', J', k1, k2, k3⟩ := read_lp hb landK 27 mF mF 0 L0 M5 J7 rfl (by unfold mF; omega) (by unfold mF; omega) hST
  rw [show lT L0 + lR L0 + lS L0 = 0 from rfl, nI_0] at k3
  have fM : cF (lp (M.1 0 2)) M M' := (f1.trans kk.cF).trans k1
  have fJ : rF J1 J' := (g1.trans b2.rF).trans k2
  have e0 : M'.1 0 = M.1 0 := fM.1 0 (by omega) (Or.inl (by omega))
  unfold fX4_land fX3_readAll
  rw [er, bnd, bnd, a1, bnd, b1, bnd]
  rcases k3 with ⟨f, w, hf, p1, p2, p3, p4⟩ | ⟨v, D, hv, p1, p2, p3, p4, p5, p6, p7⟩
  · refine ⟨-10 - nI f, M', J', ?_, ?_, L, inv_fault hK fM fJ⟩
    · rw [p1, bnd]
      dsimp only
      rw [if_pos rfl, p2]
    · rw [p4]
      unfold landK
      rw [r_ill hf p3, bnd, if_pos rfl, p3]
  · obtain ⟨J9, o1, o2, o3, o4, o5, o6, o7, o8, o9⟩ := r_over p4 p5 p3 p7 (nI v)
    have hbd : ∀ i, i ≤ 10 → (ms (ms M' 0 1 (M'.1 0 2)) 0 2 (M'.1 0 1)).1 (lp (M.1 0 2) + i) = M'.1 (lp (M.1 0 2) + i) := fun i _ => by rw [ms_row (by omega), ms_row (by omega)]
    obtain ⟨M7, c1, c2, c3, c4, c5⟩ := c_measure (b := lp (M.1 0 2)) p4 (p6.congr hbd)
    have s1 : (ms (ms M' 0 1 (M'.1 0 2)) 0 2 (M'.1 0 1)).1 0 1 = M.1 0 2 := by rw [ms_ne (by omega), ms_eq, e0]
    have s2 : (ms (ms M' 0 1 (M'.1 0 2)) 0 2 (M'.1 0 1)).1 0 2 = M.1 0 1 := by rw [ms_eq, e0]
    have s70 : M7.1 0 = (ms (ms M' 0 1 (M'.1 0 2)) 0 2 (M'.1 0 1)).1 0 := c4 0 (by omega) (by omega) (by omega)
    have hrow : ∀ q, q ≠ 1 → q ≠ 28 → q ≠ 32 → q ≠ 36 → (ms (ms (ms (ms (ms (ms (ms (ms (ms (ms M7 1 1 0) 28 0 0) 28 1 0) 28 5 0) 32 0 0) 32 1 0) 32 5 0) 36 0 0) 36 1 0) 36 5 0).1 q = M7.1 q := fun q x1 x2 x3 x4 => by
      rw [ms_row x4, ms_row x4, ms_row x4, ms_row x3, ms_row x3, ms_row x3, ms_row x2, ms_row x2, ms_row x2, ms_row x1]
    refine ⟨nI v, ms (ms (ms (ms (ms (ms (ms (ms (ms (ms M7 1 1 0) 28 0 0) 28 1 0) 28 5 0) 32 0 0) 32 1 0) 32 5 0) 36 0 0) 36 1 0) 36 5 0, J9, ?_, by rw [p2]; exact o1, D, p4, ?_, ⟨?_, ?_⟩, ⟨o2, o3⟩, ?_, ?_, ?_, ?_, ?_⟩
    · rw [p1, bnd]
      dsimp only
      rw [if_neg (nI_m9 (by omega)), bnd, bnd, s1, c1, bnd, bnd, c_reset2, bnd, c_reset2, bnd, c_reset2, bnd]
    · unfold PT at hP ⊢
      rw [hrow 0 (by omega) (by omega) (by omega) (by omega), s70, s1, s2]
      rcases hP with ⟨x1, x2⟩ | ⟨x1, x2⟩
      · exact Or.inr ⟨x2, x1⟩
      · exact Or.inl ⟨x2, x1⟩
    · unfold tl
      rw [hrow 0 (by omega) (by omega) (by omega) (by omega), s70, s1]
      exact c2.congr (fun i hi => hrow _ (by omega) (by omega) (by omega) (by omega))
    · unfold tl
      rw [hrow 0 (by omega) (by omega) (by omega) (by omega), s70, s1]
      exact c3.congr (fun i hi => hrow _ (by omega) (by omega) (by omega) (by omega))
    · refine ⟨0, by omega, ?_, by rw [o4]; rfl, fun i hi => absurd hi (Nat.not_lt_zero i)⟩
      rw [ms_ne (by omega), ms_ne (by omega), ms_ne (by omega), ms_ne (by omega), ms_ne (by omega), ms_ne (by omega), ms_ne (by omega), ms_ne (by omega), ms_ne (by omega), ms_eq]; rfl
    · refine ⟨0, 0, by omega, by omega, ?_, by rw [o5]; rfl, ?_, by rw [o6]; rfl, fun i hi => absurd hi (Nat.not_lt_zero i)⟩
      · rw [ms_ne (by omega), ms_ne (by omega), ms_ne (by omega), ms_ne (by omega), ms_ne (by omega), ms_ne (by omega), ms_ne (by omega), ms_ne (by omega), ms_eq]; rfl
      · rw [ms_ne (by omega), ms_ne (by omega), ms_ne (by omega), ms_ne (by omega), ms_ne (by omega), ms_ne (by omega), ms_ne (by omega), ms_eq]; rfl
    · refine Or.inl ⟨?_, o7⟩
      rw [ms_ne (by omega), ms_ne (by omega), ms_ne (by omega), ms_eq]
    · refine Or.inl ⟨?_, o8⟩
      rw [ms_eq]
    · show M7.2 = J9.2
      rw [c5, o9]
      show M'.2 = J'.2
      rw [fM.2.2, fJ.2.2.2.2.2]; exact h10
