/-! the whole text, and the land taken over -/
theorem land_ill {K : Int32 → Mem → Option (Int32 × Mem)} {m f : Nat} {v : Int32} {J : Mem} (hf : f ≤ 300) (h : J.1 0 8 = nI f) : fX5_land_36 K (m + 1) v J = K v J := by
  show Option.bind (fX5_isWell J) _ = _
  rw [r_ill hf h, bnd, if_pos rfl]
theorem read_lp {tx : Nat → Nat} {n b : Nat} (hb : isL b) (K : Int32 → Mem → Option (Int32 × Mem)) : ∀ (d N m e : Nat) (D : Lnd) (M J : Mem), lT D + lR D + lS D + d = 27 → d < N → d + 1 < m → ST tx n b e D M J → ∃ M' J', cF b M M' ∧ rF J J' ∧ ((∃ (f : Nat) (w : Int32), f ≤ 300 ∧ fX3_readAll_15 b (fun y4 M5 => some (y4, M5)) N (nI (lT D + lR D + lS D)) M = some (-9, M') ∧ M'.1 1 4 = nI f ∧ J'.1 0 8 = nI f ∧ fX5_land_36 K m (nI (lT D + lR D + lS D)) J = K w J') ∨ (∃ (v : Nat) (D' : Lnd), v ≤ 26 ∧ fX3_readAll_15 b (fun y4 M5 => some (y4, M5)) N (nI (lT D + lR D + lS D)) M = some (nI v, M') ∧ fX5_land_36 K m (nI (lT D + lR D + lS D)) J = K (nI v) J' ∧ J'.1 0 8 = -1 ∧ Lok D' ∧ Lfst D' ∧ LC b D' M'.1 ∧ LRd D' J'))
  | d, 0, m, e, D, M, J, _, h, _, _ => by omega
  | d, N + 1, 0, e, D, M, J, _, _, h, _ => by omega
  | d, N + 1, m + 1, e, D, M, J, h1, h2, h3, hs => by
    have hs0 := hs
    obtain ⟨he, hx, hy, hc, hr, hw, hL, hF, hC, hR⟩ := hs
    have hT := hL.1
    have hRn := hL.2.1
    have hSn := hL.2.2.1
    have hk := tK_le tx n e
    have hrk := rk_in _ hk
    have kn : ∀ j : Nat, j < 100 → (M.1 1 2 = nI j ↔ tK tx n e = j) := fun j hj => by rw [hc.1]; exact nI_eq (by omega) (by omega)
    obtain ⟨m', rfl⟩ : ∃ m', m = m' + 1 := ⟨m - 1, by omega⟩
    unfold fX3_readAll_15
    by_cases c0 : tK tx n e = 0
    · rw [if_pos (show M.1 1 2 = 0 from (kn 0 (by omega)).mpr c0)]
      refine ⟨M, J, kc.cF (kc.refl M), rF.refl J, Or.inr ⟨lT D + lR D + lS D, D, by omega, rfl, ?_, hw, hL, hF, hC, hR⟩⟩
      show Option.bind (fX5_isWell J) _ = _
      rw [r_well hw, bnd, if_neg n10, if_pos (show J.1 0 5 = 0 by rw [hr.1, c0]; rfl)]
    rw [if_neg (show ¬ M.1 1 2 = 0 from fun z => c0 ((kn 0 (by omega)).mp z)), if_neg (show ¬ (300 : Int32) ≤ nI (lT D + lR D + lS D) from nI_ge (b := 300) (by omega) (by omega))]
    have cont : ∀ rd : Option (Int32 × Mem), Itm tx n b (lT D + lR D + lS D) M J rd (fun J' => fX5_land_36 K (m' + 1 + 1) (nI (lT D + lR D + lS D)) J = fX5_land_36 K (m' + 1) (nI (lT D + lR D + lS D + 1)) J') → ∃ M' J', cF b M M' ∧ rF J J' ∧ ((∃ (f : Nat) (w : Int32), f ≤ 300 ∧ (Option.bind rd fun x => (if x.1 = 0 then some ((-9 : Int32), x.2) else (fX3_readAll_15 b (fun y4 M5 => some (y4, M5)) N (nI (lT D + lR D + lS D) + 1) x.2))) = some (-9, M') ∧ M'.1 1 4 = nI f ∧ J'.1 0 8 = nI f ∧ fX5_land_36 K (m' + 1 + 1) (nI (lT D + lR D + lS D)) J = K w J') ∨ (∃ (v : Nat) (D' : Lnd), v ≤ 26 ∧ (Option.bind rd fun x => (if x.1 = 0 then some ((-9 : Int32), x.2) else (fX3_readAll_15 b (fun y4 M5 => some (y4, M5)) N (nI (lT D + lR D + lS D) + 1) x.2))) = some (nI v, M') ∧ fX5_land_36 K (m' + 1 + 1) (nI (lT D + lR D + lS D)) J = K (nI v) J' ∧ J'.1 0 8 = -1 ∧ Lok D' ∧ Lfst D' ∧ LC b D' M'.1 ∧ LRd D' J')) := by
      intro rd hi
      obtain ⟨M1, J1, f1, f2, f3, f4⟩ := hi
      rcases f4 with ⟨f, hf, g1, g2, g3⟩ | ⟨e', D', g1, g2, g3⟩
      · refine ⟨M1, J1, f1, f2, Or.inl ⟨f, nI (lT D + lR D + lS D + 1), hf, ?_, g2, g3, ?_⟩⟩
        · rw [g1, bnd]; rfl
        · exact f3.trans (land_ill hf g3)
      · have hT' := g2.2.2.2.2.2.2.1.1
        have hR' := g2.2.2.2.2.2.2.1.2.1
        have hS' := g2.2.2.2.2.2.2.1.2.2.1
        obtain ⟨d', rfl⟩ : ∃ d', d = d' + 1 := ⟨d - 1, by omega⟩
        obtain ⟨M2, J2, k1, k2, k3⟩ := read_lp hb K d' N (m' + 1) e' D' M1 J1 (by omega) (by omega) (by omega) g2
        rw [g3] at k3
        refine ⟨M2, J2, f1.trans k1, f2.trans k2, ?_⟩
        have er : (Option.bind rd fun x => (if x.1 = 0 then some ((-9 : Int32), x.2) else (fX3_readAll_15 b (fun y4 M5 => some (y4, M5)) N (nI (lT D + lR D + lS D) + 1) x.2))) = fX3_readAll_15 b (fun y4 M5 => some (y4, M5)) N (nI (lT D + lR D + lS D + 1)) M1 := by
          rw [g1, bnd]
          dsimp only
          rw [if_neg n10, nI_1]
        rcases k3 with ⟨f, w, p1, p2, p3, p4, p5⟩ | ⟨v, D2, p1, p2, p3, p4⟩
        · exact Or.inl ⟨f, w, p1, er.trans p2, p3, p4, f3.trans p5⟩
        · exact Or.inr ⟨v, D2, p1, er.trans p2, f3.trans p3, p4⟩
    by_cases c1 : tK tx n e = 1
    · rw [if_pos (show M.1 1 2 = 1 from (kn 1 (by omega)).mpr c1)]
      exact cont _ (it_town hb hs0 c1)
    rw [if_neg (show ¬ M.1 1 2 = 1 from fun z => c1 ((kn 1 (by omega)).mp z))]
    by_cases c2 : tK tx n e = 2
    · rw [if_pos (show M.1 1 2 = 2 from (kn 2 (by omega)).mpr c2)]
      exact cont _ (it_road hb hs0 c2)
    rw [if_neg (show ¬ M.1 1 2 = 2 from fun z => c2 ((kn 2 (by omega)).mp z))]
    by_cases c3 : tK tx n e = 3
    · rw [if_pos (show M.1 1 2 = 3 from (kn 3 (by omega)).mpr c3)]
      exact cont _ (it_stop hb hs0 c3)
    rw [if_neg (show ¬ M.1 1 2 = 3 from fun z => c3 ((kn 3 (by omega)).mp z))]
    have n0 : ¬ J.1 0 5 = 0 := fun z => c0 (hrk.2.1.mp (nIe (b := 0) (hr.1.symm.trans z) (by omega) (by omega)))
    have n1 : ¬ J.1 0 5 = 1 := fun z => by
      have := hrk.2.2.1.mp (nIe (b := 1) (hr.1.symm.trans z) (by omega) (by omega))
      omega
    refine ⟨M, ms J 0 8 (nI (tB tx n e)), kc.cF (kc.refl M), rF.put _ _ _ (by omega), Or.inl ⟨tB tx n e, nI (lT D + lR D + lS D) + 1, tB_300 hx he, rfl, hc.2.1, ms_eq _ _ _ _, ?_⟩⟩
    rw [land_bad (tB_300 hx he) hw n0 hr.2.1 (Or.inl n1)]
    exact land_ill (tB_300 hx he) (ms_eq _ _ _ _)
/-- a fault: the land told stays -/
theorem inv_fault {L : Lnd} {M M' J J' : Mem} (h : InvL L M J) (g : cF (lp (M.1 0 2)) M M') (r : rF J J') : InvL L M' J' := by
  obtain ⟨hL, hP, ⟨h3, h4⟩, ⟨h5, h6⟩, h7, h8, h9, h10, h11⟩ := h
  have hb := lp_le (M.1 0 2)
  have e0 : M'.1 0 = M.1 0 := g.1 0 (by omega) (Or.inl (by omega))
  have hrow : ∀ i, i ≤ 10 → M'.1 (lp (M.1 0 1) + i) = M.1 (lp (M.1 0 1) + i) := by
    intro i hi
    rcases hP with ⟨p1, p2⟩ | ⟨p1, p2⟩
    · have e1 : lp (M.1 0 1) = 3 := by rw [p1]; rfl
      have e2 : lp (M.1 0 2) = 14 := by rw [p2]; rfl
      rw [e2] at g
      rw [e1]
      exact g.1 _ (by omega) (Or.inl (by omega))
    · have e1 : lp (M.1 0 1) = 14 := by rw [p1]; rfl
      have e2 : lp (M.1 0 2) = 3 := by rw [p2]; rfl
      rw [e2] at g
      rw [e1]
      exact g.1 _ (by omega) (Or.inr (by omega))
  have hi : ∀ q, 28 ≤ q → M'.1 q = M.1 q := fun q hq => g.1 q (by omega) (Or.inr (by omega))
  have ht : tl M'.1 = tl M.1 := by unfold tl; rw [e0]
  obtain ⟨r1, r2, r3, r4, r5, r6⟩ := r
  have hT := hL.1
  have hRn := hL.2.1
  have hSn := hL.2.2.1
  refine ⟨hL, ?_, ⟨?_, ?_⟩, ⟨?_, ?_⟩, h7.congr g.2.1 (g.1 2 (by omega) (Or.inl (by omega))) (r2 3 (by omega)) (r1 1 (by omega)), h8.congr (fun i _ => hi _ (by omega)) (r1 9 (by omega)), h9.congr (fun i _ => hi _ (by omega)) (r1 10 (by omega)) (r1 11 (by omega)), h10.congr (fun i _ => hi _ (by omega)) (r1 10 (by omega)) (r1 11 (by omega)), by rw [g.2.2, r6]; exact h11⟩
  · unfold PT at hP ⊢; rw [e0]; exact hP
  · rw [ht]; exact h3.congr hrow
  · rw [ht]; exact h4.congr hrow
  · obtain ⟨l1, l2, l3, l4, l5, l6, l7⟩ := h5
    refine ⟨by rw [r2 13 (by omega)]; exact l1, by rw [r2 14 (by omega)]; exact l2, by rw [r2 15 (by omega)]; exact l3, fun i hi => by rw [r3 i (by omega)]; exact l4 i hi, fun r hr => ?_, fun k hk => ?_, fun k hk => by rw [r1 7 (by omega)]; exact l7 k hk⟩
    · rw [r4 _ (by omega), r4 _ (by omega), r4 _ (by omega)]; exact l5 r hr
    · rw [(r5 k (by omega)).1, (r5 k (by omega)).2, r1 8 (by omega)]; exact l6 k hk
  · unfold LRm at h6 ⊢; rw [r1 6 (by omega)]; exact h6
/-! the reference's draft copied -/
def cpr (q o k : Nat) (J0 J : Mem) : Prop := (∀ z, z ≠ q → J.1 z = J0.1 z) ∧ J.2 = J0.2 ∧ ∀ j, J.1 q j = if j < k then J0.1 q (o + j) else J0.1 q j
theorem cpr.step {q o k : Nat} {J0 J : Mem} (h : cpr q o k J0 J) (hk : k < o) : cpr q o (k + 1) J0 (ms J q k (J.1 q (o + k))) := by
  obtain ⟨h1, h2, h3⟩ := h
  refine ⟨fun z hz => by rw [ms_row hz]; exact h1 z hz, h2, fun j => ?_⟩
  by_cases e : j = k
  · subst e
    rw [ms_eq, if_pos (by omega), h3, if_neg (by omega)]
  · rw [ms_ne (Or.inr e), h3]
    by_cases c : j < k
    · rw [if_pos c, if_pos (by omega)]
    · rw [if_neg c, if_neg (by omega)]
theorem cpr.zero (q o : Nat) (J : Mem) : cpr q o 0 J J := ⟨fun _ _ => rfl, rfl, fun j => by rw [if_neg (by omega)]⟩
theorem l_213 {J0 : Mem} (u1 : Int32) (K : Mem → Option (Int32 × Mem)) : ∀ (n k : Nat) (J : Mem), k ≤ 6 → 6 < k + n → cpr 2 6 k J0 J → ∃ J', cpr 2 6 6 J0 J' ∧ fX5_land_213 u1 K n (nI k) J = K J'
  | 0, k, J, h1, h2, _ => by omega
  | n + 1, k, J, h1, h2, h => by
    unfold fX5_land_213
    by_cases e : k = 6
    · subst e; exact ⟨J, h, if_pos (by decide)⟩
    rw [if_neg (show ¬ (6 : Int32) ≤ nI k from nI_ge (b := 6) (by omega) (by omega)), i6, nI_add, ld_at (by omega) (by omega), bnd, sta_at (by omega) (by omega), bnd, nI_1]
    exact l_213 u1 K n (k + 1) _ (by omega) (by omega) (h.step (by omega))
theorem l_242 {J0 : Mem} (u1 : Int32) (K : Mem → Option (Int32 × Mem)) : ∀ (n k : Nat) (J : Mem), k ≤ 30 → 30 < k + n → cpr 3 30 k J0 J → ∃ J', cpr 3 30 30 J0 J' ∧ fX5_land_242 u1 K n (nI k) J = K J'
  | 0, k, J, h1, h2, _ => by omega
  | n + 1, k, J, h1, h2, h => by
    unfold fX5_land_242
    by_cases e : k = 30
    · subst e; exact ⟨J, h, if_pos (by decide)⟩
    rw [if_neg (show ¬ (30 : Int32) ≤ nI k from nI_ge (b := 30) (by omega) (by omega)), show (30 : Int32) = nI 30 from rfl, nI_add, ld_at (by omega) (by omega), bnd, sta_at (by omega) (by omega), bnd, nI_1]
    exact l_242 u1 K n (k + 1) _ (by omega) (by omega) (h.step (by omega))
def cp2 (k : Nat) (J0 J : Mem) : Prop := (∀ z, z ≠ 4 → z ≠ 5 → J.1 z = J0.1 z) ∧ J.2 = J0.2 ∧ (∀ j, J.1 4 j = if j < k then J0.1 4 (10 + j) else J0.1 4 j) ∧ ∀ j, J.1 5 j = if j < k then J0.1 5 (10 + j) else J0.1 5 j
theorem l_271 {J0 : Mem} (u1 : Int32) (K : Mem → Option (Int32 × Mem)) : ∀ (n k : Nat) (J : Mem), k ≤ 10 → 10 < k + n → cp2 k J0 J → ∃ J', cp2 10 J0 J' ∧ fX5_land_271 u1 K n (nI k) J = K J'
  | 0, k, J, h1, h2, _ => by omega
  | n + 1, k, J, h1, h2, h => by
    unfold fX5_land_271
    by_cases e : k = 10
    · subst e; exact ⟨J, h, if_pos (by decide)⟩
    rw [if_neg (show ¬ (10 : Int32) ≤ nI k from nI_ge (b := 10) (by omega) (by omega)), show (10 : Int32) = nI 10 from rfl, nI_add, ld_at (by omega) (by omega), bnd, sta_at (by omega) (by omega), bnd, ld_at (by omega) (by omega), bnd, sta_at (by omega) (by omega), bnd, nI_1]
    obtain ⟨g1, g2, g3, g4⟩ := h
    refine l_271 u1 K n (k + 1) _ (by omega) (by omega) ⟨fun z a b => by rw [ms_row b, ms_row a]; exact g1 z a b, g2, fun j => ?_, fun j => ?_⟩
    · rw [ms_ne (by omega)]
      by_cases e : j = k
      · subst e; rw [ms_eq, if_pos (by omega), g3, if_neg (by omega)]
      · rw [ms_ne (Or.inr e), g3]
        by_cases c : j < k
        · rw [if_pos c, if_pos (by omega)]
        · rw [if_neg c, if_neg (by omega)]
    · by_cases e : j = k
      · subst e; rw [ms_eq, if_pos (by omega), ms_ne (by omega), g4, if_neg (by omega)]
      · rw [ms_ne (Or.inr e), ms_ne (by omega), g4]
        by_cases c : j < k
        · rw [if_pos c, if_pos (by omega)]
        · rw [if_neg c, if_neg (by omega)]
