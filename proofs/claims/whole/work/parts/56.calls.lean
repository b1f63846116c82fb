/-! calls that go through hours -/
theorem or0 (x : Int32) : x ||| 0 = x := by simp
section PURE3
variable {L : Lnd} {M : Mem} {b : Nat}
theorem light_lp (hL : Lok L) (hC : LC (lp (M.1 0 1)) L M.1) (hm : LCm (lp (M.1 0 1)) L M.1) {t h : Nat} (ht : t < lT L) (hh : h ≤ 999) : ∀ (n k : Nat) (acc : Int32) (J : Mem), k ≤ 24 → 24 < k + n → LR L J.1 → LRm L J.1 → ∃ (r : Int32) (J' : Mem), fX4_light_25 (nI t) (nI h) M (fun y => some y) n acc (nI k) = some r ∧ fX5_light_27 (nI t) (nI h) (fun y6 M7 => some (y6, M7)) n acc (nI k) J = some (r, J') ∧ sJ J J'
  | 0, k, _, _, h1, h2, _, _ => by omega
  | n + 1, k, acc, J, h1, h2, hR, hRm => by
    unfold fX4_light_25 fX5_light_27
    by_cases e : k = 24
    · subst e
      exact ⟨acc, J, if_pos (by decide), if_pos (by decide), sJ.refl J⟩
    have hk : k < 24 := by omega
    have g1 : ¬ (24 : Int32) ≤ nI k := nI_ge (b := 24) hk (by omega)
    rw [if_neg g1, if_neg g1, nI_add]
    by_cases e2 : 999 < h + k
    · exact ⟨acc, J, if_pos (nI_lt (a := 999) e2 (by omega)), if_pos (nI_le (a := 1000) (by omega) (by omega)), sJ.refl J⟩
    obtain ⟨J1, q1, s1⟩ := r_clockIn hL hR hRm ht (h := h + k) (by omega)
    rw [if_neg (show ¬ (999 : Int32) < nI (h + k) from nI_nlt (a := 999) (by omega) (by omega)), if_neg (show ¬ (1000 : Int32) ≤ nI (h + k) from nI_ge (b := 1000) (by omega) (by omega)), c_clockAt hL hC hm ht (by omega), bnd, q1, bnd]
    unfold fX5_in
    simp only [or0, nI_1]
    by_cases c1 : encC (clk L t (h + k)) < 6
    · rw [if_pos c1, if_pos c1, bnd, if_pos rfl]
      obtain ⟨r, J2, a1, a2, a3⟩ := light_lp hL hC hm ht hh n (k + 1) acc J1 (by omega) (by omega) (hR.sJ s1) (hRm.sJ s1)
      exact ⟨r, J2, a1, a2, s1.trans a3⟩
    rw [if_neg c1, if_neg c1]
    by_cases c2 : 17 < encC (clk L t (h + k))
    · rw [if_pos c2, if_pos c2, bnd, if_pos rfl]
      obtain ⟨r, J2, a1, a2, a3⟩ := light_lp hL hC hm ht hh n (k + 1) acc J1 (by omega) (by omega) (hR.sJ s1) (hRm.sJ s1)
      exact ⟨r, J2, a1, a2, s1.trans a3⟩
    · rw [if_neg c2, if_neg c2, bnd, if_neg (by decide)]
      obtain ⟨r, J2, a1, a2, a3⟩ := light_lp hL hC hm ht hh n (k + 1) (acc ||| (1 <<< (nI k &&& 31))) J1 (by omega) (by omega) (hR.sJ s1) (hRm.sJ s1)
      exact ⟨r, J2, a1, a2, s1.trans a3⟩
theorem early_lp (hL : Lok L) (hC : LC (lp (M.1 0 1)) L M.1) (hm : LCm (lp (M.1 0 1)) L M.1) {t u h d : Nat} (ht : t < lT L) (hu : u < lT L) (hh : h ≤ 999) (hd : d ≤ 1920) : ∀ (n k : Nat) (acc : Int32) (J : Mem), k ≤ 24 → 24 < k + n → LR L J.1 → LRm L J.1 → ∃ (r : Int32) (J' : Mem), fX4_early_62 (nI t) (nI u) (nI h) (nI d) M (fun y => some y) n acc (nI k) = some r ∧ fX5_early_49 (nI t) (nI u) (nI h) (nI d) (fun y6 M7 => some (y6, M7)) n acc (nI k) J = some (r, J') ∧ sJ J J'
  | 0, k, _, _, h1, h2, _, _ => by omega
  | n + 1, k, acc, J, h1, h2, hR, hRm => by
    unfold fX4_early_62 fX5_early_49
    by_cases e : k = 24
    · subst e
      exact ⟨acc, J, if_pos (by decide), if_pos (by decide), sJ.refl J⟩
    have hk : k < 24 := by omega
    have g1 : ¬ (24 : Int32) ≤ nI k := nI_ge (b := 24) hk (by omega)
    rw [if_neg g1, if_neg g1, nI_add]
    by_cases e2 : 999 < h + k
    · exact ⟨acc, J, if_pos (nI_lt (a := 999) e2 (by omega)), if_pos (nI_le (a := 1000) (by omega) (by omega)), sJ.refl J⟩
    obtain ⟨J1, q1, s1⟩ := r_clockIn hL hR hRm ht (h := h + k) (by omega)
    obtain ⟨J2, q2, s2⟩ := r_clockIn hL (hR.sJ s1) (hRm.sJ s1) hu (h := h + k + d) (by omega)
    have s3 := s1.trans s2
    rw [if_neg (show ¬ (999 : Int32) < nI (h + k) from nI_nlt (a := 999) (by omega) (by omega)), if_neg (show ¬ (1000 : Int32) ≤ nI (h + k) from nI_ge (b := 1000) (by omega) (by omega)), c_clockAt hL hC hm ht (by omega), bnd, if_neg (nI_m9 (by omega)), q1, bnd, nI_add, c_clockAt hL hC hm hu (by omega), bnd, q2, bnd]
    simp only [or0, nI_1]
    have no : ∃ (r : Int32) (J' : Mem), fX4_early_62 (nI t) (nI u) (nI h) (nI d) M (fun y => some y) n acc (nI (k + 1)) = some r ∧ fX5_early_49 (nI t) (nI u) (nI h) (nI d) (fun y6 M7 => some (y6, M7)) n acc (nI (k + 1)) J2 = some (r, J') ∧ sJ J J' := by
      obtain ⟨r, J3, a1, a2, a3⟩ := early_lp hL hC hm ht hu hh hd n (k + 1) acc J2 (by omega) (by omega) (hR.sJ s3) (hRm.sJ s3)
      exact ⟨r, J3, a1, a2, s3.trans a3⟩
    by_cases c1 : encC (clk L t (h + k)) = -9
    · rw [if_pos c1, if_pos c1]; exact no
    rw [if_neg c1, if_neg c1]
    by_cases c2 : encC (clk L u (h + k + d)) = -9
    · rw [if_pos c2, if_pos c2]; exact no
    rw [if_neg c2, if_neg c2]
    by_cases c3 : encC (clk L t (h + k)) ≤ encC (clk L u (h + k + d))
    · rw [if_pos c3, if_pos c3]; exact no
    · rw [if_neg c3, if_neg c3]
      obtain ⟨r, J3, a1, a2, a3⟩ := early_lp hL hC hm ht hu hh hd n (k + 1) (acc ||| (1 <<< (nI k &&& 31))) J2 (by omega) (by omega) (hR.sJ s3) (hRm.sJ s3)
      exact ⟨r, J3, a1, a2, s3.trans a3⟩
def prv (L : Lnd) (t h : Nat) : Int32 := if h = 0 then -9 else encC (clk L t (h - 1))
theorem mid_lp (hL : Lok L) (hC : LC b L M.1) (hm : LCm b L M.1) {t e : Nat} (ht : t < lT L) (he : e ≤ 1000) : ∀ (n k : Nat) (acc : Int32) (J : Mem), k ≤ e → e < k + n → LR L J.1 → LRm L J.1 → ∃ (r : Int32) (J' : Mem), fX1_midnightsOf_25 b (nI t) (nI e) M (fun y => some y) n acc (prv L t k) (nI k) = some r ∧ fX5_midnightsIn_6 (nI t) (nI e) (fun y6 M7 => some (y6, M7)) n acc (nI k) J = some (r, J') ∧ sJ J J'
  | 0, k, _, _, h1, h2, _, _ => by omega
  | n + 1, k, acc, J, h1, h2, hR, hRm => by
    unfold fX1_midnightsOf_25 fX5_midnightsIn_6
    by_cases e1 : k = e
    · subst e1
      exact ⟨acc, J, if_pos (Int32.le_refl _), if_pos (Int32.le_refl _), sJ.refl J⟩
    have hk : k < e := by omega
    have g1 : ¬ nI e ≤ nI k := nI_ge hk (by omega)
    obtain ⟨J1, q1, s1⟩ := r_clockIn hL hR hRm ht (h := k) (by omega)
    rw [if_neg g1, if_neg g1, c_clockAt hL hC hm ht (by omega), bnd, q1, bnd]
    have hp : encC (clk L t k) = prv L t (k + 1) := by unfold prv; rw [if_neg (by omega), Nat.add_sub_cancel]
    simp only [Int32.add_zero, nI_1]
    have stay : ∀ J2 : Mem, sJ J J2 → ∃ (r : Int32) (J' : Mem), fX1_midnightsOf_25 b (nI t) (nI e) M (fun y => some y) n acc (encC (clk L t k)) (nI (k + 1)) = some r ∧ fX5_midnightsIn_6 (nI t) (nI e) (fun y6 M7 => some (y6, M7)) n acc (nI (k + 1)) J2 = some (r, J') ∧ sJ J J' := by
      intro J2 s2
      obtain ⟨r, J3, a1, a2, a3⟩ := mid_lp hL hC hm ht he n (k + 1) acc J2 (by omega) (by omega) (hR.sJ s2) (hRm.sJ s2)
      exact ⟨r, J3, by rw [hp]; exact a1, a2, s2.trans a3⟩
    have more : ∀ J2 : Mem, sJ J J2 → ∃ (r : Int32) (J' : Mem), fX1_midnightsOf_25 b (nI t) (nI e) M (fun y => some y) n (acc + 1) (encC (clk L t k)) (nI (k + 1)) = some r ∧ fX5_midnightsIn_6 (nI t) (nI e) (fun y6 M7 => some (y6, M7)) n (acc + 1) (nI (k + 1)) J2 = some (r, J') ∧ sJ J J' := by
      intro J2 s2
      obtain ⟨r, J3, a1, a2, a3⟩ := mid_lp hL hC hm ht he n (k + 1) (acc + 1) J2 (by omega) (by omega) (hR.sJ s2) (hRm.sJ s2)
      exact ⟨r, J3, by rw [hp]; exact a1, a2, s2.trans a3⟩
    by_cases c1 : encC (clk L t k) = 0
    · rw [if_pos c1, if_pos c1]
      by_cases c2 : k = 0
      · rw [if_neg (show ¬ prv L t k = 0 by unfold prv; rw [if_pos c2]; decide), if_pos (show nI k = 0 by rw [c2]; rfl)]
        exact more J1 s1
      · have e3 : prv L t k = encC (clk L t (k - 1)) := by unfold prv; rw [if_neg c2]
        obtain ⟨J2, q2, s2⟩ := r_clockIn hL (hR.sJ s1) (hRm.sJ s1) ht (h := k - 1) (by omega)
        rw [e3, if_neg (show ¬ nI k = 0 from nI_ne0 (by omega) (by omega)), show (1 : Int32) = nI 1 from rfl, pk_sub (by omega), q2, bnd]
        by_cases c3 : encC (clk L t (k - 1)) = 0
        · rw [if_pos c3, if_pos c3]; exact stay J2 (s1.trans s2)
        · rw [if_neg c3, if_neg c3]; exact more J2 (s1.trans s2)
    · rw [if_neg c1, if_neg c1]; exact stay J1 s1
theorem mid_eq (hL : Lok L) (hC : LC b L M.1) (hm : LCm b L M.1) {J : Mem} (hR : LR L J.1) (hRm : LRm L J.1) {t h e : Nat} (ht : t < lT L) (hh : h ≤ e) (he : e ≤ 1000) : ∃ (r : Int32) (J' : Mem), fX1_midnightsOf b (nI t) (nI h) (nI e) M = some r ∧ fX5_midnightsIn (nI t) (nI h) (nI e) J = some (r, J') ∧ sJ J J' := by
  obtain ⟨r, J', a1, a2, a3⟩ := mid_lp hL hC hm ht he mF h 0 J hh (by unfold mF; omega) hR hRm
  refine ⟨r, J', ?_, a2, a3⟩
  unfold fX1_midnightsOf
  by_cases c : h = 0
  · subst c
    rw [if_pos (by decide)]
    unfold prv at a1
    rw [if_pos rfl] at a1
    exact a1
  · rw [if_neg (nI_nle (by omega) (by omega)), show (1 : Int32) = nI 1 from rfl, pk_sub (by omega), c_clockAt hL hC hm ht (by omega), bnd]
    unfold prv at a1
    rw [if_neg c] at a1
    exact a1
end PURE3
theorem pu_light (a1 : Int32) (a2 : Int32) {M J : Mem} (hI : Inv M J) : ∃ (r : Int32) (J1 : Mem), fX4_light a1 a2 M = some r ∧ fX5_light a1 a2 J = some (r, J1) ∧ Inv M J1 := by
  obtain ⟨L, hI⟩ := hI
  have hJ := inv_th hI
  unfold fX4_light fX5_light
  rw [bnd]
  generalize ms J 0 0 0 = J1 at hJ ⊢
  have hK := hJ
  have hk : Inv M J1 := ⟨L, hK⟩
  obtain ⟨hL, h2, ⟨hC, hCm⟩, ⟨hR, hRm⟩, -⟩ := hJ
  have hT := hL.1
  by_cases q : bad (lT L) a1
  · refine ⟨-1, J1, ?_, ?_, hk⟩ <;> simp only [c_isTown hC.1, r_isTown hL hR.1, q, bnd, ↓reduceIte]
  by_cases q2 : bad 1000 a2
  · refine ⟨-1, J1, ?_, ?_, hk⟩ <;> simp only [c_isTown hC.1, r_isTown hL hR.1, c_isHour, r_isHour, q, q2, n10, bnd, ↓reduceIte]
  obtain ⟨t, ht, rfl⟩ := nbad (by omega) q
  obtain ⟨h, hh, rfl⟩ := nbad (by omega) q2
  obtain ⟨r, J2, e1, e2, s2⟩ := light_lp hL hC hCm ht (h := h) (by omega) mF 0 0 J1 (by omega) (fuel (by omega)) hR hRm
  rw [nI_0] at e1 e2
  refine ⟨r, J2, ?_, ?_, L, inv_sJ hK s2⟩
  · simp only [c_isTown hC.1, c_isHour, q, q2, n10, bnd, e1, ↓reduceIte]
  · simp only [r_isTown hL hR.1, r_isHour, q, q2, n10, bnd, e2, ↓reduceIte]
theorem pu_early (a1 : Int32) (a2 : Int32) (a3 : Int32) {M J : Mem} (hI : Inv M J) : ∃ (r : Int32) (J1 : Mem), fX4_early a1 a2 a3 M = some r ∧ fX5_early a1 a2 a3 J = some (r, J1) ∧ Inv M J1 := by
  obtain ⟨L, hI⟩ := hI
  have hJ := inv_th hI
  unfold fX4_early fX5_early
  rw [bnd]
  generalize ms J 0 0 0 = J1 at hJ ⊢
  have hK := hJ
  have hk : Inv M J1 := ⟨L, hK⟩
  obtain ⟨hL, h2, ⟨hC, hCm⟩, ⟨hR, hRm⟩, -⟩ := hJ
  have hT := hL.1
  by_cases q : bad (lT L) a1
  · refine ⟨-1, J1, ?_, ?_, hk⟩ <;> simp only [c_isTown hC.1, r_isTown hL hR.1, q, bnd, ↓reduceIte]
  by_cases p : bad (lT L) a2
  · refine ⟨-1, J1, ?_, ?_, hk⟩ <;> simp only [c_isTown hC.1, r_isTown hL hR.1, q, p, n10, bnd, ↓reduceIte]
  by_cases c : a1 = a2
  · refine ⟨-1, J1, ?_, ?_, hk⟩ <;> simp only [c_isTown hC.1, r_isTown hL hR.1, q, p, ← c, n10, bnd, ↓reduceIte]
  by_cases q2 : bad 1000 a3
  · refine ⟨-1, J1, ?_, ?_, hk⟩ <;> simp only [c_isTown hC.1, r_isTown hL hR.1, c_isHour, r_isHour, q, p, c, q2, n10, bnd, ↓reduceIte]
  obtain ⟨t, ht, rfl⟩ := nbad (by omega) q
  obtain ⟨u, hu, rfl⟩ := nbad (by omega) p
  obtain ⟨h, hh, rfl⟩ := nbad (by omega) q2
  have d1 := c_distance hL hC hCm ht hu
  have d2 := r_farOf hL hRm ht hu
  cases e : dist L t u with
  | none =>
    rw [e, encC_none] at d1 d2
    refine ⟨0, J1, ?_, ?_, hk⟩
    · simp only [c_isTown hC.1, c_isHour, q, p, c, q2, n10, bnd, d1, ↓reduceIte]
    · simp only [r_isTown hL hR.1, r_isHour, q, p, c, q2, n10, bnd, d2, ↓reduceIte]
      show fX5_early_49 _ _ _ _ _ (19999 + 1) _ _ _ = _
      unfold fX5_early_49
      rw [if_neg (by decide), Int32.add_zero, if_neg (show ¬ (1000 : Int32) ≤ nI h from nI_ge (b := 1000) (by omega) (by omega)), if_pos rfl]
  | some d =>
    rw [e, encC_some] at d1 d2
    have hd := dist_le hL e
    obtain ⟨r, J2, e1, e2, s2⟩ := early_lp hL hC hCm ht hu (h := h) (d := d) (by omega) hd mF 0 0 J1 (by omega) (fuel (by omega)) hR hRm
    rw [nI_0] at e1 e2
    have g9 : ¬ nI d = -9 := nI_m9 (by omega)
    refine ⟨r, J2, ?_, ?_, L, inv_sJ hK s2⟩
    · simp only [c_isTown hC.1, c_isHour, q, p, c, q2, n10, bnd, d1, g9, e1, ↓reduceIte]
    · simp only [r_isTown hL hR.1, r_isHour, q, p, c, q2, n10, bnd, d2, e2, ↓reduceIte]
/-- a span of hours -/
abbrev bsp (a b : Int32) : Prop := bad 1000 a ∨ b < a ∨ 1000 < b
theorem c_isSpan (a b : Int32) : fX4_isSpan a b = some (if bsp a b then (0 : Int32) else 1) := by
  unfold fX4_isSpan
  rw [c_isHour, bnd]
  by_cases q : bad 1000 a
  · rw [if_pos q, if_pos rfl, if_pos (Or.inl q)]
  rw [if_neg q, if_neg (by decide)]
  by_cases c : b < a
  · rw [if_pos c, if_pos (Or.inr (Or.inl c))]
  rw [if_neg c]
  by_cases d : 1000 < b
  · rw [if_pos d, if_pos (Or.inr (Or.inr d))]
  rw [if_neg d, if_neg (by rintro (z | z | z) <;> contradiction)]
theorem r_isSpan (a b : Int32) : fX5_isSpan a b = some (if bsp a b then (0 : Int32) else 1) := by
  unfold fX5_isSpan fX5_in
  rw [r_isHour, bnd]
  by_cases q : bad 1000 a
  · rw [if_pos q, if_pos rfl, if_pos (Or.inl q)]
  rw [if_neg q, if_neg (by decide)]
  by_cases c : b < a
  · rw [if_pos c, bnd, if_pos rfl, if_pos (Or.inr (Or.inl c))]
  rw [if_neg c]
  by_cases d : 1000 < b
  · rw [if_pos d, bnd, if_pos rfl, if_pos (Or.inr (Or.inr d))]
  rw [if_neg d, bnd, if_neg (by decide), if_neg (by rintro (z | z | z) <;> contradiction)]
theorem nbsp {a b : Int32} (h : ¬ bsp a b) : ∃ i j : Nat, i ≤ j ∧ j ≤ 1000 ∧ i ≤ 999 ∧ a = nI i ∧ b = nI j := by
  have h1 : ¬ bad 1000 a := fun q => h (Or.inl q)
  obtain ⟨i, hi, rfl⟩ := nbad (by omega) h1
  have h2 : ¬ b < nI i := fun q => h (Or.inr (Or.inl q))
  have h3 : ¬ 1000 < b := fun q => h (Or.inr (Or.inr q))
  rcases ixs b 1001 (by omega) with ⟨j, hj, rfl⟩ | hb | hb
  · refine ⟨i, j, ?_, by omega, by omega, rfl, rfl⟩
    rcases Nat.lt_or_ge j i with z | z
    · exact absurd (nI_lt z (by omega)) h2
    · exact z
  · exact absurd (Int32.lt_of_lt_of_le hb (nI_pos' (by omega))) h2
  · exact absurd (Int32.lt_of_lt_of_le (by decide) hb) h3
theorem pu_midnights (a1 : Int32) (a2 : Int32) (a3 : Int32) {M J : Mem} (hI : Inv M J) : ∃ (r : Int32) (J1 : Mem), fX4_midnights a1 a2 a3 M = some r ∧ fX5_midnights a1 a2 a3 J = some (r, J1) ∧ Inv M J1 := by
  obtain ⟨L, hI⟩ := hI
  have hJ := inv_th hI
  unfold fX4_midnights fX5_midnights
  rw [bnd]
  generalize ms J 0 0 0 = J1 at hJ ⊢
  have hK := hJ
  have hk : Inv M J1 := ⟨L, hK⟩
  obtain ⟨hL, h2, ⟨hC, hCm⟩, ⟨hR, hRm⟩, -⟩ := hJ
  have hT := hL.1
  by_cases q : bad (lT L) a1
  · refine ⟨-1, J1, ?_, ?_, hk⟩ <;> simp only [c_isTown hC.1, r_isTown hL hR.1, q, bnd, ↓reduceIte]
  by_cases p : bsp a2 a3
  · refine ⟨-1, J1, ?_, ?_, hk⟩ <;> simp only [c_isTown hC.1, r_isTown hL hR.1, c_isSpan, r_isSpan, q, p, n10, bnd, ↓reduceIte]
  obtain ⟨t, ht, rfl⟩ := nbad (by omega) q
  obtain ⟨i, j, hij, hj, hi, rfl, rfl⟩ := nbsp p
  obtain ⟨r, J2, e1, e2, s2⟩ := mid_eq hL hC hCm hR hRm ht hij hj
  refine ⟨r, J2, ?_, ?_, L, inv_sJ hK s2⟩
  · simp only [c_isTown hC.1, c_isSpan, q, p, n10, bnd, e1, ↓reduceIte]
  · simp only [r_isTown hL hR.1, r_isSpan, q, p, n10, bnd, e2, ↓reduceIte]
theorem pu_gains (a1 : Int32) (a2 : Int32) (a3 : Int32) (a4 : Int32) {M J : Mem} (hI : Inv M J) : ∃ (r : Int32) (J1 : Mem), fX4_gains a1 a2 a3 a4 M = some r ∧ fX5_gains a1 a2 a3 a4 J = some (r, J1) ∧ Inv M J1 := by
  obtain ⟨L, hI⟩ := hI
  have hJ := inv_th hI
  unfold fX4_gains fX5_gains
  rw [bnd]
  generalize ms J 0 0 0 = J1 at hJ ⊢
  have hK := hJ
  have hk : Inv M J1 := ⟨L, hK⟩
  obtain ⟨hL, h2, ⟨hC, hCm⟩, ⟨hR, hRm⟩, -⟩ := hJ
  have hT := hL.1
  by_cases q : bad (lT L) a1
  · refine ⟨-1000000, J1, ?_, ?_, hk⟩ <;> simp only [c_isTown hC.1, r_isTown hL hR.1, q, bnd, ↓reduceIte]
  by_cases p : bsp a2 a3
  · refine ⟨-1000000, J1, ?_, ?_, hk⟩ <;> simp only [c_isTown hC.1, r_isTown hL hR.1, c_isSpan, r_isSpan, q, p, n10, bnd, ↓reduceIte]
  by_cases c1 : a4 < 1
  · refine ⟨-1000000, J1, ?_, ?_, hk⟩ <;> simp only [c_isTown hC.1, r_isTown hL hR.1, c_isSpan, r_isSpan, q, p, c1, fX5_in_no (lo := 1) (hi := 99) (Or.inl c1), n10, bnd, ↓reduceIte]
  by_cases c2 : a4 ≤ 99
  · obtain ⟨t, ht, rfl⟩ := nbad (by omega) q
    obtain ⟨i, j, hij, hj, hi, rfl, rfl⟩ := nbsp p
    obtain ⟨r, J2, e1, e2, s2⟩ := mid_eq hL hC hCm hR hRm ht hij hj
    have e3 : dvi (nI j - nI i) 24 = some (nI ((j - i) / 24)) := by rw [pk_sub hij, i24, dvi_at (by omega) (by omega) (by omega)]
    refine ⟨a4 * (r - nI ((j - i) / 24)), J2, ?_, ?_, L, inv_sJ hK s2⟩
    · simp only [c_isTown hC.1, c_isSpan, q, p, c1, c2, n10, bnd, e1, e3, ↓reduceIte]
    · simp only [r_isTown hL hR.1, r_isSpan, q, p, fX5_in_yes (lo := 1) (hi := 99) c1 (nlt_of_le c2), n10, bnd, e2, e3, ↓reduceIte]
  · refine ⟨-1000000, J1, ?_, ?_, hk⟩ <;> simp only [c_isTown hC.1, r_isTown hL hR.1, c_isSpan, r_isSpan, q, p, c1, c2, fX5_in_no (lo := 1) (hi := 99) (Or.inr (lt_of_nle c2)), n10, bnd, ↓reduceIte]
