/-! where he could have stood -/
abbrev sT (M : Mem) (k : Nat) : Nat := (M.1 29 k).toNatClampNeg
abbrev sC (M : Mem) (k : Nat) : Nat := (M.1 30 k).toNatClampNeg
abbrev sH (M : Mem) (k : Nat) : Nat := (M.1 31 k).toNatClampNeg
/-- what was seen, in numbers -/
def SN (L : Lnd) (M J : Mem) (cnt : Nat) : Prop := cnt ≤ 8 ∧ M.1 28 1 = nI cnt ∧ J.1 9 1 = nI cnt ∧ ∀ k, k < cnt → (sT M k < lT L ∧ sC M k < 24 ∧ sH M k ≤ 999) ∧ (M.1 29 k = nI (sT M k) ∧ M.1 30 k = nI (sC M k) ∧ M.1 31 k = nI (sH M k)) ∧ (J.1 9 (2 + 3 * k) = nI (sT M k) ∧ J.1 9 (2 + 3 * k + 1) = nI (sC M k) ∧ J.1 9 (2 + 3 * k + 2) = nI (sH M k))
theorem SN_of {L : Lnd} (hL : Lok L) {M J : Mem} (h : SEq (lT L) 28 9 0 M.1 J.1) : ∃ cnt, SN L M J cnt := by
  obtain ⟨now, cnt, s1, s2, s3, s4, s5, s6, s7⟩ := h
  simp only [Nat.zero_add] at s4 s6 s7
  have hT := hL.1
  refine ⟨cnt, s2, s5, s6, fun k hk => ?_⟩
  obtain ⟨t, c, h, a1, a2, a3, a4, a5, a6, a7, a8, a9⟩ := s7 k hk
  have b4 : M.1 29 k = nI t := a4
  have b5 : M.1 30 k = nI c := a5
  have b6 : M.1 31 k = nI h := a6
  have e1 : sT M k = t := by unfold sT; rw [b4, nI_clamp (by omega)]
  have e2 : sC M k = c := by unfold sC; rw [b5, nI_clamp (by omega)]
  have e3 : sH M k = h := by unfold sH; rw [b6, nI_clamp (by omega)]
  rw [e1, e2, e3]
  exact ⟨⟨a1, a2, a3⟩, ⟨b4, b5, b6⟩, ⟨a7, a8, a9⟩⟩
/-- the k-th sight fits a place at D miles from its town -/
def gd (M : Mem) (D : Nat → Option Nat) (h j : Nat) : Bool :=
  if sH M j = h then (match D (sT M j) with | none => false | some d => decide ((12 + d) % 24 = sC M j)) else true
def allF (g : Nat → Bool) : Nat → Nat → Bool
  | _, 0 => true
  | k, n + 1 => g k && allF g (k + 1) n
section PURE5
variable {L : Lnd} {M J : Mem} {cnt : Nat}
theorem c_fits_lp (hL : Lok L) (hS : SN L M J cnt) {p h : Nat} {D : Nat → Option Nat} (hh : h ≤ 999) (hD : ∀ t, t < lT L → fX1_distanceFromPlace (lp (M.1 0 1)) (nI p) (nI t) M = some (encC (D t)) ∧ ∀ v, D t = some v → v ≤ 1950) (K : Option Int32) : ∀ (d k N : Nat), k + d = cnt → d < N → fX4_fits_2 (nI p) (nI h) M K N (nI k) = if allF (gd M D h) k d = true then K else some 0
  | _, _, 0, _, h2 => by omega
  | 0, k, N + 1, h1, _ => by
    unfold fX4_fits_2 allF
    rw [hS.2.1, if_pos (by rw [← h1]; exact Int32.le_refl _), if_pos rfl]
  | d + 1, k, N + 1, h1, h2 => by
    obtain ⟨g0, g1, g2, g3⟩ := hS
    have hk : k < cnt := by omega
    obtain ⟨⟨a1, a2, a3⟩, ⟨a4, a5, a6⟩, -⟩ := g3 k hk
    have hT := hL.1
    have ih := c_fits_lp hL ⟨g0, g1, g2, g3⟩ hh hD K d (k + 1) N (by omega) (by omega)
    unfold fX4_fits_2
    rw [g1, if_neg (nI_ge hk (by omega)), ld_at (by omega) (by omega), ld_at (by omega) (by omega), ld_at (by omega) (by omega), a4, a5, a6, bnd, nI_1, ih]
    show _ = if (gd M D h k && allF (gd M D h) (k + 1) d) = true then K else some 0
    by_cases e : sH M k = h
    · rw [if_pos (by rw [e]), bnd, (hD _ a1).1, bnd]
      have eg : gd M D h k = (match D (sT M k) with | none => false | some d => decide ((12 + d) % 24 = sC M k)) := by unfold gd; rw [if_pos e]
      rw [eg]
      unfold fX4_clockFor
      cases eD : D (sT M k) with
      | none =>
        rw [encC_none, if_pos rfl, bnd, bnd, if_neg (fun z => nI_m9 (show sC M k < 2 ^ 31 by omega) z.symm)]
        rfl
      | some v =>
        have hv := (hD _ a1).2 v eD
        rw [encC_some, if_neg (nI_m9 (by omega)), i12, i24, nI_add, rmi_at (by omega) (by omega) (by omega), bnd, bnd, bnd]
        by_cases z : (12 + v) % 24 = sC M k
        · rw [if_pos (by rw [z])]
          simp only [z, decide_true, Bool.true_and]
        · rw [if_neg (fun q => z (nIe q (by omega) (by omega)))]
          simp only [z, decide_false, Bool.false_and]
          rfl
    · rw [if_neg (fun q => e (nIe q (by omega) (by omega)))]
      have eg : gd M D h k = true := by unfold gd; rw [if_neg e]
      rw [eg, Bool.true_and]
theorem c_fits (hL : Lok L) (hS : SN L M J cnt) {p h : Nat} {D : Nat → Option Nat} (hh : h ≤ 999) (hD : ∀ t, t < lT L → fX1_distanceFromPlace (lp (M.1 0 1)) (nI p) (nI t) M = some (encC (D t)) ∧ ∀ v, D t = some v → v ≤ 1950) : fX4_fits (nI p) (nI h) M = some (if allF (gd M D h) 0 cnt = true then 1 else 0) := by
  unfold fX4_fits
  have := c_fits_lp hL hS hh hD (some 1) cnt 0 mF (by omega) (by have := hS.1; unfold mF; omega)
  rw [nI_0] at this
  rw [this]
  by_cases z : allF (gd M D h) 0 cnt = true
  · rw [if_pos z, if_pos z]
  · rw [if_neg z, if_neg z]
theorem r_so_lp (hL : Lok L) (hS : SN L M J cnt) {h : Nat} {u2 u3 u4 : Int32} {D : Nat → Option Nat} (hh : h ≤ 999) (hD : ∀ t, t < lT L → (if 0 ≤ u3 then ∃ x7, ld (J.1 3) 60 (3 * u3) = some x7 ∧ fX5_farOn (nI t) u3 u4 x7 J = some (encC (D t)) else fX5_farOf (nI t) u2 J = some (encC (D t))) ∧ ∀ v, D t = some v → v ≤ 1950) (K : Int32 → Option Int32) : ∀ (d k N : Nat) (acc : Bool), k + d = cnt → d < N → fX5_isSoAt_6 (nI h) u2 u3 u4 J K N (if acc = true then 1 else 0) (nI k) = K (if (acc && allF (gd M D h) k d) = true then 1 else 0)
  | _, _, 0, _, _, h2 => by omega
  | 0, k, N + 1, acc, h1, _ => by
    unfold fX5_isSoAt_6 allF
    rw [ld_1 (by omega) (by omega), bnd, hS.2.2.1, if_pos (by rw [← h1]; exact Int32.le_refl _), Bool.and_true]
  | d + 1, k, N + 1, acc, h1, h2 => by
    obtain ⟨g0, g1, g2, g3⟩ := hS
    have hk : k < cnt := by omega
    obtain ⟨⟨a1, a2, a3⟩, -, ⟨a4, a5, a6⟩⟩ := g3 k hk
    have hT := hL.1
    have ih := fun acc => r_so_lp hL ⟨g0, g1, g2, g3⟩ hh hD K d (k + 1) N acc (by omega) (by omega)
    have ih0 := ih false
    have ih1 := ih true
    simp only [Bool.false_eq_true, ↓reduceIte, Bool.false_and, Bool.true_and] at ih0 ih1
    unfold fX5_isSoAt_6
    rw [ld_1 (by omega) (by omega), bnd, g2, if_neg (nI_ge hk (by omega))]
    have p3 : (2 : Int32) + 3 * nI k = nI (2 + 3 * k) := by rw [i2, i3, pk_mul, nI_add]
    have p4 : (2 : Int32) + 3 * nI k + 1 = nI (2 + 3 * k + 1) := by rw [p3, nI_1]
    have p5 : (2 : Int32) + 3 * nI k + 2 = nI (2 + 3 * k + 2) := by rw [p3, i2, nI_add]
    rw [p4, p5, p3, nI_1, ld_at (show 2 + 3 * k + 2 < 26 by omega) (by omega), ld_at (show 2 + 3 * k < 26 by omega) (by omega), ld_at (show 2 + 3 * k + 1 < 26 by omega) (by omega), a4, a5, a6, bnd]
    show _ = K (if (acc && (gd M D h k && allF (gd M D h) (k + 1) d)) = true then 1 else 0)
    by_cases e : sH M k = h
    · rw [if_pos (by rw [e])]
      have eg : gd M D h k = (match D (sT M k) with | none => false | some d => decide ((12 + d) % 24 = sC M k)) := by unfold gd; rw [if_pos e]
      rw [eg]
      have tail : ∀ y : Int32, y = encC (D (sT M k)) → (if (if acc = true then (1 : Int32) else 0) = 0 then (fX5_isSoAt_6 (nI h) u2 u3 u4 J K N (0 : Int32) (nI (k + 1))) else (if y = (-9 : Int32) then (fX5_isSoAt_6 (nI h) u2 u3 u4 J K N (0 : Int32) (nI (k + 1))) else (Option.bind (rmi ((12 : Int32) + y) (24 : Int32)) fun x11 => (Option.bind (some (nI (sC M k))) fun x12 => (if x11 = x12 then (fX5_isSoAt_6 (nI h) u2 u3 u4 J K N (1 : Int32) (nI (k + 1))) else (fX5_isSoAt_6 (nI h) u2 u3 u4 J K N (0 : Int32) (nI (k + 1)))))))) = K (if (acc && ((match D (sT M k) with | none => false | some d => decide ((12 + d) % 24 = sC M k)) && allF (gd M D h) (k + 1) d)) = true then 1 else 0) := by
        rintro y rfl
        rw [ih0, ih1]
        cases acc with
        | false => rw [if_pos (show (if false = true then (1 : Int32) else 0) = 0 from rfl), Bool.false_and, if_neg (by decide)]
        | true =>
          rw [if_pos rfl, if_neg (by decide), Bool.true_and]
          cases eD : D (sT M k) with
          | none => rw [encC_none, if_pos rfl, Bool.false_and, if_neg (by decide)]
          | some v =>
            have hv := (hD _ a1).2 v eD
            rw [encC_some, if_neg (nI_m9 (by omega)), i12, i24, nI_add, rmi_at (by omega) (by omega) (by omega), bnd, bnd]
            by_cases z : (12 + v) % 24 = sC M k
            · rw [if_pos (by rw [z])]
              simp only [z, decide_true, Bool.true_and]
            · rw [if_neg (fun q => z (nIe q (by omega) (by omega)))]
              simp only [z, decide_false, Bool.false_and]
              rfl
      have hd := (hD _ a1).1
      by_cases z : 0 ≤ u3
      · rw [if_pos z] at hd ⊢
        obtain ⟨x7, q1, q2⟩ := hd
        rw [bnd, q1, bnd, q2, bnd]
        exact tail _ rfl
      · rw [if_neg z] at hd ⊢
        rw [bnd, hd, bnd]
        exact tail _ rfl
    · rw [if_neg (fun q => e (nIe q (by omega) (by omega)))]
      have eg : gd M D h k = true := by unfold gd; rw [if_neg e]
      rw [eg, Bool.true_and]
      exact ih acc
theorem r_so (hL : Lok L) (hS : SN L M J cnt) {h : Nat} {u2 u3 u4 : Int32} {D : Nat → Option Nat} (hh : h ≤ 999) (hD : ∀ t, t < lT L → (if 0 ≤ u3 then ∃ x7, ld (J.1 3) 60 (3 * u3) = some x7 ∧ fX5_farOn (nI t) u3 u4 x7 J = some (encC (D t)) else fX5_farOf (nI t) u2 J = some (encC (D t))) ∧ ∀ v, D t = some v → v ≤ 1950) : fX5_isSoAt (nI h) u2 u3 u4 J = some (if allF (gd M D h) 0 cnt = true then 1 else 0) := by
  unfold fX5_isSoAt
  have := r_so_lp hL hS hh hD (fun y1 => (Option.bind (zb y1) fun z2 => some z2)) cnt 0 mF true (by omega) (by have := hS.1; unfold mF; omega)
  rw [nI_0, if_pos rfl, Bool.true_and] at this
  rw [this]
  by_cases z : allF (gd M D h) 0 cnt = true
  · rw [if_pos z, zb1, bnd]
  · rw [if_neg z, zb0, bnd]
end PURE5
/-- how far the place p is from the town t -/
def offPl (L : Lnd) (p t : Nat) : Option Nat := if p < 100 then dist L p t else offP L t (p / 100 - 1) (p % 100)
/-- the place p fits all that was seen at the hour h -/
def fitP (L : Lnd) (M : Mem) (cnt h p : Nat) : Bool := allF (gd M (offPl L p) h) 0 cnt
theorem plR_len {L : Lnd} (hL : Lok L) : ∀ r, r ≤ lR L → (plR L r).length ≤ 29 * r
  | 0, _ => Nat.le_refl _
  | r + 1, h => by
    have ih := plR_len hL r (by omega)
    have hR := lRT hL (show r < lR L by omega)
    unfold plR
    rw [List.length_append, List.length_map, List.length_range]
    omega
theorem places_len {L : Lnd} (hL : Lok L) : (places L).length ≤ 296 := by
  have h1 := plR_len hL (lR L) (Nat.le_refl _)
  have h2 := hL.1
  have h3 := hL.2.1
  unfold places
  rw [List.length_append, List.length_range]
  omega
theorem plR_mem {L : Lnd} {p : Nat} : ∀ r, p ∈ plR L r → ∃ q m, q < r ∧ m + 1 < L 4 q ∧ p = 100 * (q + 1) + (m + 1)
  | 0, h => by unfold plR at h; cases h
  | r + 1, h => by
    unfold plR at h
    rcases List.mem_append.mp h with h | h
    · obtain ⟨q, m, h1, h2, h3⟩ := plR_mem r h
      exact ⟨q, m, by omega, h2, h3⟩
    · obtain ⟨i, h1, h2⟩ := List.mem_map.mp h
      have := List.mem_range.mp h1
      exact ⟨r, i, by omega, by omega, h2.symm⟩
theorem places_mem {L : Lnd} {p : Nat} (h : p ∈ places L) : p < lT L ∨ ∃ q m, q < lR L ∧ m < L 4 q ∧ 1 ≤ m ∧ p = 100 * (q + 1) + m := by
  unfold places at h
  rcases List.mem_append.mp h with h | h
  · exact Or.inl (List.mem_range.mp h)
  · obtain ⟨q, m, h1, h2, h3⟩ := plR_mem _ h
    exact Or.inr ⟨q, m + 1, h1, h2, by omega, h3⟩
theorem offPl_town {L : Lnd} (hL : Lok L) {p t : Nat} (h : p < lT L) : offPl L p t = dist L p t := by
  have := hL.1
  unfold offPl; rw [if_pos (by omega)]
theorem offPl_road {L : Lnd} (hL : Lok L) {q m t : Nat} (h : q < lR L) (h2 : m < L 4 q) : offPl L (100 * (q + 1) + m) t = offP L t q m := by
  have := lRT hL h
  unfold offPl
  rw [if_neg (by omega), show (100 * (q + 1) + m) / 100 - 1 = q by omega, show (100 * (q + 1) + m) % 100 = m by omega]
theorem places_lt {L : Lnd} (hL : Lok L) {p : Nat} (h : p ∈ places L) : p < 2000 := by
  have h1 := hL.1
  have h2 := hL.2.1
  rcases places_mem h with h | ⟨q, m, a, b, c, rfl⟩
  · omega
  · have := lRT hL a; omega
theorem c_fitsP {L : Lnd} {M J : Mem} {cnt : Nat} (hL : Lok L) (hC : LC (lp (M.1 0 1)) L M.1) (hm : LCm (lp (M.1 0 1)) L M.1) (hS : SN L M J cnt) {p h : Nat} (hp : p ∈ places L) (hh : h ≤ 999) : fX4_fits (nI p) (nI h) M = some (if fitP L M cnt h p = true then 1 else 0) := by
  refine c_fits hL hS hh (fun t ht => ?_)
  rcases places_mem hp with h1 | ⟨q, m, a, b, c, rfl⟩
  · rw [offPl_town hL h1]
    exact ⟨c_dfp_town hL hC hm h1 ht, fun v hv => by have := dist_le hL hv; omega⟩
  · rw [offPl_road hL a b]
    exact ⟨c_dfp_road hL hC hm ht a (by omega), fun v hv => offP_le hL a (by omega) hv⟩
theorem r_fitsT {L : Lnd} {M J : Mem} {cnt : Nat} (hL : Lok L) (hm : LRm L J.1) (hS : SN L M J cnt) {p h : Nat} (hp : p < lT L) (hh : h ≤ 999) : fX5_isSoAt (nI h) (nI p) (-1) 0 J = some (if fitP L M cnt h p = true then 1 else 0) := by
  refine r_so hL hS hh (fun t ht => ?_)
  rw [offPl_town hL hp, if_neg (by decide), dist_sym]
  exact ⟨r_farOf hL hm ht hp, fun v hv => by have := dist_le hL hv; omega⟩
theorem r_fitsR {L : Lnd} {M J : Mem} {cnt : Nat} (hL : Lok L) (hR : LR L J.1) (hm : LRm L J.1) (hS : SN L M J cnt) {q m h : Nat} (hq : q < lR L) (h1 : m < L 4 q) (hh : h ≤ 999) : fX5_isSoAt (nI h) 0 (nI q) (nI m) J = some (if fitP L M cnt h (100 * (q + 1) + m) = true then 1 else 0) := by
  have hRn := hL.2.1
  refine r_so hL hS hh (fun t ht => ?_)
  rw [offPl_road hL hq h1, if_pos (nI_pos' (by omega))]
  refine ⟨⟨nI (L 2 q), ?_, ?_⟩, fun v hv => offP_le hL hq (by omega) hv⟩
  · rw [i3, pk_mul, ld_at (by omega) (by omega), (hR.2.2.2.2.1 q hq).1]
  · have := r_farOn hL hR hm ht hq (f := L 2 q) (m := m) (Or.inl rfl) (by omega)
    rw [show mil L q (L 2 q) m = m from if_pos rfl] at this
    exact this
def sst (f : Nat → Bool) (s : Nat × Int32) (p : Nat) : Nat × Int32 := if f p = true then (s.1 + 1, if s.1 = 0 then nI p else s.2) else s
theorem sst_cnt (f : Nat → Bool) : ∀ (l : List Nat) (s : Nat × Int32), (l.foldl (sst f) s).1 = s.1 + l.countP f
  | [], s => rfl
  | p :: l, s => by
    rw [List.foldl_cons, sst_cnt f l, List.countP_cons]
    unfold sst
    by_cases c : f p = true
    · rw [if_pos c, if_pos c]; omega
    · rw [if_neg c, if_neg c]; omega
theorem sst_snd (f : Nat → Bool) : ∀ (l : List Nat) (s : Nat × Int32), (l.foldl (sst f) s).2 = if s.1 = 0 then (match l.find? f with | none => s.2 | some p => nI p) else s.2
  | [], s => by simp
  | p :: l, s => by
    rw [List.foldl_cons, sst_snd f l]
    unfold sst
    by_cases c : f p = true
    · rw [if_pos c, if_neg (by simp), List.find?_cons_of_pos c]
    · rw [if_neg c, List.find?_cons_of_neg c]
theorem getD_at {l : List Nat} {i : Nat} (h : i < l.length) : l.getD i 0 = l[i] := by simp [List.getD, h]
section PURE6
variable {L : Lnd} {M J : Mem} {cnt : Nat}
theorem c_fit_cnt (hL : Lok L) (hC : LC (lp (M.1 0 1)) L M.1) (hm : LCm (lp (M.1 0 1)) L M.1) (hS : SN L M J cnt) {h : Nat} (hh : h ≤ 999) (K : Int32 → Option Int32) : ∀ (n i a : Nat), i ≤ (places L).length → (places L).length < i + n → fX4_fittingPlaces_4 (nI h) M K n (nI a) (nI i) = K (nI (a + ((places L).drop i).countP (fitP L M cnt h)))
  | 0, i, a, h1, h2 => by omega
  | n + 1, i, a, h1, h2 => by
    have hl := places_len hL
    unfold fX4_fittingPlaces_4
    rw [hm.2.1]
    by_cases e : i = (places L).length
    · rw [if_pos (by rw [e]; exact Int32.le_refl _), e, List.drop_length]; rfl
    have hi : i < (places L).length := by omega
    rw [if_neg (nI_ge hi (by omega)), ld_at (by omega) (by omega), hm.2.2 i hi, bnd, getD_at hi, c_fitsP hL hC hm hS (List.getElem_mem hi) hh, bnd, List.drop_eq_getElem_cons hi, List.countP_cons, nI_1, nI_1]
    have ih := fun a => c_fit_cnt hL hC hm hS hh K n (i + 1) a (by omega) (by omega)
    by_cases c : fitP L M cnt h (places L)[i] = true
    · rw [if_pos c, if_neg (by decide), if_pos c, ih]
      congr 2; omega
    · rw [if_neg c, if_pos rfl, if_neg c, ih]
      rfl
theorem c_fit_fst (hL : Lok L) (hC : LC (lp (M.1 0 1)) L M.1) (hm : LCm (lp (M.1 0 1)) L M.1) (hS : SN L M J cnt) {h : Nat} (hh : h ≤ 999) : ∀ (n i : Nat), i ≤ (places L).length → (places L).length < i + n → fX4_firstFitting_2 (nI h) M (some (-9)) n (nI i) = some (match ((places L).drop i).find? (fitP L M cnt h) with | none => -9 | some p => nI p)
  | 0, i, h1, h2 => by omega
  | n + 1, i, h1, h2 => by
    have hl := places_len hL
    unfold fX4_firstFitting_2
    rw [hm.2.1]
    by_cases e : i = (places L).length
    · rw [if_pos (by rw [e]; exact Int32.le_refl _), e, List.drop_length]; rfl
    have hi : i < (places L).length := by omega
    rw [if_neg (nI_ge hi (by omega)), ld_at (by omega) (by omega), hm.2.2 i hi, bnd, getD_at hi, c_fitsP hL hC hm hS (List.getElem_mem hi) hh, bnd, List.drop_eq_getElem_cons hi, nI_1]
    have ih := c_fit_fst hL hC hm hS hh n (i + 1) (by omega) (by omega)
    by_cases c : fitP L M cnt h (places L)[i] = true
    · rw [if_pos c, if_neg (by decide), List.find?_cons_of_pos c, bnd]
    · rw [if_neg c, if_pos rfl, List.find?_cons_of_neg c, ih]
theorem sst_y {f : Nat → Bool} {p : Nat} (c : f p = true) (s : Nat × Int32) : sst f s p = (s.1 + 1, if s.1 = 0 then nI p else s.2) := by unfold sst; rw [if_pos c]
theorem sst_n {f : Nat → Bool} {p : Nat} (c : ¬ f p = true) (s : Nat × Int32) : sst f s p = s := by unfold sst; rw [if_neg c]
theorem r_fit_T (hL : Lok L) (hR : LR L J.1) (hm : LRm L J.1) (hS : SN L M J cnt) {h : Nat} (hh : h ≤ 999) (u2 : Int32) (K : Int32 → Int32 → Option Int32) : ∀ (n i : Nat) (s : Nat × Int32), i ≤ lT L → lT L < i + n → s.1 ≤ i → fX5_stoodIn_9 (nI h) u2 J K n (nI s.1) s.2 (nI i) = K (nI (((List.range (lT L)).drop i).foldl (sst (fitP L M cnt h)) s).1) (((List.range (lT L)).drop i).foldl (sst (fitP L M cnt h)) s).2
  | 0, i, s, h1, h2, _ => by omega
  | n + 1, i, s, h1, h2, h3 => by
    have hT := hL.1
    unfold fX5_stoodIn_9
    rw [hR.1]
    by_cases e : i = lT L
    · rw [if_pos (by rw [e]; exact Int32.le_refl _), e, List.drop_eq_nil_of_le (by rw [List.length_range]; exact Nat.le_refl _)]; rfl
    have hi : i < lT L := by omega
    have hi2 : i < (List.range (lT L)).length := by rw [List.length_range]; exact hi
    rw [if_neg (nI_ge hi (by omega)), r_fitsT hL hm hS hi hh, bnd, List.drop_eq_getElem_cons hi2, List.getElem_range, List.foldl_cons, nI_1, nI_1]
    by_cases c : fitP L M cnt h i = true
    · rw [if_pos c, if_neg (by decide), sst_y c]
      by_cases z : s.1 = 0
      · rw [if_pos (by rw [z]; rfl), if_pos z]
        exact r_fit_T hL hR hm hS hh u2 K n (i + 1) (s.1 + 1, nI i) (by omega) (by omega) (by show s.1 + 1 ≤ i + 1; omega)
      · rw [if_neg (nI_ne0 (by omega) (by omega)), if_neg z]
        exact r_fit_T hL hR hm hS hh u2 K n (i + 1) (s.1 + 1, s.2) (by omega) (by omega) (by show s.1 + 1 ≤ i + 1; omega)
    · rw [if_neg c, if_pos rfl, sst_n c]
      exact r_fit_T hL hR hm hS hh u2 K n (i + 1) s (by omega) (by omega) (by omega)
abbrev mls (L : Lnd) (r : Nat) : List Nat := (List.range (L 4 r - 1)).map (fun i => 100 * (r + 1) + (i + 1))
theorem r_fit_M (hL : Lok L) (hR : LR L J.1) (hm : LRm L J.1) (hS : SN L M J cnt) {h : Nat} (hh : h ≤ 999) (u2 : Int32) {r : Nat} (hr : r < lR L) {B : Nat} (hB : B ≤ 1000) (K : Int32 → Int32 → Option Int32) : ∀ (n i : Nat) (s : Nat × Int32), i ≤ L 4 r - 1 → L 4 r - 1 < i + n → s.1 ≤ B + i → fX5_stoodIn_67 (nI h) u2 (nI r) J K n (nI s.1) s.2 (nI (i + 1)) = K (nI (((mls L r).drop i).foldl (sst (fitP L M cnt h)) s).1) (((mls L r).drop i).foldl (sst (fitP L M cnt h)) s).2
  | 0, i, s, h1, h2, _ => by omega
  | n + 1, i, s, h1, h2, h3 => by
    have hRn := hL.2.1
    have hRr := lRT hL hr
    have hlen : (mls L r).length = L 4 r - 1 := by rw [List.length_map, List.length_range]
    unfold fX5_stoodIn_67
    have e0 : ld (J.1 3) 60 (3 * nI r + 2) = some (nI (L 4 r)) := by
      rw [i3, i2, pk_mul, nI_add, ld_at (by omega) (by omega), (hR.2.2.2.2.1 r hr).2.2]
    rw [e0, bnd]
    by_cases e : i = L 4 r - 1
    · rw [if_pos (show nI (L 4 r) ≤ nI (i + 1) from nI_le (by omega) (by omega)), List.drop_eq_nil_of_le (by omega)]; rfl
    have hi : i + 1 < L 4 r := by omega
    have hi2 : i < (mls L r).length := by omega
    have eg : (mls L r)[i] = 100 * (r + 1) + (i + 1) := by simp
    rw [if_neg (nI_ge hi (by omega)), r_fitsR hL hR hm hS hr hi hh, bnd, List.drop_eq_getElem_cons hi2, eg, List.foldl_cons, nI_1, nI_1, nI_1, i100, pk_mul, nI_add]
    by_cases c : fitP L M cnt h (100 * (r + 1) + (i + 1)) = true
    · rw [if_pos c, if_neg (by decide), sst_y c]
      by_cases z : s.1 = 0
      · rw [if_pos (by rw [z]; rfl), if_pos z]
        exact r_fit_M hL hR hm hS hh u2 hr hB K n (i + 1) (s.1 + 1, nI (100 * (r + 1) + (i + 1))) (by omega) (by omega) (by show s.1 + 1 ≤ B + (i + 1); omega)
      · rw [if_neg (nI_ne0 (by omega) (by omega)), if_neg z]
        exact r_fit_M hL hR hm hS hh u2 hr hB K n (i + 1) (s.1 + 1, s.2) (by omega) (by omega) (by show s.1 + 1 ≤ B + (i + 1); omega)
    · rw [if_neg c, if_pos rfl, sst_n c]
      exact r_fit_M hL hR hm hS hh u2 hr hB K n (i + 1) s (by omega) (by omega) (by omega)
theorem r_fit_R (hL : Lok L) (hR : LR L J.1) (hm : LRm L J.1) (hS : SN L M J cnt) {h : Nat} (hh : h ≤ 999) (u2 : Int32) (K : Int32 → Int32 → Option Int32) (s0 : Nat × Int32) (h0 : s0.1 ≤ 6) : ∀ (n r : Nat), r ≤ lR L → lR L < r + n → fX5_stoodIn_55 (nI h) u2 J K n (nI ((plR L r).foldl (sst (fitP L M cnt h)) s0).1) ((plR L r).foldl (sst (fitP L M cnt h)) s0).2 (nI r) = K (nI ((plR L (lR L)).foldl (sst (fitP L M cnt h)) s0).1) ((plR L (lR L)).foldl (sst (fitP L M cnt h)) s0).2
  | 0, r, h1, h2 => by omega
  | n + 1, r, h1, h2 => by
    have hRn := hL.2.1
    unfold fX5_stoodIn_55
    rw [hR.2.1]
    by_cases e : r = lR L
    · rw [if_pos (by rw [e]; exact Int32.le_refl _), e]
    have hr : r < lR L := by omega
    have hRr := lRT hL hr
    have hb : ((plR L r).foldl (sst (fitP L M cnt h)) s0).1 ≤ 6 + 29 * r := by
      rw [sst_cnt]
      have := plR_len hL r h1
      have := List.countP_le_length (p := fitP L M cnt h) (l := plR L r)
      omega
    rw [if_neg (nI_ge hr (by omega)), show (1 : Int32) = nI (0 + 1) from rfl, r_fit_M hL hR hm hS hh u2 hr (B := 6 + 29 * r) (by omega) _ mF 0 _ (by omega) (fuel (by omega)) (by omega), List.drop_zero, ← List.foldl_append]
    show fX5_stoodIn_55 _ _ _ _ n _ _ (nI r + 1) = _
    rw [nI_1]
    exact r_fit_R hL hR hm hS hh u2 K s0 h0 n (r + 1) (by omega) (by omega)
theorem r_stood (hL : Lok L) (hR : LR L J.1) (hm : LRm L J.1) (hS : SN L M J cnt) {h : Nat} (hh : h ≤ 999) (u2 : Int32) : fX5_stoodIn (nI h) u2 J = some (if u2 = 0 then nI ((places L).countP (fitP L M cnt h)) else (match (places L).find? (fitP L M cnt h) with | none => -9 | some p => nI p)) := by
  have hT := hL.1
  unfold fX5_stoodIn
  have e1 := r_fit_T hL hR hm hS hh u2 (fun y1 y2 => (fX5_stoodIn_55 (nI h) u2 J (fun y3 y4 => (if u2 = 0 then some y3 else some y4)) mF y1 y2 (0 : Int32))) mF 0 (0, -9) (by omega) (fuel (by omega)) (Nat.le_refl _)
  have hb : ((List.range (lT L)).foldl (sst (fitP L M cnt h)) (0, -9)).1 ≤ 6 := by
    rw [sst_cnt]
    have := List.countP_le_length (p := fitP L M cnt h) (l := List.range (lT L))
    rw [List.length_range] at this
    show 0 + _ ≤ 6
    omega
  have e2 := r_fit_R hL hR hm hS hh u2 (fun y3 y4 => (if u2 = 0 then some y3 else some y4)) ((List.range (lT L)).foldl (sst (fitP L M cnt h)) (0, -9)) hb mF 0 (by omega) (fuel (by have := hL.2.1; omega))
  refine e1.trans ?_
  rw [List.drop_zero]
  refine e2.trans ?_
  rw [← List.foldl_append]
  show (if u2 = 0 then some (nI ((places L).foldl _ (0, -9)).1) else some ((places L).foldl _ (0, -9)).2) = _
  rw [sst_cnt, sst_snd]
  by_cases z : u2 = 0
  · rw [if_pos z, if_pos z, Nat.zero_add]
  · rw [if_neg z, if_neg z, if_pos rfl]
theorem c_stood0 (hL : Lok L) (hC : LC (lp (M.1 0 1)) L M.1) (hm : LCm (lp (M.1 0 1)) L M.1) (hS : SN L M J cnt) {h : Nat} (hh : h ≤ 999) : fX4_fittingPlaces (nI h) M = some (nI ((places L).countP (fitP L M cnt h))) := by
  have hl := places_len hL
  unfold fX4_fittingPlaces
  refine (c_fit_cnt hL hC hm hS hh (fun y => some y) mF 0 0 (by omega) (fuel (by omega))).trans ?_
  rw [List.drop_zero, Nat.zero_add]
theorem c_stood1 (hL : Lok L) (hC : LC (lp (M.1 0 1)) L M.1) (hm : LCm (lp (M.1 0 1)) L M.1) (hS : SN L M J cnt) {h : Nat} (hh : h ≤ 999) : fX4_firstFitting (nI h) M = some (match (places L).find? (fitP L M cnt h) with | none => -9 | some p => nI p) := by
  have hl := places_len hL
  unfold fX4_firstFitting
  refine (c_fit_fst hL hC hm hS hh mF 0 (by omega) (fuel (by omega))).trans ?_
  rw [List.drop_zero]
/-- no place fits: both say so -/
theorem none_fit (hL : Lok L) {f : Nat → Bool} : ((match (places L).find? f with | none => (-9 : Int32) | some p => nI p) = -9 ↔ nI ((places L).countP f) = 0) := by
  have hl := places_len hL
  have hc := List.countP_le_length (p := f) (l := places L)
  constructor
  · intro h
    cases e : (places L).find? f with
    | none =>
      have : (places L).countP f = 0 := by
        rw [List.countP_eq_zero]
        exact List.find?_eq_none.mp e
      rw [this]; rfl
    | some p =>
      rw [e] at h
      have := places_lt hL (List.mem_of_find?_eq_some e)
      exact absurd h (nI_m9 (by omega))
  · intro h
    have h0 : (places L).countP f = 0 := nIe (b := 0) h (by omega) (by omega)
    rw [List.find?_eq_none.mpr (List.countP_eq_zero.mp h0)]
theorem two_lp (hL : Lok L) (hC : LC (lp (M.1 0 1)) L M.1) (hm : LCm (lp (M.1 0 1)) L M.1) (hR : LR L J.1) (hRm : LRm L J.1) (hS : SN L M J cnt) (J9 : Mem) : ∀ (n k : Nat), k ≤ cnt → cnt < k + n → (∃ r : Int32, fX4_two_2 M (some 0) n (nI k) = some r ∧ fX5_two_9 J (fun y => some (y, J9)) n 0 (nI k) = some (r, J9)) ∧ fX5_two_9 J (fun y => some (y, J9)) n 1 (nI k) = some (1, J9)
  | 0, k, h1, h2 => by omega
  | n + 1, k, h1, h2 => by
    obtain ⟨g0, g1, g2, g3⟩ := hS
    unfold fX4_two_2 fX5_two_9
    rw [g1, ld_1 (by omega) (by omega), bnd, bnd, g2]
    by_cases e : k = cnt
    · rw [e, if_pos (Int32.le_refl _), if_pos (Int32.le_refl _), if_pos (Int32.le_refl _)]
      exact ⟨⟨0, rfl, rfl⟩, rfl⟩
    have hk : k < cnt := by omega
    have z : ¬ nI cnt ≤ nI k := nI_ge hk (by omega)
    obtain ⟨⟨a1, a2, a3⟩, ⟨a4, a5, a6⟩, ⟨a7, a8, a9⟩⟩ := g3 k hk
    obtain ⟨⟨r, i1, i2'⟩, i4⟩ := two_lp hL hC hm hR hRm ⟨g0, g1, g2, g3⟩ J9 n (k + 1) (by omega) (by omega)
    have q1 := c_stood1 hL hC hm ⟨g0, g1, g2, g3⟩ (h := sH M k) (by omega)
    have q2 := r_stood hL hR hRm ⟨g0, g1, g2, g3⟩ (h := sH M k) (by omega) 0
    rw [if_pos rfl] at q2
    have l1 : ld (M.1 (28 + 3)) 8 (nI k) = some (nI (sH M k)) := by rw [ld_at (by omega) (by omega)]; exact congrArg some a6
    have l2 : ld (J.1 9) 26 (2 + 3 * nI k + 2) = some (nI (sH M k)) := by
      rw [i2, i3, pk_mul, nI_add, nI_add, ld_at (by omega) (by omega), a9]
    rw [if_neg z, if_neg z, if_neg z, l1, l2, bnd, bnd, bnd, q1, q2, bnd, bnd, bnd, nI_1]
    by_cases y : nI ((places L).countP (fitP L M cnt (sH M k))) = 0
    · rw [if_pos ((none_fit hL).mpr y), if_pos y, if_pos y]
      exact ⟨⟨1, rfl, i4⟩, i4⟩
    · rw [if_neg (fun w => y ((none_fit hL).mp w)), if_neg y, if_neg y]
      exact ⟨⟨r, i1, i2'⟩, i4⟩
end PURE6
theorem pu_stood (a1 : Int32) (a2 : Int32) {M J : Mem} (hI : Inv M J) : ∃ (r : Int32) (J1 : Mem), fX4_stood a1 a2 M = some r ∧ fX5_stood a1 a2 J = some (r, J1) ∧ Inv M J1 := by
  obtain ⟨L, hI⟩ := hI
  have hJ := inv_th hI
  unfold fX4_stood fX5_stood
  rw [bnd]
  generalize ms J 0 0 0 = J1 at hJ ⊢
  have hK := hJ
  have hk : Inv M J1 := ⟨L, hK⟩
  obtain ⟨hL, h2, ⟨hC, hCm⟩, ⟨hR, hRm⟩, h6, h7, -⟩ := hJ
  obtain ⟨cnt, hS⟩ := SN_of hL h7
  by_cases q : bad 1000 a1
  · refine ⟨-1, J1, ?_, ?_, hk⟩ <;> simp only [c_isHour, r_isHour, q, bndp, ↓reduceIte]
  have e7 : fX5_in a2 0 1 = some (if bad 2 a2 then (0 : Int32) else 1) := r_in2 2 1 rfl (by omega) a2
  by_cases p : bad 2 a2
  · have g0 : ¬ a2 = 0 := bne p 0 (by omega) (by omega)
    have g1 : ¬ a2 = 1 := bne p 1 (by omega) (by omega)
    refine ⟨-1, J1, ?_, ?_, hk⟩ <;> simp only [c_isHour, r_isHour, q, e7, p, g0, g1, n10, bndp, ↓reduceIte]
  obtain ⟨h, hh, rfl⟩ := nbad (by omega) q
  rcases nb2 p with rfl | rfl
  · have c0 := c_stood0 hL hC hCm hS (h := h) (by omega)
    have r0 := r_stood hL hR hRm hS (h := h) (by omega) 0
    rw [if_pos rfl] at r0
    have n01 : ¬ (0 : Int32) = 1 := by decide
    refine ⟨nI ((places L).countP (fitP L M cnt h)), J1, ?_, ?_, hk⟩
    · simp only [c_isHour, q, n10, bndp, c0, ↓reduceIte]
    · simp only [r_isHour, q, e7, p, n10, n01, bndp, r0, ↓reduceIte]
  · have c0 := c_stood1 hL hC hCm hS (h := h) (by omega)
    have r0 := r_stood hL hR hRm hS (h := h) (by omega) 1
    rw [if_neg n10] at r0
    generalize (match (places L).find? (fitP L M cnt h) with | none => (-9 : Int32) | some p => nI p) = r at c0 r0
    refine ⟨r, J1, ?_, ?_, hk⟩
    · simp only [c_isHour, q, n10, bndp, c0, ↓reduceIte]
    · simp only [r_isHour, q, e7, p, n10, bndp, r0, ↓reduceIte]
theorem pu_two {M J : Mem} (hI : Inv M J) : ∃ (r : Int32) (J1 : Mem), fX4_two M = some r ∧ fX5_two J = some (r, J1) ∧ Inv M J1 := by
  obtain ⟨L, hI⟩ := hI
  have hJ := inv_th hI
  unfold fX4_two fX5_two
  rw [bnd]
  generalize ms J 0 0 0 = J1 at hJ ⊢
  have hK := hJ
  obtain ⟨hL, h2, ⟨hC, hCm⟩, ⟨hR, hRm⟩, h6, h7, -⟩ := hJ
  obtain ⟨cnt, hS⟩ := SN_of hL h7
  obtain ⟨⟨r, e1, e2⟩, -⟩ := two_lp hL hC hCm hR hRm hS J1 mF 0 (by omega) (fuel (by have := hS.1; omega))
  exact ⟨r, J1, e1, e2, L, hK⟩
