/-! measuring the land: the class -/
def chg (b : Nat) (M M' : Mem) : Prop := (∀ q, q ≠ b + 9 → M'.1 q = M.1 q) ∧ M'.2 = M.2
theorem chg.refl (b : Nat) (M : Mem) : chg b M M := ⟨fun _ _ => rfl, rfl⟩
theorem chg.trans {b : Nat} {M M1 M2 : Mem} (h : chg b M M1) (g : chg b M1 M2) : chg b M M2 := ⟨fun q hq => (g.1 q hq).trans (h.1 q hq), g.2.trans h.2⟩
theorem chg.put {b : Nat} {M : Mem} (j : Nat) (x : Int32) : chg b M (ms M (b + 9) j x) := ⟨fun q hq => ms_row hq, rfl⟩
theorem LC.chg {b : Nat} {L : Lnd} {M M' : Mem} (h : LC b L M.1) (g : chg b M M') : LC b L M'.1 := by
  unfold LC at h ⊢
  rw [g.1 b (by omega), g.1 (b + 1) (by omega), g.1 (b + 2) (by omega), g.1 (b + 3) (by omega), g.1 (b + 4) (by omega), g.1 (b + 5) (by omega), g.1 (b + 6) (by omega), g.1 (b + 7) (by omega), g.1 (b + 8) (by omega)]
  exact h
def CD (b T : Nat) (D : Nat → Nat → Option Nat) (M : Mem) : Prop := ∀ a, a < T → ∀ c, c < T → M.1 (b + 9) (a * 6 + c) = encC (D a c)
theorem CD.congr {b T : Nat} {D D' : Nat → Nat → Option Nat} {M : Mem} (h : CD b T D M) (e : ∀ a, a < T → ∀ c, c < T → D' a c = D a c) : CD b T D' M := fun a ha c hc => by rw [e a ha c hc]; exact h a ha c hc
def dput (D : Nat → Nat → Option Nat) (a c v : Nat) : Nat → Nat → Option Nat := fun x y => if x = a ∧ y = c then omin (D a c) (some v) else D x y
section MEAS
variable {L : Lnd} {b : Nat}
theorem c_dist' {T : Nat} (hT : T ≤ 6) {D : Nat → Nat → Option Nat} {M : Mem} (h0 : M.1 b 0 = nI T) (hD : CD b T D M) {a c : Nat} (ha : a < T) (hc : c < T) : fX1_distance b (nI a) (nI c) M = some (encC (D a c)) := by
  have it : ∀ x : Int32, fX1_isTown b x M = some (if bad T x then (0 : Int32) else 1) := fun x => by unfold fX1_isTown; rw [h0]; exact c_in _ x
  unfold fX1_distance
  rw [it, if_neg (nbad_j (by omega) ha), bnd, if_neg (by decide), it, if_neg (nbad_j (by omega) hc), bnd, if_neg (by decide), show (6 : Int32) = nI 6 from rfl, pk_mul, nI_add, ld_at (by omega) (by omega), hD a ha c hc, bnd]
theorem c_shorten {T : Nat} (hT : T ≤ 6) {D : Nat → Nat → Option Nat} {M : Mem} (h0 : M.1 b 0 = nI T) (hD : CD b T D M) {a c v : Nat} (ha : a < T) (hc : c < T) (hv : v < 2 ^ 30) (hB : ∀ x, D a c = some x → x < 2 ^ 30) : ∃ M', fX1_shorten b (nI a) (nI c) (nI v) M = some M' ∧ chg b M M' ∧ CD b T (dput D a c v) M' := by
  have it : ∀ x : Int32, fX1_isTown b x M = some (if bad T x then (0 : Int32) else 1) := fun x => by unfold fX1_isTown; rw [h0]; exact c_in _ x
  unfold fX1_shorten
  rw [it, if_neg (nbad_j (by omega) ha), bnd, if_neg (by decide), it, if_neg (nbad_j (by omega) hc), bnd, if_neg (by decide), c_dist' hT h0 hD ha hc, bnd, show (6 : Int32) = nI 6 from rfl, pk_mul, nI_add, sta_at (by omega) (by omega), bnd]
  have put : omin (D a c) (some v) = some v → CD b T (dput D a c v) (ms M (b + 9) (a * 6 + c) (nI v)) := by
    intro e x hx y hy
    unfold dput
    by_cases z : x = a ∧ y = c
    · rw [if_pos z, e, z.1, z.2, ms_eq]; rfl
    · rw [if_neg z, ms_ne (Or.inr (by omega))]; exact hD x hx y hy
  cases e : D a c with
  | none =>
    rw [encC_none, if_pos rfl]
    exact ⟨_, rfl, chg.put _ _, put (by rw [e]; rfl)⟩
  | some x =>
    have hx := hB x e
    rw [encC_some, if_neg (nI_m9 (by omega))]
    by_cases z : x ≤ v
    · rw [if_pos (nI_le z (by omega))]
      refine ⟨M, rfl, chg.refl b M, hD.congr fun p hp q hq => ?_⟩
      unfold dput
      by_cases w : p = a ∧ q = c
      · rw [if_pos w, w.1, w.2, e]
        show some (if v < x then v else x) = _
        rw [if_neg (by omega)]
      · rw [if_neg w]
    · rw [if_neg (nI_ge (by omega) (by omega))]
      refine ⟨_, rfl, chg.put _ _, put ?_⟩
      rw [e]
      show some (if v < x then v else x) = _
      rw [if_pos (by omega)]
theorem mr_2 (K : Mem → Option Mem) : ∀ (n k : Nat) (M : Mem), k ≤ 36 → 36 < k + n → (∀ j, j < k → M.1 (b + 9) j = -9) → ∃ M', chg b M M' ∧ (∀ j, j < 36 → M'.1 (b + 9) j = -9) ∧ fX1_measureRoads_2 b K n (nI k) M = K M'
  | 0, k, M, h1, h2, _ => by omega
  | n + 1, k, M, h1, h2, h3 => by
    unfold fX1_measureRoads_2
    by_cases e : k = 36
    · subst e
      exact ⟨M, chg.refl b M, h3, if_pos (show (36 : Int32) ≤ nI 36 by decide)⟩
    have hk : k < 36 := by omega
    rw [if_neg (show ¬ (36 : Int32) ≤ nI k from nI_ge (b := 36) hk (by omega)), sta_at hk (by omega), bnd, nI_1]
    obtain ⟨M', c1, c2, c3⟩ := mr_2 K n (k + 1) (ms M (b + 9) k (-9)) (by omega) (by omega) (fun j hj => by
      by_cases z : j = k
      · rw [z, ms_eq]
      · rw [ms_ne (Or.inr z)]; exact h3 j (by omega))
    exact ⟨M', (chg.put _ _).trans c1, c2, c3⟩
theorem mr_27 {T : Nat} (hT : T ≤ 6) (K : Mem → Option Mem) : ∀ (n k : Nat) (M : Mem), k ≤ T → T < k + n → M.1 b 0 = nI T → CD b T (fun x y => if x = y ∧ x < k then some 0 else none) M → ∃ M', chg b M M' ∧ CD b T (fun x y => if x = y then some 0 else none) M' ∧ fX1_measureRoads_27 b K n (nI k) M = K M'
  | 0, k, M, h1, h2, _, _ => by omega
  | n + 1, k, M, h1, h2, h0, hD => by
    unfold fX1_measureRoads_27
    rw [h0]
    by_cases e : k = T
    · subst e
      refine ⟨M, chg.refl b M, hD.congr fun a ha c hc => ?_, if_pos (Int32.le_refl _)⟩
      by_cases z : a = c
      · rw [if_pos z, if_pos ⟨z, ha⟩]
      · rw [if_neg z, if_neg (fun w => z w.1)]
    have hk : k < T := by omega
    obtain ⟨M1, q1, q2, q3⟩ := c_shorten (v := 0) hT h0 hD hk hk (by omega) (fun x hx => by
      rw [if_neg (by omega)] at hx; cases hx)
    rw [nI_0] at q1
    rw [if_neg (nI_ge hk (by omega)), q1, bnd, nI_1]
    obtain ⟨M', c1, c2, c3⟩ := mr_27 hT K n (k + 1) M1 (by omega) (by omega) (by rw [q2.1 b (by omega)]; exact h0) (q3.congr fun a ha c hc => by
      unfold dput
      dsimp only
      by_cases z : a = k ∧ c = k
      · rw [if_pos (by omega), if_pos z, if_neg (by omega)]; rfl
      · rw [if_neg z]
        by_cases w : a = c ∧ a < k
        · rw [if_pos w, if_pos (by omega)]
        · rw [if_neg w, if_neg (by omega)])
    exact ⟨M', q2.trans c1, c2, c3⟩
theorem fwE_0 (L : Lnd) (a c : Nat) : fwE L 0 a c = if a = c then some 0 else none := rfl
theorem fwE_S (L : Lnd) (r a c : Nat) : fwE L (r + 1) a c = if (a = L 2 r ∧ c = L 3 r) ∨ (a = L 3 r ∧ c = L 2 r) then omin (fwE L r a c) (some (L 4 r)) else fwE L r a c := rfl
theorem mr_50 (hL : Lok L) (K : Mem → Option Mem) : ∀ (n r : Nat) (M : Mem), r ≤ lR L → lR L < r + n → LC b L M.1 → CD b (lT L) (fwE L r) M → ∃ M', chg b M M' ∧ CD b (lT L) (fwE L (lR L)) M' ∧ fX1_measureRoads_50 b K n (nI r) M = K M'
  | 0, r, M, h1, h2, _, _ => by omega
  | n + 1, r, M, h1, h2, hC, hD => by
    have hT := hL.1
    have hRn := hL.2.1
    unfold fX1_measureRoads_50
    rw [hC.2.1]
    by_cases e : r = lR L
    · subst e
      exact ⟨M, chg.refl b M, hD, if_pos (Int32.le_refl _)⟩
    have hr : r < lR L := by omega
    have hR := lRT hL hr
    have hq := hC.2.2.2.2.1 r hr
    have hB : ∀ x y v, fwE L r x y = some v → v < 2 ^ 30 := fun x y v hv => by have := fwE_le hL r h1 x y v hv; omega
    obtain ⟨M1, q1, q2, q3⟩ := c_shorten hT hC.1 hD hR.1 hR.2.1 (v := L 4 r) (by omega) (hB _ _)
    have hC1 := hC.chg q2
    have hq1 := hC1.2.2.2.2.1 r hr
    obtain ⟨M2, p1, p2, p3⟩ := c_shorten hT hC1.1 q3 hR.2.1 hR.1 (v := L 4 r) (by omega) (fun x hx => by
      unfold dput at hx
      rw [if_neg (by omega)] at hx
      exact hB _ _ _ hx)
    rw [if_neg (nI_ge hr (by omega)), ld_at (by omega) (by omega), hq.1, bnd, ld_at (by omega) (by omega), hq.2.1, bnd, ld_at (by omega) (by omega), hq.2.2, bnd, q1, bnd, ld_at (by omega) (by omega), hq1.2.1, bnd, ld_at (by omega) (by omega), hq1.1, bnd, ld_at (by omega) (by omega), hq1.2.2, bnd, p1, bnd, nI_1]
    obtain ⟨M', c1, c2, c3⟩ := mr_50 hL K n (r + 1) M2 (by omega) (by omega) (hC1.chg p2) (p3.congr fun a ha c hc => by
      rw [fwE_S]
      unfold dput
      by_cases z : a = L 3 r ∧ c = L 2 r
      · rw [if_pos (Or.inr z), if_pos z, if_neg (by omega), z.1, z.2]
      · rw [if_neg z]
        by_cases w : a = L 2 r ∧ c = L 3 r
        · rw [if_pos (Or.inl w), if_pos w, w.1, w.2]
        · rw [if_neg w, if_neg (by rintro (h | h) <;> contradiction)])
    exact ⟨M', (q2.trans p2).trans c1, c2, c3⟩
/-- in the middle of looking at town k: the entries ahead of (a, c) are done -/
def mid (L : Lnd) (k a c : Nat) : Nat → Nat → Option Nat := fun x y => if x < a ∨ (x = a ∧ y < c) then fwP L (k + 1) x y else fwP L k x y
theorem fwP_S (L : Lnd) (k a c : Nat) : fwP L (k + 1) a c = omin (fwP L k a c) (oadd (fwP L k a k) (fwP L k k c)) := rfl
theorem fwP_col (hL : Lok L) (k a : Nat) : fwP L (k + 1) a k = fwP L k a k := by
  rw [fwP_S, fwP_diag hL]
  have : oadd (fwP L k a k) (some 0) = fwP L k a k := by cases fwP L k a k <;> rfl
  rw [this, omin_self]
theorem fwP_row (hL : Lok L) (k c : Nat) : fwP L (k + 1) k c = fwP L k k c := by
  rw [fwP_S, fwP_diag hL]
  have : oadd (some 0) (fwP L k k c) = fwP L k k c := by cases fwP L k k c <;> simp [oadd]
  rw [this, omin_self]
theorem mid_col (hL : Lok L) (k a c x : Nat) : mid L k a c x k = fwP L k x k := by
  unfold mid
  by_cases z : x < a ∨ (x = a ∧ k < c)
  · rw [if_pos z, fwP_col hL]
  · rw [if_neg z]
theorem mid_row (hL : Lok L) (k a c y : Nat) : mid L k a c k y = fwP L k k y := by
  unfold mid
  by_cases z : k < a ∨ (k = a ∧ y < c)
  · rw [if_pos z, fwP_row hL]
  · rw [if_neg z]
theorem mid_at (L : Lnd) (k a c : Nat) : mid L k a c a c = fwP L k a c := by unfold mid; rw [if_neg (by omega)]
theorem mid_next (L : Lnd) (k a c x y : Nat) : mid L k a (c + 1) x y = if x = a ∧ y = c then fwP L (k + 1) a c else mid L k a c x y := by
  unfold mid
  by_cases z : x = a ∧ y = c
  · rw [if_pos (by omega), if_pos z, z.1, z.2]
  · rw [if_neg z]
    by_cases w : x < a ∨ (x = a ∧ y < c)
    · rw [if_pos w, if_pos (by omega)]
    · rw [if_neg w, if_neg (by omega)]
theorem fwP_lt (hL : Lok L) {k : Nat} (hk : k ≤ 6) {a c v : Nat} (h : fwP L k a c = some v) : v ≤ 1920 := by
  have h1 := fwP_le hL k a c v h
  have h2 : 2 ^ k ≤ 2 ^ 6 := Nat.pow_le_pow_right (by omega) hk
  omega
theorem ms_26 (hL : Lok L) {k a : Nat} (hk : k < lT L) (ha : a < lT L) (K : Mem → Option Mem) : ∀ (n c : Nat) (M : Mem), c ≤ lT L → lT L < c + n → M.1 b 0 = nI (lT L) → CD b (lT L) (mid L k a c) M → ∃ M', chg b M M' ∧ CD b (lT L) (mid L k a (lT L)) M' ∧ fX1_measure_26 b (nI k) (nI a) K n (nI c) M = K M'
  | 0, c, M, h1, h2, _, _ => by omega
  | n + 1, c, M, h1, h2, h0, hD => by
    have hT := hL.1
    unfold fX1_measure_26
    rw [h0]
    by_cases e : c = lT L
    · subst e
      exact ⟨M, chg.refl b M, hD, if_pos (Int32.le_refl _)⟩
    have hc : c < lT L := by omega
    have d1 := c_dist' hT h0 hD ha hk
    have d2 := c_dist' hT h0 hD hk hc
    rw [mid_col hL] at d1
    rw [mid_row hL] at d2
    rw [if_neg (nI_ge hc (by omega)), d1, bnd, d2, bnd, nI_1]
    have skip : oadd (fwP L k a k) (fwP L k k c) = none → ∃ M', chg b M M' ∧ CD b (lT L) (mid L k a (lT L)) M' ∧ fX1_measure_26 b (nI k) (nI a) K n (nI (c + 1)) M = K M' := by
      intro ho
      refine ms_26 hL hk ha K n (c + 1) M (by omega) (by omega) h0 (hD.congr fun x hx y hy => ?_)
      rw [mid_next]
      by_cases z : x = a ∧ y = c
      · rw [if_pos z, z.1, z.2, mid_at, fwP_S, ho, omin_none]
      · rw [if_neg z]
    cases e1 : fwP L k a k with
    | none =>
      rw [encC_none, if_pos rfl]
      exact skip (by rw [e1]; rfl)
    | some x =>
      have hx := fwP_lt hL (by omega) e1
      rw [encC_some, if_neg (nI_m9 (by omega))]
      cases e2 : fwP L k k c with
      | none =>
        rw [encC_none, if_pos rfl]
        exact skip (by rw [e1, e2]; rfl)
      | some y =>
        have hy := fwP_lt hL (by omega) e2
        obtain ⟨M1, q1, q2, q3⟩ := c_shorten hT h0 hD ha hc (v := x + y) (by omega) (fun v hv => by
          rw [mid_at] at hv
          have := fwP_lt hL (by omega) hv
          omega)
        rw [encC_some, if_neg (nI_m9 (by omega)), nI_add, q1, bnd]
        obtain ⟨M', c1, c2, c3⟩ := ms_26 hL hk ha K n (c + 1) M1 (by omega) (by omega) (by rw [q2.1 b (by omega)]; exact h0) (q3.congr fun x' hx' y' hy' => by
          rw [mid_next]
          unfold dput
          by_cases z : x' = a ∧ y' = c
          · rw [if_pos z, if_pos z, mid_at, fwP_S, e1, e2]; rfl
          · rw [if_neg z, if_neg z])
        exact ⟨M', q2.trans c1, c2, c3⟩
theorem ms_16 (hL : Lok L) {k : Nat} (hk : k < lT L) (K : Mem → Option Mem) : ∀ (n a : Nat) (M : Mem), a ≤ lT L → lT L < a + n → M.1 b 0 = nI (lT L) → CD b (lT L) (mid L k a 0) M → ∃ M', chg b M M' ∧ CD b (lT L) (fwP L (k + 1)) M' ∧ fX1_measure_16 b (nI k) K n (nI a) M = K M'
  | 0, a, M, h1, h2, _, _ => by omega
  | n + 1, a, M, h1, h2, h0, hD => by
    have hT := hL.1
    unfold fX1_measure_16
    rw [h0]
    by_cases e : a = lT L
    · subst e
      exact ⟨M, chg.refl b M, hD.congr fun x hx y hy => by unfold mid; rw [if_pos (Or.inl hx)], if_pos (Int32.le_refl _)⟩
    have ha : a < lT L := by omega
    rw [if_neg (nI_ge ha (by omega))]
    obtain ⟨M1, q1, q2, q3⟩ := ms_26 hL hk ha (fun M2 => (fX1_measure_16 b (nI k) K n (nI a + 1) M2)) mF 0 M (by omega) (fuel (by omega)) h0 hD
    rw [nI_0] at q3
    rw [q3, nI_1]
    obtain ⟨M', c1, c2, c3⟩ := ms_16 hL hk K n (a + 1) M1 (by omega) (by omega) (by rw [q1.1 b (by omega)]; exact h0) (q2.congr fun x hx y hy => by
      unfold mid
      by_cases z : x < a ∨ (x = a ∧ y < lT L)
      · rw [if_pos z, if_pos (by omega)]
      · rw [if_neg z, if_neg (by omega)])
    exact ⟨M', q1.trans c1, c2, c3⟩
theorem ms_6 (hL : Lok L) (K : Mem → Option Mem) : ∀ (n k : Nat) (M : Mem), k ≤ lT L → lT L < k + n → M.1 b 0 = nI (lT L) → CD b (lT L) (fwP L k) M → ∃ M', chg b M M' ∧ CD b (lT L) (dist L) M' ∧ fX1_measure_6 b K n (nI k) M = K M'
  | 0, k, M, h1, h2, _, _ => by omega
  | n + 1, k, M, h1, h2, h0, hD => by
    have hT := hL.1
    unfold fX1_measure_6
    rw [h0]
    by_cases e : k = lT L
    · subst e
      exact ⟨M, chg.refl b M, hD, if_pos (Int32.le_refl _)⟩
    have hk : k < lT L := by omega
    rw [if_neg (nI_ge hk (by omega))]
    obtain ⟨M1, q1, q2, q3⟩ := ms_16 hL hk (fun M2 => (fX1_measure_6 b K n (nI k + 1) M2)) mF 0 M (by omega) (fuel (by omega)) h0 (hD.congr fun x hx y hy => by unfold mid; rw [if_neg (by omega)])
    rw [nI_0] at q3
    rw [q3, nI_1]
    obtain ⟨M', c1, c2, c3⟩ := ms_6 hL K n (k + 1) M1 (by omega) (by omega) (by rw [q1.1 b (by omega)]; exact h0) q2
    exact ⟨M', q1.trans c1, c2, c3⟩
/-- the places listed so far -/
def PLs (b : Nat) (l : List Nat) (M : Mem) : Prop := M.1 b 12 = nI l.length ∧ ∀ i, i < l.length → M.1 (b + 10) i = nI (l.getD i 0)
def chp (b : Nat) (M M' : Mem) : Prop := (∀ q, q ≠ b → q ≠ b + 10 → M'.1 q = M.1 q) ∧ (∀ j, j ≠ 12 → M'.1 b j = M.1 b j) ∧ M'.2 = M.2
theorem chp.refl (b : Nat) (M : Mem) : chp b M M := ⟨fun _ _ _ => rfl, fun _ _ => rfl, rfl⟩
theorem chp.trans {b : Nat} {M M1 M2 : Mem} (h : chp b M M1) (g : chp b M1 M2) : chp b M M2 := ⟨fun q h1 h2 => (g.1 q h1 h2).trans (h.1 q h1 h2), fun j hj => (g.2.1 j hj).trans (h.2.1 j hj), g.2.2.trans h.2.2⟩
theorem LC.chp {L : Lnd} {M M' : Mem} (h : LC b L M.1) (g : chp b M M') : LC b L M'.1 := by
  unfold LC at h ⊢
  rw [g.2.1 0 (by omega), g.2.1 2 (by omega), g.2.1 6 (by omega), g.1 (b + 1) (by omega) (by omega), g.1 (b + 2) (by omega) (by omega), g.1 (b + 3) (by omega) (by omega), g.1 (b + 4) (by omega) (by omega), g.1 (b + 5) (by omega) (by omega), g.1 (b + 6) (by omega) (by omega), g.1 (b + 7) (by omega) (by omega), g.1 (b + 8) (by omega) (by omega)]
  exact h
theorem c_add {l : List Nat} {M : Mem} (h : PLs b l M) (hl : l.length < 296) (p : Nat) : ∃ M', fX1_addPlace b (nI p) M = some M' ∧ chp b M M' ∧ PLs b (l ++ [p]) M' := by
  unfold fX1_addPlace
  rw [h.1, if_pos (show nI l.length < 296 from nI_lt (b := 296) hl (by omega)), sta_at hl (by omega), bnd, bnd, ms_ne (by omega), h.1, nI_1]
  refine ⟨_, rfl, ⟨fun q h1 h2 => ?_, fun j hj => ?_, rfl⟩, ?_, fun i hi => ?_⟩
  · rw [ms_row h1, ms_row h2]
  · rw [ms_ne (Or.inr hj), ms_ne (by omega)]
  · rw [ms_eq, List.length_append]; rfl
  · rw [List.length_append] at hi
    have hi' : i < l.length + 1 := hi
    rw [ms_ne (by omega)]
    by_cases z : i = l.length
    · subst z
      rw [ms_eq]; simp [List.getD]
    · rw [ms_ne (Or.inr z), h.2 i (by omega)]
      congr 1
      simp only [List.getD]
      rw [List.getElem?_append_left (by omega)]
theorem lp_7 (hL : Lok L) (K : Mem → Option Mem) : ∀ (n k : Nat) (M : Mem), k ≤ lT L → lT L < k + n → M.1 b 0 = nI (lT L) → PLs b (List.range k) M → ∃ M', chp b M M' ∧ PLs b (List.range (lT L)) M' ∧ fX1_listPlaces_7 b K n (nI k) M = K M'
  | 0, k, M, h1, h2, _, _ => by omega
  | n + 1, k, M, h1, h2, h0, hP => by
    have hT := hL.1
    unfold fX1_listPlaces_7
    rw [h0]
    by_cases e : k = lT L
    · subst e
      exact ⟨M, chp.refl b M, hP, if_pos (Int32.le_refl _)⟩
    have hk : k < lT L := by omega
    obtain ⟨M1, q1, q2, q3⟩ := c_add hP (by rw [List.length_range]; omega) k
    rw [if_neg (nI_ge hk (by omega)), q1, bnd, nI_1]
    rw [← List.range_succ] at q3
    obtain ⟨M', c1, c2, c3⟩ := lp_7 hL K n (k + 1) M1 (by omega) (by omega) (by rw [q2.2.1 0 (by omega)]; exact h0) q3
    exact ⟨M', q2.trans c1, c2, c3⟩
theorem lp_38 (hL : Lok L) {r : Nat} (hr : r < lR L) {l0 : List Nat} (hl0 : l0.length ≤ 6 + 29 * r) (K : Mem → Option Mem) : ∀ (n i : Nat) (M : Mem), i ≤ L 4 r - 1 → L 4 r - 1 < i + n → LC b L M.1 → PLs b (l0 ++ (List.range i).map (fun i => 100 * (r + 1) + (i + 1))) M → ∃ M', chp b M M' ∧ PLs b (l0 ++ mls L r) M' ∧ fX1_listPlaces_38 b (nI r) K n (nI (i + 1)) M = K M'
  | 0, i, M, h1, h2, _, _ => by omega
  | n + 1, i, M, h1, h2, hC, hP => by
    have hRn := hL.2.1
    have hR := lRT hL hr
    unfold fX1_listPlaces_38
    rw [ld_at (by omega) (by omega), (hC.2.2.2.2.1 r hr).2.2, bnd]
    by_cases e : i = L 4 r - 1
    · subst e
      exact ⟨M, chp.refl b M, hP, if_pos (nI_le (by omega) (by omega))⟩
    have hi : i + 1 < L 4 r := by omega
    obtain ⟨M1, q1, q2, q3⟩ := c_add hP (by rw [List.length_append, List.length_map, List.length_range]; omega) (100 * (r + 1) + (i + 1))
    rw [if_neg (nI_ge hi (by omega)), nI_1, nI_1, i100, pk_mul, nI_add, q1, bnd]
    have e3 : l0 ++ (List.range i).map (fun i => 100 * (r + 1) + (i + 1)) ++ [100 * (r + 1) + (i + 1)] = l0 ++ (List.range (i + 1)).map (fun i => 100 * (r + 1) + (i + 1)) := by
      rw [List.range_succ, List.map_append, List.append_assoc]; rfl
    rw [e3] at q3
    obtain ⟨M', c1, c2, c3⟩ := lp_38 hL hr hl0 K n (i + 1) M1 (by omega) (by omega) (hC.chp q2) q3
    exact ⟨M', q2.trans c1, c2, c3⟩
theorem lp_28 (hL : Lok L) (K : Mem → Option Mem) : ∀ (n r : Nat) (M : Mem), r ≤ lR L → lR L < r + n → LC b L M.1 → PLs b (List.range (lT L) ++ plR L r) M → ∃ M', chp b M M' ∧ PLs b (places L) M' ∧ fX1_listPlaces_28 b K n (nI r) M = K M'
  | 0, r, M, h1, h2, _, _ => by omega
  | n + 1, r, M, h1, h2, hC, hP => by
    have hT := hL.1
    have hRn := hL.2.1
    unfold fX1_listPlaces_28
    rw [hC.2.1]
    by_cases e : r = lR L
    · subst e
      exact ⟨M, chp.refl b M, hP, if_pos (Int32.le_refl _)⟩
    have hr : r < lR L := by omega
    have hR := lRT hL hr
    have hlen := plR_len hL r h1
    rw [if_neg (nI_ge hr (by omega))]
    obtain ⟨M1, q1, q2, q3⟩ := lp_38 hL hr (l0 := List.range (lT L) ++ plR L r) (by rw [List.length_append, List.length_range]; omega) (fun M2 => (fX1_listPlaces_28 b K n (nI r + 1) M2)) mF 0 M (by omega) (fuel (by omega)) hC (by simpa using hP)
    rw [show nI (0 + 1) = (1 : Int32) from rfl] at q3
    rw [q3, nI_1]
    rw [List.append_assoc] at q2
    obtain ⟨M', c1, c2, c3⟩ := lp_28 hL K n (r + 1) M1 (by omega) (by omega) (hC.chp q1) q2
    exact ⟨M', q1.trans c1, c2, c3⟩
/-- the class measures its land -/
theorem c_measure (hL : Lok L) {M : Mem} (hC : LC b L M.1) : ∃ M', fX1_measure b M = some M' ∧ LC b L M'.1 ∧ LCm b L M'.1 ∧ (∀ q, q ≠ b → q ≠ b + 9 → q ≠ b + 10 → M'.1 q = M.1 q) ∧ M'.2 = M.2 := by
  have hT := hL.1
  obtain ⟨M1, a1, a2, a3⟩ := mr_2 (b := b) (fun M1 => (fX1_measureRoads_27 b (fun M2 => (fX1_measureRoads_50 b (fun M3 => some M3) mF (0 : Int32) M2)) mF (0 : Int32) M1)) mF 0 M (by omega) (fuel (by omega)) (fun j hj => absurd hj (Nat.not_lt_zero j))
  have hC1 := hC.chg a1
  obtain ⟨M2, b1, b2, b3⟩ := mr_27 hT (fun M2 => (fX1_measureRoads_50 b (fun M3 => some M3) mF (0 : Int32) M2)) mF 0 M1 (by omega) (fuel (by omega)) hC1.1 (fun a ha c hc => by
    dsimp only
    rw [a2 (a * 6 + c) (by omega), if_neg (by omega)]; rfl)
  have hC2 := hC1.chg b1
  obtain ⟨M3, c1, c2, c3⟩ := mr_50 hL (fun M3 => some M3) mF 0 M2 (by omega) (fuel (by have := hL.2.1; omega)) hC2 b2
  have hC3 := hC2.chg c1
  have er : fX1_measureRoads b M = some M3 := by
    unfold fX1_measureRoads
    exact a3.trans (b3.trans c3)
  obtain ⟨M4, d1, d2, d3⟩ := ms_6 hL (fun M2 => (Option.bind (fX1_listPlaces b M2) fun x3 => some x3)) mF 0 M3 (by omega) (fuel (by omega)) hC3.1 c2
  have hC4 := hC3.chg d1
  have s0 : chp b M4 (ms M4 b 12 0) := ⟨fun q h1 h2 => ms_row h1, fun j hj => ms_ne (Or.inr hj), rfl⟩
  obtain ⟨M5, e1, e2, e3⟩ := lp_7 hL (fun M2 => (fX1_listPlaces_28 b (fun M3 => some M3) mF (0 : Int32) M2)) mF 0 (ms M4 b 12 0) (by omega) (fuel (by omega)) (hC4.chp s0).1 ⟨by rw [ms_eq]; rfl, fun i hi => absurd hi (Nat.not_lt_zero i)⟩
  have hC5 := (hC4.chp s0).chp e1
  obtain ⟨M6, f1, f2, f3⟩ := lp_28 hL (fun M3 => some M3) mF 0 M5 (by omega) (fuel (by have := hL.2.1; omega)) hC5 (by simpa [plR] using e2)
  have el : fX1_listPlaces b M4 = some M6 := by
    unfold fX1_listPlaces
    rw [bnd]
    exact e3.trans f3
  have g := (s0.trans e1).trans f1
  have h := ((a1.trans b1).trans c1).trans d1
  refine ⟨M6, ?_, hC5.chp f1, ⟨fun a ha c hc => ?_, f2.1, f2.2⟩, fun q h1 h2 h3 => (g.1 q h1 h3).trans (h.1 q h2), g.2.2.trans h.2⟩
  · unfold fX1_measure
    rw [er, bnd]
    refine d3.trans ?_
    rw [el, bnd]
  · rw [g.1 (b + 9) (by omega) (by omega)]; exact d2 a ha c hc
end MEAS
/-! the first road between two towns -/
def fj (g : Nat → Bool) : Nat → Nat → Option Nat
  | 0, _ => none
  | d + 1, r => if g r = true then some r else fj g d (r + 1)
theorem fj_some {g : Nat → Bool} : ∀ (d r q : Nat), fj g d r = some q → r ≤ q ∧ q < r + d ∧ g q = true ∧ ∀ j, r ≤ j → j < q → g j = false
  | 0, r, q, h => by cases h
  | d + 1, r, q, h => by
    unfold fj at h
    by_cases c : g r = true
    · rw [if_pos c] at h
      cases h
      exact ⟨Nat.le_refl _, by omega, c, fun j h1 h2 => by omega⟩
    · rw [if_neg c] at h
      obtain ⟨h1, h2, h3, h4⟩ := fj_some d (r + 1) q h
      refine ⟨by omega, by omega, h3, fun j g1 g2 => ?_⟩
      by_cases e : j = r
      · subst e; exact Bool.eq_false_iff.mpr c
      · exact h4 j (by omega) g2
theorem fj_first {g : Nat → Bool} : ∀ (d r q : Nat), r ≤ q → q < r + d → g q = true → (∀ j, r ≤ j → j < q → g j = false) → fj g d r = some q
  | 0, r, q, h1, h2, _, _ => by omega
  | d + 1, r, q, h1, h2, h3, h4 => by
    unfold fj
    by_cases e : r = q
    · subst e; rw [if_pos h3]
    · rw [if_neg (by rw [h4 r (Nat.le_refl _) (by omega)]; decide)]
      exact fj_first d (r + 1) q (by omega) (by omega) h3 (fun j g1 g2 => h4 j (by omega) g2)
def jn (P Q : Nat → Nat) (a c : Nat) (r : Nat) : Bool := decide ((P r = a ∧ Q r = c) ∨ (P r = c ∧ Q r = a))
def encO (o : Option Nat) : Int32 := match o with
  | none => -9
  | some v => nI v
theorem r_roadOf_lp {J : Mem} {B N a c : Nat} {P Q : Nat → Nat} (hB : B + 3 * N ≤ 60) (hP : ∀ r, r < N → J.1 3 (B + 3 * r) = nI (P r) ∧ J.1 3 (B + 3 * r + 1) = nI (Q r) ∧ P r < 100 ∧ Q r < 100) (ha : a < 100) (hc : c < 100) : ∀ (d n r : Nat), r + d = N → d < n → fX5_roadOf_3 (nI B) (nI N) (nI a) (nI c) J (some (-9)) n (nI r) = some (encO (fj (jn P Q a c) d r))
  | _, 0, _, _, h => by omega
  | 0, n + 1, r, h1, _ => by
    unfold fX5_roadOf_3
    rw [if_pos (by rw [← h1]; exact Int32.le_refl _)]; rfl
  | d + 1, n + 1, r, h1, h2 => by
    have hr : r < N := by omega
    obtain ⟨p1, p2, p3, p4⟩ := hP r hr
    have ih := r_roadOf_lp hB hP ha hc d n (r + 1) (by omega) (by omega)
    unfold fX5_roadOf_3
    rw [if_neg (nI_ge hr (by omega))]
    simp only [i3, pk_mul, nI_add, nI_1]
    rw [ld_at (by omega) (by omega), p1, bnd, ld_at (by omega) (by omega), p2, bnd, ih]
    have ef : ∀ x y : Nat, x < 100 → y < 100 → (nI x = nI y ↔ x = y) := fun x y h1 h2 => nI_eq (by omega) (by omega)
    have eg : fj (jn P Q a c) (d + 1) r = if jn P Q a c r = true then some r else fj (jn P Q a c) d (r + 1) := rfl
    rw [eg]
    unfold jn
    simp only [decide_eq_true_eq, ef _ _ p3 ha, ef _ _ p4 hc, ef _ _ p3 hc, ef _ _ p4 ha]
    by_cases z1 : P r = a
    · by_cases z2 : Q r = c
      · rw [if_pos z1, if_pos z2, if_pos (Or.inl ⟨z1, z2⟩)]; rfl
      · rw [if_pos z1, if_neg z2]
        by_cases z3 : P r = c
        · by_cases z4 : Q r = a
          · rw [if_pos z3, if_pos z4, if_pos (Or.inr ⟨z3, z4⟩)]; rfl
          · rw [if_pos z3, if_neg z4, if_neg (by rintro (w | w) <;> omega)]
        · rw [if_neg z3, if_neg (by rintro (w | w) <;> omega)]
    · rw [if_neg z1]
      by_cases z3 : P r = c
      · by_cases z4 : Q r = a
        · rw [if_pos z3, if_pos z4, if_pos (Or.inr ⟨z3, z4⟩)]; rfl
        · rw [if_pos z3, if_neg z4, if_neg (by rintro (w | w) <;> omega)]
      · rw [if_neg z3, if_neg (by rintro (w | w) <;> omega)]
theorem r_roadOf {J : Mem} {B N a c : Nat} {P Q : Nat → Nat} (hB : B + 3 * N ≤ 60) (hP : ∀ r, r < N → J.1 3 (B + 3 * r) = nI (P r) ∧ J.1 3 (B + 3 * r + 1) = nI (Q r) ∧ P r < 100 ∧ Q r < 100) (ha : a < 100) (hc : c < 100) : fX5_roadOf (nI B) (nI N) (nI a) (nI c) J = some (encO (fj (jn P Q a c) N 0)) := by
  unfold fX5_roadOf
  exact r_roadOf_lp hB hP ha hc N mF 0 (by omega) (by unfold mF; omega)
/-! reckoning: the reference -/
def ch6 (J J' : Mem) : Prop := (∀ q, q ≠ 6 → J'.1 q = J.1 q) ∧ J'.2 = J.2
theorem ch6.refl (J : Mem) : ch6 J J := ⟨fun _ _ => rfl, rfl⟩
theorem ch6.trans {J J1 J2 : Mem} (h : ch6 J J1) (g : ch6 J1 J2) : ch6 J J2 := ⟨fun q hq => (g.1 q hq).trans (h.1 q hq), g.2.trans h.2⟩
theorem ch6.put {J : Mem} (j : Nat) (x : Int32) : ch6 J (ms J 6 j x) := ⟨fun q hq => ms_row hq, rfl⟩
def RD (D : Nat → Nat → Option Nat) (J : Mem) : Prop := ∀ a, a < 6 → ∀ c, c < 6 → J.1 6 (6 * a + c) = encM (D a c)
theorem RD.congr {D D' : Nat → Nat → Option Nat} {J : Mem} (h : RD D J) (e : ∀ a, a < 6 → ∀ c, c < 6 → D' a c = D a c) : RD D' J := fun a ha c hc => by rw [e a ha c hc]; exact h a ha c hc
theorem RD.put {D : Nat → Nat → Option Nat} {J : Mem} (h : RD D J) {a c : Nat} (ha : a < 6) (hc : c < 6) (o : Option Nat) : RD (fun x y => if x = a ∧ y = c then o else D x y) (ms J 6 (6 * a + c) (encM o)) := by
  intro x hx y hy
  dsimp only
  by_cases z : x = a ∧ y = c
  · rw [if_pos z, z.1, z.2, ms_eq]
  · rw [if_neg z, ms_ne (Or.inr (by omega))]; exact h x hx y hy
/-- the reference's land, without what is reckoned -/
def LR0 (L : Lnd) (g : Nat → Nat → Int32) : Prop :=
  g 0 13 = nI (lT L) ∧ g 0 14 = nI (lR L) ∧ g 0 15 = nI (lS L) ∧
  (∀ i, i < lT L → g 2 i = nI (L 1 i)) ∧
  (∀ r, r < lR L → g 3 (3 * r) = nI (L 2 r) ∧ g 3 (3 * r + 1) = nI (L 3 r) ∧ g 3 (3 * r + 2) = nI (L 4 r)) ∧
  (∀ k, k < lS L → g 4 k = nI (L 5 k) ∧ g 5 k = nI (L 6 k))
theorem LR0.ch6 {L : Lnd} {J J' : Mem} (h : LR0 L J.1) (g : ch6 J J') : LR0 L J'.1 := by
  unfold LR0 at h ⊢
  rw [g.1 0 (by omega), g.1 2 (by omega), g.1 3 (by omega), g.1 4 (by omega), g.1 5 (by omega)]
  exact h
/-- the road by which he comes is the first one told -/
def Lfst (L : Lnd) : Prop := ∀ k, k + 1 < lS L → ∀ r, r < L 8 (k + 1) → jn (L 2) (L 3) (L 5 k) (L 5 (k + 1)) r = false
section RECK
variable {L : Lnd}
theorem rk_2 (K : Mem → Option Mem) : ∀ (n k : Nat) (J : Mem), k ≤ 36 → 36 < k + n → (∀ a, a < 6 → ∀ c, c < 6 → 6 * a + c < k → J.1 6 (6 * a + c) = encM (fwE L 0 a c)) → ∃ J', ch6 J J' ∧ RD (fwE L 0) J' ∧ fX5_reckons_2 K n (nI k) J = K J'
  | 0, k, J, h1, h2, _ => by omega
  | n + 1, k, J, h1, h2, h3 => by
    unfold fX5_reckons_2
    by_cases e : k = 36
    · subst e
      exact ⟨J, ch6.refl J, fun a ha c hc => h3 a ha c hc (by omega), if_pos (show (36 : Int32) ≤ nI 36 by decide)⟩
    have hk : k < 36 := by omega
    rw [if_neg (show ¬ (36 : Int32) ≤ nI k from nI_ge (b := 36) hk (by omega)), i6, dvi_at (by omega) (by omega) (by omega), bnd, rmi_at (by omega) (by omega) (by omega), bnd, sta_at hk (by omega), bnd, sta_at hk (by omega), bnd, nI_1]
    have step : ∀ x : Int32, x = encM (fwE L 0 (k / 6) (k % 6)) → ∃ J', ch6 J J' ∧ RD (fwE L 0) J' ∧ fX5_reckons_2 K n (nI (k + 1)) (ms J 6 k x) = K J' := by
      intro x hx
      obtain ⟨J', c1, c2, c3⟩ := rk_2 K n (k + 1) (ms J 6 k x) (by omega) (by omega) (fun a ha c hc h => by
        by_cases z : 6 * a + c = k
        · rw [z, ms_eq, hx, show k / 6 = a by omega, show k % 6 = c by omega]
        · rw [ms_ne (Or.inr z)]; exact h3 a ha c hc (by omega))
      exact ⟨J', (ch6.put _ _).trans c1, c2, c3⟩
    by_cases z : k / 6 = k % 6
    · rw [if_pos (by rw [z])]
      exact step 0 (by rw [fwE_0, if_pos z]; rfl)
    · rw [if_neg (fun q => z (nIe q (by omega) (by omega)))]
      exact step (-1000000) (by rw [fwE_0, if_neg z]; rfl)
theorem encM_none : encM none = -1000000 := rfl
theorem encM_some (v : Nat) : encM (some v) = nI v := rfl
theorem r_omin {x y : Nat} (hx : x < 2 ^ 31) (hy : y < 2 ^ 31) : fX5_lesser (nI x) (nI y) = some (encM (omin (some x) (some y))) := by
  rw [r_lesser hx hy]
  show some (nI _) = some (nI (if y < x then y else x))
  congr 2
  by_cases z : y < x
  · rw [if_pos z, if_pos (by omega)]
  · rw [if_neg z]
    by_cases w : y ≤ x
    · rw [if_pos w]; omega
    · rw [if_neg w]
theorem rk_39 (hL : Lok L) (K : Mem → Option Mem) : ∀ (n r : Nat) (J : Mem), r ≤ lR L → lR L < r + n → LR0 L J.1 → RD (fwE L r) J → ∃ J', ch6 J J' ∧ RD (fwE L (lR L)) J' ∧ fX5_reckons_39 K n (nI r) J = K J'
  | 0, r, J, h1, h2, _, _ => by omega
  | n + 1, r, J, h1, h2, hR0, hD => by
    have hT := hL.1
    have hRn := hL.2.1
    unfold fX5_reckons_39
    rw [hR0.2.1]
    by_cases e : r = lR L
    · subst e
      exact ⟨J, ch6.refl J, hD, if_pos (Int32.le_refl _)⟩
    have hr : r < lR L := by omega
    have hR := lRT hL hr
    have hq := hR0.2.2.2.2.1 r hr
    rw [if_neg (nI_ge hr (by omega))]
    simp only [i2, i3, i6, pk_mul, nI_add, nI_1]
    rw [ld_at (by omega) (by omega), hq.1, bnd, ld_at (by omega) (by omega), hq.2.1, bnd, bnd, bnd, ld_at (by omega) (by omega), hq.2.2]
    simp only [bndp, pk_mul, nI_add]
    rw [ld_at (show 6 * L 2 r + L 3 r < 36 by omega) (by omega), hD _ (by omega) _ (by omega)]
    simp only [bndp]
    have step : ∃ J', ch6 J J' ∧ RD (fwE L (lR L)) J' ∧ fX5_reckons_39 K n (nI (r + 1)) (ms (ms J 6 (6 * L 2 r + L 3 r) (encM (omin (fwE L r (L 2 r) (L 3 r)) (some (L 4 r))))) 6 (6 * L 3 r + L 2 r) (encM (omin (fwE L r (L 2 r) (L 3 r)) (some (L 4 r))))) = K J' := by
      have c0 : ch6 J (ms (ms J 6 (6 * L 2 r + L 3 r) (encM (omin (fwE L r (L 2 r) (L 3 r)) (some (L 4 r))))) 6 (6 * L 3 r + L 2 r) (encM (omin (fwE L r (L 2 r) (L 3 r)) (some (L 4 r))))) := (ch6.put _ _).trans (ch6.put _ _)
      obtain ⟨J', c1, c2, c3⟩ := rk_39 hL K n (r + 1) _ (by omega) (by omega) (hR0.ch6 c0) (((hD.put (show L 2 r < 6 by omega) (show L 3 r < 6 by omega) (omin (fwE L r (L 2 r) (L 3 r)) (some (L 4 r)))).put (show L 3 r < 6 by omega) (show L 2 r < 6 by omega) (omin (fwE L r (L 2 r) (L 3 r)) (some (L 4 r)))).congr fun a ha c hc => by
        rw [fwE_S]
        by_cases z : a = L 3 r ∧ c = L 2 r
        · rw [if_pos (Or.inr z), if_pos z, z.1, z.2, fwE_sym]
        · rw [if_neg z]
          by_cases w : a = L 2 r ∧ c = L 3 r
          · rw [if_pos (Or.inl w), if_pos w, w.1, w.2]
          · rw [if_neg w, if_neg (by rintro (h | h) <;> contradiction)])
      exact ⟨J', c0.trans c1, c2, c3⟩
    cases e1 : fwE L r (L 2 r) (L 3 r) with
    | none =>
      rw [e1] at step
      rw [encM_none, if_pos rfl, sta_at (show 6 * L 2 r + L 3 r < 36 by omega) (by omega), bnd, ld_at (show 6 * L 2 r + L 3 r < 36 by omega) (by omega), bnd, ms_eq, sta_at (show 6 * L 3 r + L 2 r < 36 by omega) (by omega), bnd]
      exact step
    | some x =>
      have hx := fwE_le hL r h1 _ _ _ e1
      rw [e1] at step
      rw [encM_some, if_neg (nI_mM (by omega)), r_omin (by omega) (by omega), bnd, sta_at (show 6 * L 2 r + L 3 r < 36 by omega) (by omega), bnd, ld_at (show 6 * L 2 r + L 3 r < 36 by omega) (by omega), bnd, ms_eq, sta_at (show 6 * L 3 r + L 2 r < 36 by omega) (by omega), bnd]
      exact step
theorem rk_178 (hL : Lok L) {k a : Nat} (hk : k < 6) (ha : a < 6) (K : Mem → Option Mem) : ∀ (n c : Nat) (J : Mem), c ≤ 6 → 6 < c + n → RD (mid L k a c) J → ∃ J', ch6 J J' ∧ RD (mid L k a 6) J' ∧ fX5_reckons_178 (nI k) (nI a) K n (nI c) J = K J'
  | 0, c, J, h1, h2, _ => by omega
  | n + 1, c, J, h1, h2, hD => by
    unfold fX5_reckons_178
    by_cases e : c = 6
    · subst e
      exact ⟨J, ch6.refl J, hD, if_pos (show (6 : Int32) ≤ nI 6 by decide)⟩
    have hc : c < 6 := by omega
    rw [if_neg (show ¬ (6 : Int32) ≤ nI c from nI_ge (b := 6) hc (by omega))]
    simp only [i6, pk_mul, nI_add, nI_1]
    have d1 := hD a ha k hk
    have d2 := hD k hk c hc
    have d3 := hD a ha c hc
    rw [mid_col hL] at d1
    rw [mid_row hL] at d2
    rw [mid_at] at d3
    rw [ld_at (show 6 * a + k < 36 by omega) (by omega), d1, ld_at (show 6 * k + c < 36 by omega) (by omega), d2, ld_at (show 6 * a + c < 36 by omega) (by omega), d3]
    simp only [bndp]
    have skip : oadd (fwP L k a k) (fwP L k k c) = none → ∃ J', ch6 J J' ∧ RD (mid L k a 6) J' ∧ fX5_reckons_178 (nI k) (nI a) K n (nI (c + 1)) J = K J' := by
      intro ho
      refine rk_178 hL hk ha K n (c + 1) J (by omega) (by omega) (hD.congr fun x hx y hy => ?_)
      rw [mid_next]
      by_cases z : x = a ∧ y = c
      · rw [if_pos z, z.1, z.2, mid_at, fwP_S, ho, omin_none]
      · rw [if_neg z]
    have step : ∃ J', ch6 J J' ∧ RD (mid L k a 6) J' ∧ fX5_reckons_178 (nI k) (nI a) K n (nI (c + 1)) (ms J 6 (6 * a + c) (encM (fwP L (k + 1) a c))) = K J' := by
      obtain ⟨J', c1, c2, c3⟩ := rk_178 hL hk ha K n (c + 1) _ (by omega) (by omega) ((hD.put ha hc (fwP L (k + 1) a c)).congr fun x hx y hy => by rw [mid_next])
      exact ⟨J', (ch6.put _ _).trans c1, c2, c3⟩
    rw [fwP_S] at step
    cases e1 : fwP L k a k with
    | none =>
      rw [encM_none, if_pos rfl]
      exact skip (by rw [e1]; rfl)
    | some x =>
      have hx := fwP_lt hL (by omega) e1
      rw [encM_some, if_neg (nI_mM (by omega))]
      cases e2 : fwP L k k c with
      | none =>
        rw [encM_none, if_pos rfl]
        exact skip (by rw [e1, e2]; rfl)
      | some y =>
        have hy := fwP_lt hL (by omega) e2
        rw [e1, e2] at step
        rw [encM_some, if_neg (nI_mM (by omega)), nI_add]
        cases e3 : fwP L k a c with
        | none =>
          rw [e3] at step
          rw [encM_none, if_pos rfl, sta_at (show 6 * a + c < 36 by omega) (by omega), bnd]
          exact step
        | some v =>
          have hv := fwP_lt hL (by omega) e3
          rw [e3] at step
          rw [encM_some, if_neg (nI_mM (by omega)), r_omin (by omega) (by omega), bnd, sta_at (show 6 * a + c < 36 by omega) (by omega), bnd]
          exact step
theorem rk_170 (hL : Lok L) {k : Nat} (hk : k < 6) (K : Mem → Option Mem) : ∀ (n a : Nat) (J : Mem), a ≤ 6 → 6 < a + n → RD (mid L k a 0) J → ∃ J', ch6 J J' ∧ RD (fwP L (k + 1)) J' ∧ fX5_reckons_170 (nI k) K n (nI a) J = K J'
  | 0, a, J, h1, h2, _ => by omega
  | n + 1, a, J, h1, h2, hD => by
    unfold fX5_reckons_170
    by_cases e : a = 6
    · subst e
      exact ⟨J, ch6.refl J, hD.congr fun x hx y hy => by unfold mid; rw [if_pos (Or.inl hx)], if_pos (show (6 : Int32) ≤ nI 6 by decide)⟩
    have ha : a < 6 := by omega
    rw [if_neg (show ¬ (6 : Int32) ≤ nI a from nI_ge (b := 6) ha (by omega))]
    obtain ⟨J1, q1, q2, q3⟩ := rk_178 hL hk ha (fun M2 => (fX5_reckons_170 (nI k) K n (nI a + 1) M2)) mF 0 J (by omega) (fuel (by omega)) hD
    rw [nI_0] at q3
    rw [q3, nI_1]
    obtain ⟨J', c1, c2, c3⟩ := rk_170 hL hk K n (a + 1) J1 (by omega) (by omega) (q2.congr fun x hx y hy => by
      unfold mid
      by_cases z : x < a ∨ (x = a ∧ y < 6)
      · rw [if_pos z, if_pos (by omega)]
      · rw [if_neg z, if_neg (by omega)])
    exact ⟨J', q1.trans c1, c2, c3⟩
theorem rk_162 (hL : Lok L) (K : Mem → Option Mem) : ∀ (n k : Nat) (J : Mem), k ≤ 6 → 6 < k + n → RD (fwP L k) J → ∃ J', ch6 J J' ∧ RD (dist L) J' ∧ fX5_reckons_162 K n (nI k) J = K J'
  | 0, k, J, h1, h2, _ => by omega
  | n + 1, k, J, h1, h2, hD => by
    unfold fX5_reckons_162
    by_cases e : k = 6
    · subst e
      refine ⟨J, ch6.refl J, hD.congr fun x hx y hy => ?_, if_pos (show (6 : Int32) ≤ nI 6 by decide)⟩
      have := fwP_6 hL (6 - lT L) x y
      rw [show lT L + (6 - lT L) = 6 by have := hL.1; omega] at this
      exact this.symm
    have hk : k < 6 := by omega
    rw [if_neg (show ¬ (6 : Int32) ≤ nI k from nI_ge (b := 6) hk (by omega))]
    obtain ⟨J1, q1, q2, q3⟩ := rk_170 hL hk (fun M2 => (fX5_reckons_162 K n (nI k + 1) M2)) mF 0 J (by omega) (fuel (by omega)) (hD.congr fun x hx y hy => by unfold mid; rw [if_neg (by omega)])
    rw [nI_0] at q3
    rw [q3, nI_1]
    obtain ⟨J', c1, c2, c3⟩ := rk_162 hL K n (k + 1) J1 (by omega) (by omega) q2
    exact ⟨J', q1.trans c1, c2, c3⟩
end RECK
def ch78 (J J' : Mem) : Prop := (∀ q, q ≠ 7 → q ≠ 8 → J'.1 q = J.1 q) ∧ J'.2 = J.2
theorem ch78.refl (J : Mem) : ch78 J J := ⟨fun _ _ _ => rfl, rfl⟩
theorem ch78.trans {J J1 J2 : Mem} (h : ch78 J J1) (g : ch78 J1 J2) : ch78 J J2 := ⟨fun q h1 h2 => (g.1 q h1 h2).trans (h.1 q h1 h2), g.2.trans h.2⟩
theorem LR0.ch78 {L : Lnd} {J J' : Mem} (h : LR0 L J.1) (g : ch78 J J') : LR0 L J'.1 := by
  unfold LR0 at h ⊢
  rw [g.1 0 (by omega) (by omega), g.1 2 (by omega) (by omega), g.1 3 (by omega) (by omega), g.1 4 (by omega) (by omega), g.1 5 (by omega) (by omega)]
  exact h
theorem rk_309 {L : Lnd} (hL : Lok L) (hF : Lfst L) (K : Mem → Option Mem) : ∀ (n k : Nat) (J : Mem), k ≤ lS L → lS L < k + n → LR0 L J.1 → (∀ j, j < k → J.1 8 j = nI (L 7 j)) → (∀ j, j + 1 < k → J.1 7 (j + 1) = nI (L 8 (j + 1))) → ∃ J', ch78 J J' ∧ (∀ j, j < lS L → J'.1 8 j = nI (L 7 j)) ∧ (∀ j, j + 1 < lS L → J'.1 7 (j + 1) = nI (L 8 (j + 1))) ∧ fX5_reckons_309 K n (nI k) J = K J'
  | 0, k, J, h1, h2, _, _, _ => by omega
  | n + 1, k, J, h1, h2, hR, h8, h7 => by
    have hT := hL.1
    have hRn := hL.2.1
    have hS := hL.2.2.1
    unfold fX5_reckons_309
    rw [hR.2.2.1]
    by_cases e : k = lS L
    · subst e
      exact ⟨J, ch78.refl J, h8, h7, if_pos (Int32.le_refl _)⟩
    have hk : k < lS L := by omega
    rw [if_neg (nI_ge hk (by omega))]
    by_cases z : k = 0
    · subst z
      have l7 : L 7 0 = 0 := by have := (hL.2.2.2.2.2.1 0 hk).2.2; omega
      rw [if_pos (show nI 0 = 0 from rfl), sta_at (by omega) (by omega), bnd, if_pos (show nI 0 = 0 from rfl), sta_at (by omega) (by omega), bnd, nI_1]
      have c0 : ch78 J (ms (ms J 7 0 (-9)) 8 0 0) := ⟨fun q a b => by rw [ms_row b, ms_row a], rfl⟩
      obtain ⟨J', c1, c2, c3, c4⟩ := rk_309 hL hF K n 1 _ (by omega) (by omega) (hR.ch78 c0) (fun j hj => by
        have : j = 0 := by omega
        subst this
        rw [ms_eq, l7]; rfl) (fun j hj => by omega)
      exact ⟨J', c0.trans c1, c2, c3, c4⟩
    · obtain ⟨m, rfl⟩ : ∃ m, k = m + 1 := ⟨k - 1, by omega⟩
      have hm := hL.2.2.2.2.2.2 m hk
      have hs1 := hL.2.2.2.2.2.1 m (by omega)
      have hs2 := hL.2.2.2.2.2.1 (m + 1) hk
      have g1 := hR.2.2.2.2.2 m (by omega)
      have g2 := hR.2.2.2.2.2 (m + 1) hk
      have hRr := lRT hL hm.1
      have hroad : fX5_roadOf 0 (nI (lR L)) (nI (L 5 m)) (nI (L 5 (m + 1))) J = some (nI (L 8 (m + 1))) := by
        have := r_roadOf (J := J) (B := 0) (N := lR L) (P := L 2) (Q := L 3) (a := L 5 m) (c := L 5 (m + 1)) (by omega) (fun r hr => by
          have := hR.2.2.2.2.1 r hr
          have b := lRT hL hr
          simp only [Nat.zero_add]
          exact ⟨this.1, this.2.1, by omega, by omega⟩) (by omega) (by omega)
        rw [nI_0] at this
        rw [this, fj_first (lR L) 0 (L 8 (m + 1)) (by omega) (by omega) (by
          unfold jn
          rw [decide_eq_true_eq]
          rcases hm.2.1 with w | w
          · exact Or.inl w
          · exact Or.inr w) (fun j a b => hF m hk j b)]
        rfl
      have n0 : ¬ nI (m + 1) = 0 := nI_ne0 (by omega) (by omega)
      rw [if_neg n0, nI_pred, ld_at (by omega) (by omega), g1.1, bnd, ld_at (by omega) (by omega), g2.1, bnd, hR.2.1, hroad, bnd, sta_at (by omega) (by omega), bnd, if_neg n0, ld_at (by omega) (by omega), ms_ne (by omega), h8 m (by omega), bnd, ld_at (by omega) (by omega), ms_ne (by omega), g1.2, bnd, ld_at (by omega) (by omega), ms_eq, bnd]
      simp only [i2, i3, pk_mul, nI_add, nI_1]
      rw [ld_at (by omega) (by omega), ms_ne (by omega), (hR.2.2.2.2.1 _ hm.1).2.2, bnd, nI_add, ← hm.2.2, sta_at (by omega) (by omega), bnd]
      have c0 : ch78 J (ms (ms J 7 (m + 1) (nI (L 8 (m + 1)))) 8 (m + 1) (nI (L 7 (m + 1)))) := ⟨fun q a b => by rw [ms_row b, ms_row a], rfl⟩
      obtain ⟨J', c1, c2, c3, c4⟩ := rk_309 hL hF K n (m + 1 + 1) _ (by omega) (by omega) (hR.ch78 c0) (fun j hj => by
        by_cases w : j = m + 1
        · subst w; rw [ms_eq]
        · rw [ms_ne (Or.inr w), ms_ne (by omega)]; exact h8 j (by omega)) (fun j hj => by
        rw [ms_ne (by omega)]
        by_cases w : j = m
        · subst w; rw [ms_eq]
        · rw [ms_ne (by omega)]; exact h7 j (by omega))
      exact ⟨J', c0.trans c1, c2, c3, c4⟩
theorem r_reckons {L : Lnd} (hL : Lok L) (hF : Lfst L) {J : Mem} (hR : LR0 L J.1) : ∃ J', fX5_reckons J = some J' ∧ LR L J'.1 ∧ LRm L J'.1 ∧ (∀ q, q ≠ 6 → q ≠ 7 → q ≠ 8 → J'.1 q = J.1 q) ∧ J'.2 = J.2 := by
  have hT := hL.1
  obtain ⟨J1, a1, a2, a3⟩ := rk_2 (L := L) (fun M1 => (fX5_reckons_39 (fun M2 => (fX5_reckons_162 (fun M3 => (fX5_reckons_309 (fun M4 => some M4) mF (0 : Int32) M3)) mF (0 : Int32) M2)) mF (0 : Int32) M1)) mF 0 J (by omega) (fuel (by omega)) (fun a ha c hc h => absurd h (Nat.not_lt_zero _))
  have hR1 := hR.ch6 a1
  obtain ⟨J2, b1, b2, b3⟩ := rk_39 hL (fun M2 => (fX5_reckons_162 (fun M3 => (fX5_reckons_309 (fun M4 => some M4) mF (0 : Int32) M3)) mF (0 : Int32) M2)) mF 0 J1 (by omega) (fuel (by have := hL.2.1; omega)) hR1 a2
  have hR2 := hR1.ch6 b1
  obtain ⟨J3, c1, c2, c3⟩ := rk_162 hL (fun M3 => (fX5_reckons_309 (fun M4 => some M4) mF (0 : Int32) M3)) mF 0 J2 (by omega) (fuel (by omega)) b2
  have hR3 := hR2.ch6 c1
  obtain ⟨J4, d1, d2, d3, d4⟩ := rk_309 hL hF (fun M4 => some M4) mF 0 J3 (by omega) (fuel (by have := hL.2.2.1; omega)) hR3 (fun j hj => absurd hj (Nat.not_lt_zero j)) (fun j hj => absurd hj (Nat.not_lt_zero _))
  have hR4 := hR3.ch78 d1
  have g := (a1.trans b1).trans c1
  refine ⟨J4, ?_, ?_, fun a ha c hc => ?_, fun q h1 h2 h3 => (d1.1 q h2 h3).trans (g.1 q h1), d1.2.trans g.2⟩
  · unfold fX5_reckons
    exact a3.trans (b3.trans (c3.trans d4))
  · obtain ⟨r1, r2, r3, r4, r5, r6⟩ := hR4
    exact ⟨r1, r2, r3, r4, r5, fun k hk => ⟨(r6 k hk).1, (r6 k hk).2, d2 k hk⟩, fun k hk => d3 k hk⟩
  · rw [d1.1 6 (by omega) (by omega)]
    exact c2 a (by omega) c (by omega)
/-- the empty land -/
def L0 : Lnd := fun _ _ => 0
theorem L0_ok : Lok L0 := by
  refine ⟨by decide, by decide, by decide, fun i hi => absurd hi (Nat.not_lt_zero i), fun i hi => absurd hi (Nat.not_lt_zero i), fun i hi => absurd hi (Nat.not_lt_zero i), fun i hi => absurd hi (Nat.not_lt_zero _)⟩
theorem L0_fst : Lfst L0 := fun i hi => absurd hi (Nat.not_lt_zero _)
theorem pu_init : ∃ J0 : Mem, fX5_reckons M0m = some J0 ∧ Inv M0c J0 := by
  have hR : LR0 L0 M0m.1 := ⟨rfl, rfl, rfl, fun i hi => absurd hi (Nat.not_lt_zero i), fun i hi => absurd hi (Nat.not_lt_zero i), fun i hi => absurd hi (Nat.not_lt_zero i)⟩
  obtain ⟨J, e1, e2, e3, e4, e5⟩ := r_reckons L0_ok L0_fst hR
  have f : ∀ q, q ≠ 6 → q ≠ 7 → q ≠ 8 → ∀ j, J.1 q j = 0 := fun q a b c j => by rw [e4 q a b c]; rfl
  refine ⟨J, e1, L0, L0_ok, ?_, ⟨?_, ?_⟩, ⟨e2, e3⟩, ?_, ?_, ?_, ?_, ?_⟩
  · exact Or.inl ⟨by decide, by decide⟩
  · refine ⟨by decide, by decide, by decide, fun i hi => absurd hi (Nat.not_lt_zero i), fun i hi => absurd hi (Nat.not_lt_zero i), fun i hi => absurd hi (Nat.not_lt_zero i), fun i hi => absurd hi (Nat.not_lt_zero _)⟩
  · refine ⟨fun i hi => absurd hi (Nat.not_lt_zero i), by decide, fun i hi => absurd hi (Nat.not_lt_zero i)⟩
  · exact ⟨0, by omega, by decide, by rw [f 0 (by omega) (by omega) (by omega)]; rfl, fun i hi => absurd hi (Nat.not_lt_zero i)⟩
  · exact ⟨0, 0, by omega, by omega, by decide, by rw [f 9 (by omega) (by omega) (by omega)]; rfl, by decide, by rw [f 9 (by omega) (by omega) (by omega)]; rfl, fun i hi => absurd hi (Nat.not_lt_zero i)⟩
  · exact Or.inl ⟨by decide, f 11 (by omega) (by omega) (by omega) 0⟩
  · exact Or.inl ⟨by decide, f 11 (by omega) (by omega) (by omega) 1⟩
  · rw [e5]; rfl
