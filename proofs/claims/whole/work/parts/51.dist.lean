/-! the shortest ways -/
theorem omin_none (a : Option Nat) : omin a none = a := by cases a <;> rfl
theorem omin_self (a : Option Nat) : omin a a = a := by
  cases a with
  | none => rfl
  | some x => simp [omin]
theorem omin_isSome {a b : Option Nat} : (omin a b).isSome = (a.isSome || b.isSome) := by
  cases a <;> cases b <;> rfl
theorem oadd_isSome {a b : Option Nat} : (oadd a b).isSome = (a.isSome && b.isSome) := by
  cases a <;> cases b <;> rfl
theorem oadd_comm (a b : Option Nat) : oadd a b = oadd b a := by
  cases a <;> cases b <;> simp [oadd, Nat.add_comm]
theorem omin_le {a b : Option Nat} {B : Nat} (ha : ∀ v, a = some v → v ≤ B) (hb : ∀ v, b = some v → v ≤ B) : ∀ v, omin a b = some v → v ≤ B := by
  intro v h
  cases a with
  | none => exact hb v h
  | some x =>
    cases b with
    | none => exact ha v h
    | some y =>
      simp only [omin, Option.some.injEq] at h
      have h1 := ha x rfl
      have h2 := hb y rfl
      by_cases hc : y < x
      · rw [if_pos hc] at h; omega
      · rw [if_neg hc] at h; omega
theorem fwE_sym (L : Lnd) : ∀ (r a b : Nat), fwE L r a b = fwE L r b a
  | 0, a, b => by
    unfold fwE
    by_cases h : a = b
    · subst h; rfl
    · rw [if_neg h, if_neg (fun e => h e.symm)]
  | r + 1, a, b => by
    unfold fwE
    rw [fwE_sym L r a b]
    by_cases h : (a = L 2 r ∧ b = L 3 r) ∨ (a = L 3 r ∧ b = L 2 r)
    · rw [if_pos h, if_pos (h.symm.imp (fun q => ⟨q.2, q.1⟩) (fun q => ⟨q.2, q.1⟩))]
    · rw [if_neg h, if_neg (fun q => h (q.symm.imp (fun q => ⟨q.2, q.1⟩) (fun q => ⟨q.2, q.1⟩)))]
theorem fwE_diag {L : Lnd} (hL : Lok L) : ∀ (r : Nat), r ≤ lR L → ∀ a, fwE L r a a = some 0
  | 0, _, a => by unfold fwE; simp
  | r + 1, hr, a => by
    unfold fwE
    have h := hL.2.2.2.2.1 r hr
    rw [if_neg (by rintro (⟨h1, h2⟩ | ⟨h1, h2⟩) <;> exact h.2.2.1 (by omega))]
    exact fwE_diag hL r (by omega) a
theorem fwE_le {L : Lnd} (hL : Lok L) : ∀ (r : Nat), r ≤ lR L → ∀ a b v, fwE L r a b = some v → v ≤ 30
  | 0, _, a, b, v, h => by
    unfold fwE at h
    by_cases hc : a = b
    · rw [if_pos hc] at h; cases h; omega
    · rw [if_neg hc] at h; cases h
  | r + 1, hr, a, b, v, h => by
    have ih := fwE_le hL r (by omega) a b
    have hR := hL.2.2.2.2.1 r hr
    unfold fwE at h
    by_cases hc : (a = L 2 r ∧ b = L 3 r) ∨ (a = L 3 r ∧ b = L 2 r)
    · rw [if_pos hc] at h
      exact omin_le ih (fun v hv => by cases hv; exact hR.2.2.2.2) v h
    · rw [if_neg hc] at h; exact ih v h
theorem fwE_mono (L : Lnd) (r a b : Nat) (h : (fwE L r a b).isSome = true) : (fwE L (r + 1) a b).isSome = true := by
  unfold fwE
  by_cases hc : (a = L 2 r ∧ b = L 3 r) ∨ (a = L 3 r ∧ b = L 2 r)
  · rw [if_pos hc, omin_isSome, h]; rfl
  · rw [if_neg hc]; exact h
theorem fwE_road (L : Lnd) (q : Nat) : ∀ (r : Nat), q < r → (fwE L r (L 2 q) (L 3 q)).isSome = true
  | 0, h => absurd h (Nat.not_lt_zero q)
  | r + 1, h => by
    rcases Nat.lt_or_ge q r with h1 | h1
    · exact fwE_mono L r _ _ (fwE_road L q r h1)
    · have e : q = r := by omega
      subst e
      unfold fwE
      rw [if_pos (Or.inl ⟨rfl, rfl⟩), omin_isSome]
      simp
theorem fwE_out {L : Lnd} (hL : Lok L) : ∀ (r : Nat), r ≤ lR L → ∀ a b, a ≠ b → lT L ≤ b → fwE L r a b = none
  | 0, _, a, b, h, _ => by unfold fwE; rw [if_neg h]
  | r + 1, hr, a, b, h, hb => by
    have hR := hL.2.2.2.2.1 r hr
    unfold fwE
    rw [if_neg (by rintro (⟨h1, h2⟩ | ⟨h1, h2⟩) <;> omega)]
    exact fwE_out hL r (by omega) a b h hb
theorem fwP_sym (L : Lnd) : ∀ (k a b : Nat), fwP L k a b = fwP L k b a
  | 0, a, b => fwE_sym L _ a b
  | k + 1, a, b => by
    unfold fwP
    rw [fwP_sym L k a b, fwP_sym L k a k, fwP_sym L k k b, oadd_comm]
theorem fwP_diag {L : Lnd} (hL : Lok L) : ∀ (k a : Nat), fwP L k a a = some 0
  | 0, a => fwE_diag hL _ (Nat.le_refl _) a
  | k + 1, a => by
    unfold fwP
    rw [fwP_diag hL k a]
    cases oadd (fwP L k a k) (fwP L k k a) with
    | none => rfl
    | some x => simp [omin]
theorem fwP_le {L : Lnd} (hL : Lok L) : ∀ (k a b v : Nat), fwP L k a b = some v → v ≤ 30 * 2 ^ k
  | 0, a, b, v, h => by have := fwE_le hL _ (Nat.le_refl _) a b v h; omega
  | k + 1, a, b, v, h => by
    have ih := fwP_le hL k
    unfold fwP at h
    refine omin_le (fun v hv => ?_) (fun v hv => ?_) v h
    · have := ih a b v hv; rw [Nat.pow_succ]; omega
    · cases h1 : fwP L k a k with
      | none => rw [h1] at hv; cases hv
      | some x =>
        cases h2 : fwP L k k b with
        | none => rw [h1, h2] at hv; cases hv
        | some y =>
          rw [h1, h2] at hv
          simp only [oadd, Option.some.injEq] at hv
          have := ih a k x h1
          have := ih k b y h2
          rw [Nat.pow_succ]; omega
theorem fwP_mono (L : Lnd) (k a b : Nat) (h : (fwP L k a b).isSome = true) : (fwP L (k + 1) a b).isSome = true := by
  unfold fwP
  rw [omin_isSome, h]; rfl
theorem fwP_out {L : Lnd} (hL : Lok L) : ∀ (k a b : Nat), a ≠ b → lT L ≤ b → fwP L k a b = none
  | 0, a, b, h, hb => fwE_out hL _ (Nat.le_refl _) a b h hb
  | k + 1, a, b, h, hb => by
    unfold fwP
    rw [fwP_out hL k a b h hb]
    by_cases hk : k = b
    · subst hk; rw [fwP_out hL k a k h hb]; rfl
    · rw [fwP_out hL k k b hk hb]; cases fwP L k a k <;> rfl
theorem fwP_keep {L : Lnd} (hL : Lok L) (k : Nat) (hk : lT L ≤ k) (a b : Nat) : fwP L (k + 1) a b = fwP L k a b := by
  show omin (fwP L k a b) (oadd (fwP L k a k) (fwP L k k b)) = fwP L k a b
  by_cases h : a = k
  · subst h
    rw [fwP_diag hL]
    have : oadd (some 0) (fwP L a a b) = fwP L a a b := by cases fwP L a a b <;> simp [oadd]
    rw [this, omin_self]
  · rw [fwP_out hL k a k h hk]
    have : oadd none (fwP L k k b) = none := rfl
    rw [this, omin_none]
theorem fwP_6 {L : Lnd} (hL : Lok L) : ∀ (n : Nat) (a b : Nat), fwP L (lT L + n) a b = dist L a b
  | 0, _, _ => rfl
  | n + 1, a, b => by
    rw [← Nat.add_assoc, fwP_keep hL _ (by omega)]
    exact fwP_6 hL n a b
/-- a way by a town that was looked at is a way -/
theorem fwP_tr (L : Lnd) : ∀ (k c : Nat), c < k → ∀ a b, (fwP L k a c).isSome = true → (fwP L k c b).isSome = true → (fwP L k a b).isSome = true
  | 0, c, hc => absurd hc (Nat.not_lt_zero c)
  | k + 1, c, hc => by
    intro a b h1 h2
    have ih := fwP_tr L k
    unfold fwP at h1 h2 ⊢
    rw [omin_isSome, oadd_isSome] at h1 h2 ⊢
    simp only [Bool.or_eq_true, Bool.and_eq_true] at h1 h2 ⊢
    rcases Nat.lt_or_ge c k with q | q
    · rcases h1 with h1 | ⟨h1, h3⟩
      · rcases h2 with h2 | ⟨h2, h4⟩
        · exact Or.inl (ih c q a b h1 h2)
        · exact Or.inr ⟨ih c q a k h1 h2, h4⟩
      · rcases h2 with h2 | ⟨h2, h4⟩
        · exact Or.inr ⟨h1, ih c q k b h3 h2⟩
        · exact Or.inr ⟨h1, h4⟩
    · have e : c = k := by omega
      subst e
      have g1 : (fwP L c a c).isSome = true := by rcases h1 with h1 | ⟨h1, -⟩ <;> exact h1
      have g2 : (fwP L c c b).isSome = true := by rcases h2 with h2 | ⟨-, h2⟩ <;> exact h2
      exact Or.inr ⟨g1, g2⟩
theorem dist_sym (L : Lnd) (a b : Nat) : dist L a b = dist L b a := fwP_sym L _ a b
theorem dist_diag {L : Lnd} (hL : Lok L) (a : Nat) : dist L a a = some 0 := fwP_diag hL _ a
theorem dist_le {L : Lnd} (hL : Lok L) {a b v : Nat} (h : dist L a b = some v) : v ≤ 1920 := by
  have h1 := fwP_le hL _ a b v h
  have h2 : 2 ^ lT L ≤ 2 ^ 6 := Nat.pow_le_pow_right (by omega) hL.1
  omega
theorem dist_tr {L : Lnd} {a b c : Nat} (hc : c < lT L) (h1 : (dist L a c).isSome = true) (h2 : (dist L c b).isSome = true) : (dist L a b).isSome = true := fwP_tr L _ c hc a b h1 h2
theorem fwP_mono0 (L : Lnd) (a b : Nat) (h : (fwE L (lR L) a b).isSome = true) : ∀ k, (fwP L k a b).isSome = true
  | 0 => h
  | k + 1 => fwP_mono L k a b (fwP_mono0 L a b h k)
theorem dist_road (L : Lnd) {r : Nat} (h : r < lR L) : (dist L (L 2 r) (L 3 r)).isSome = true := fwP_mono0 L _ _ (fwE_road L r _ h) _
theorem dist_ends {L : Lnd} (hL : Lok L) {r : Nat} (h : r < lR L) (t : Nat) : (dist L t (L 2 r)).isSome = (dist L t (L 3 r)).isSome := by
  have hR := hL.2.2.2.2.1 r h
  have e := dist_road L h
  have e2 : (dist L (L 3 r) (L 2 r)).isSome = true := by rw [dist_sym]; exact e
  cases h1 : (dist L t (L 2 r)).isSome <;> cases h2 : (dist L t (L 3 r)).isSome <;> try rfl
  · have := dist_tr (L := L) hR.2.1 h2 e2
    rw [h1] at this; cases this
  · have := dist_tr (L := L) hR.1 h1 e
    rw [h2] at this; cases this
