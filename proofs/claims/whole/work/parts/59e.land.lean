/-! the text read: both parsers in lockstep -/
def TKc (tx : Nat → Nat) (n e : Nat) (M : Mem) : Prop := M.1 1 2 = nI (tK tx n e) ∧ M.1 1 4 = nI (tB tx n e) ∧ M.1 1 5 = nI (tE tx n e) ∧ (tK tx n e = 4 → M.1 1 3 = nI (tV tx n e))
def TKr (tx : Nat → Nat) (n e : Nat) (J : Mem) : Prop := J.1 0 5 = nI (rk (tK tx n e)) ∧ J.1 0 6 = nI (tB tx n e) ∧ J.1 0 4 = nI (tE tx n e) ∧ (tK tx n e = 4 → J.1 0 7 = nI (tV tx n e)) ∧ (1 ≤ tK tx n e ∧ tK tx n e ≤ 3 → J.1 0 7 = nI (tK tx n e - 1))
abbrev okn (tx : Nat → Nat) (n e : Nat) (lo hi : Int32) : Prop := tK tx n e = 4 ∧ ¬ nI (tV tx n e) < lo ∧ ¬ hi < nI (tV tx n e)
theorem tK_le (tx : Nat → Nat) (n e : Nat) : tK tx n e ≤ 6 := by
  unfold tK
  by_cases c : tB tx n e < n
  · rw [if_pos c]
    by_cases l : lt tx (tB tx n e) = true
    · rw [if_pos l]; have := wkd_in tx (tB tx n e) (tE tx n e); omega
    · rw [if_neg l]
      by_cases d : dg tx (tB tx n e) = true
      · rw [if_pos d]
        cases nvl tx (tB tx n e) (tE tx n e) <;> simp
      · rw [if_neg d]
        by_cases s : tx (tB tx n e) = 59
        · rw [if_pos s]; omega
        · rw [if_neg s]; omega
  · rw [if_neg c]; omega
theorem rk_in (k : Nat) (h : k ≤ 6) : rk k ≤ 4 ∧ (rk k = 0 ↔ k = 0) ∧ (rk k = 1 ↔ (1 ≤ k ∧ k ≤ 3)) ∧ (rk k = 2 ↔ k = 4) ∧ (rk k = 3 ↔ k = 5) := by
  rcases (show k = 0 ∨ k = 1 ∨ k = 2 ∨ k = 3 ∨ k = 4 ∨ k = 5 ∨ k = 6 by omega) with rfl | rfl | rfl | rfl | rfl | rfl | rfl <;> decide
section PARSE
variable {tx : Nat → Nat} {n : Nat}
theorem TKc_next {M : Mem} {e : Nat} (hx : TXc tx n M) (he : e ≤ n) (h : TKc tx n e M) : ∃ M', fX3_next M = some M' ∧ kc M M' ∧ TKc tx n (tE tx n e) M' := by
  obtain ⟨M', a1, a2, a3, a4, a5, a6⟩ := c_next hx h.2.2.1 (tE_le he).2
  exact ⟨M', a1, a2, a3, a4, a5, a6⟩
theorem TKr_adv {J : Mem} {e : Nat} (hx : TXr tx n J) (he : e ≤ n) (h : TKr tx n e J) : ∃ J', fX5_advances J = some J' ∧ kr J J' ∧ TKr tx n (tE tx n e) J' := by
  obtain ⟨J', a1, a2, a3, a4, a5, a6, a7⟩ := r_adv hx h.2.2.1 (tE_le he).2
  exact ⟨J', a1, a2, a3, a4, a5, a6, a7⟩
theorem c_rnum {M : Mem} {e : Nat} (hx : TXc tx n M) (he : e ≤ n) (h : TKc tx n e M) (lo hi : Int32) : ∃ M', fX3_readNumber lo hi M = some (if okn tx n (tE tx n e) lo hi then 1 else 0, M') ∧ kc M M' ∧ TKc tx n (tE tx n e) M' := by
  obtain ⟨M', a1, a2, a3⟩ := TKc_next hx he h
  refine ⟨M', ?_, a2, a3⟩
  have hk := tK_le tx n (tE tx n e)
  unfold fX3_readNumber
  rw [a1, bnd, a3.1]
  by_cases c : tK tx n (tE tx n e) = 4
  · rw [if_pos (show nI (tK tx n (tE tx n e)) = 4 by rw [c]; rfl), a3.2.2.2 c]
    by_cases c1 : nI (tV tx n (tE tx n e)) < lo
    · rw [if_pos c1, if_neg (fun z => z.2.1 c1)]
    rw [if_neg c1]
    by_cases c2 : hi < nI (tV tx n (tE tx n e))
    · rw [if_pos c2, if_neg (fun z => z.2.2 c2)]
    · rw [if_neg c2, if_pos ⟨c, c1, c2⟩]
  · rw [if_neg (show ¬ nI (tK tx n (tE tx n e)) = 4 from fun z => c (nIe (b := 4) z (by omega) (by omega))), if_neg (fun z => c z.1)]
theorem c_semi {M : Mem} {e : Nat} (hx : TXc tx n M) (he : e ≤ n) (h : TKc tx n e M) : ∃ M', kc M M' ∧ if tK tx n (tE tx n e) = 5 then fX3_readSemicolon M = some (1, M') ∧ TKc tx n (tE tx n (tE tx n e)) M' else fX3_readSemicolon M = some (0, M') ∧ TKc tx n (tE tx n e) M' := by
  obtain ⟨M1, a1, a2, a3⟩ := TKc_next hx he h
  have hk := tK_le tx n (tE tx n e)
  unfold fX3_readSemicolon
  rw [a1, bnd, a3.1]
  by_cases c : tK tx n (tE tx n e) = 5
  · obtain ⟨M2, b1, b2, b3⟩ := TKc_next (hx.kc a2) (tE_le he).2 a3
    refine ⟨M2, a2.trans b2, ?_⟩
    rw [if_pos c, if_pos (show nI (tK tx n (tE tx n e)) = 5 by rw [c]; rfl), b1, bnd]
    exact ⟨rfl, b3⟩
  · refine ⟨M1, a2, ?_⟩
    rw [if_neg c, if_neg (show ¬ nI (tK tx n (tE tx n e)) = 5 from fun z => c (nIe (b := 5) z (by omega) (by omega)))]
    exact ⟨rfl, a3⟩
theorem r_well {J : Mem} (h : J.1 0 8 = -1) : fX5_isWell J = some 1 := by unfold fX5_isWell; rw [h]; rfl
theorem r_ill {J : Mem} {f : Nat} (hf : f ≤ 300) (h : J.1 0 8 = nI f) : fX5_isWell J = some 0 := by unfold fX5_isWell; rw [h, if_pos (nI_pos' (by omega))]
theorem take_ill {J : Mem} {f : Nat} (hf : f ≤ 300) (h : J.1 0 8 = nI f) (a : Int32) : fX5_takes a J = some (0, J) := by unfold fX5_takes; rw [r_ill hf h, bnd, if_pos rfl]
theorem take0 {J : Mem} (h : J.1 0 8 = -1) : fX5_takes 0 J = some (0, ms J 0 8 (J.1 0 6)) := by unfold fX5_takes; rw [r_well h, bnd, if_neg n10, if_pos rfl, bnd]
theorem take1 {J : Mem} {e : Nat} (hx : TXr tx n J) (he : e ≤ n) (h : TKr tx n e J) (hw : J.1 0 8 = -1) : ∃ J', fX5_takes 1 J = some (J.1 0 7, J') ∧ kr J J' ∧ TKr tx n (tE tx n e) J' := by
  obtain ⟨J', a1, a2, a3⟩ := TKr_adv hx he h
  refine ⟨J', ?_, a2, a3⟩
  unfold fX5_takes
  rw [r_well hw, bnd, if_neg n10, if_neg n10, a1, bnd]
theorem num_ill {J : Mem} {f : Nat} (hf : f ≤ 300) (h : J.1 0 8 = nI f) (lo hi : Int32) : fX5_number lo hi J = some (0, J) := by
  unfold fX5_number
  have e0 : ∀ a : Int32, (Option.bind (fX5_takes a J) fun x2 => some (x2.1, x2.2)) = some (0, J) := fun a => by rw [take_ill hf h, bnd]
  rw [e0 0, e0 1]
  by_cases c : J.1 0 5 = 2
  · rw [if_pos c]
    by_cases d : J.1 0 7 < lo ∨ hi < J.1 0 7
    · rw [fX5_in_no d, bnd, if_pos rfl]
    · rw [fX5_in_yes (fun z => d (Or.inl z)) (fun z => d (Or.inr z)), bnd, if_neg n10]
  · rw [if_neg c]
theorem r_num {J : Mem} {e : Nat} (hx : TXr tx n J) (he : e ≤ n) (h : TKr tx n e J) (hw : J.1 0 8 = -1) (lo hi : Int32) : if okn tx n e lo hi then ∃ J', fX5_number lo hi J = some (nI (tV tx n e), J') ∧ kr J J' ∧ TKr tx n (tE tx n e) J' else fX5_number lo hi J = some (0, ms J 0 8 (nI (tB tx n e))) := by
  have hk := tK_le tx n e
  have hr := rk_in _ hk
  have t0 : (Option.bind (fX5_takes 0 J) fun x2 => some (x2.1, x2.2)) = some (0, ms J 0 8 (nI (tB tx n e))) := by rw [take0 hw, bnd, h.2.1]
  unfold fX5_number
  rw [t0, h.1]
  by_cases c : tK tx n e = 4
  · have c' : rk (tK tx n e) = 2 := hr.2.2.2.1.mpr c
    rw [if_pos (show nI (rk (tK tx n e)) = 2 by rw [c']; rfl), h.2.2.2.1 c]
    by_cases d : nI (tV tx n e) < lo ∨ hi < nI (tV tx n e)
    · rw [if_neg (fun z => d.elim z.2.1 z.2.2), fX5_in_no d, bnd, if_pos rfl]
    · rw [if_pos ⟨c, fun z => d (Or.inl z), fun z => d (Or.inr z)⟩, fX5_in_yes (fun z => d (Or.inl z)) (fun z => d (Or.inr z)), bnd, if_neg n10]
      obtain ⟨J', a1, a2, a3⟩ := take1 hx he h hw
      rw [h.2.2.2.1 c] at a1
      exact ⟨J', by rw [a1, bnd], a2, a3⟩
  · rw [if_neg (fun z => c z.1), if_neg (show ¬ nI (rk (tK tx n e)) = 2 from fun z => c (hr.2.2.2.1.mp (nIe (b := 2) z (by omega) (by omega))))]
end PARSE
/-- frames of reading: only the draft and the tokens are changed -/
def cF (b : Nat) (M M' : Mem) : Prop := (∀ q, q ≠ 1 → (q < b ∨ b + 8 < q) → M'.1 q = M.1 q) ∧ M'.1 1 1 = M.1 1 1 ∧ M'.2 = M.2
theorem cF.trans {b : Nat} {M M1 M2 : Mem} (h : cF b M M1) (g : cF b M1 M2) : cF b M M2 := ⟨fun q a c => (g.1 q a c).trans (h.1 q a c), g.2.1.trans h.2.1, g.2.2.trans h.2.2⟩
theorem kc.cF {b : Nat} {M M' : Mem} (h : kc M M') : cF b M M' := ⟨fun q a _ => h.1 q a, h.2.1, h.2.2⟩
theorem cF.put {b : Nat} (hb : isL b) {M : Mem} (q j : Nat) (x : Int32) (h : b ≤ q ∧ q ≤ b + 8) : cF b M (ms M q j x) := by
  have hb2 : 3 ≤ b := by rcases hb with rfl | rfl <;> omega
  exact ⟨fun q' a c => ms_row (by omega), ms_ne (Or.inl (by omega)), rfl⟩
theorem TXc.cF {tx : Nat → Nat} {n b : Nat} (hb : isL b) {M M' : Mem} (h : TXc tx n M) (g : cF b M M') : TXc tx n M' := by
  have hb2 : 3 ≤ b := by rcases hb with rfl | rfl <;> omega
  exact ⟨g.2.1.trans h.1, h.2.1, fun i hi => ⟨(h.2.2 i hi).1, by rw [g.1 2 (by omega) (Or.inl (by omega))]; exact (h.2.2 i hi).2⟩⟩
def rF (J J' : Mem) : Prop := (∀ q, q = 1 ∨ 6 ≤ q → J'.1 q = J.1 q) ∧ (∀ j, j = 3 ∨ j = 13 ∨ j = 14 ∨ j = 15 → J'.1 0 j = J.1 0 j) ∧ (∀ j, j < 6 → J'.1 2 j = J.1 2 j) ∧ (∀ j, j < 30 → J'.1 3 j = J.1 3 j) ∧ (∀ j, j < 10 → J'.1 4 j = J.1 4 j ∧ J'.1 5 j = J.1 5 j) ∧ J'.2 = J.2
theorem rF.refl (J : Mem) : rF J J := ⟨fun _ _ => rfl, fun _ _ => rfl, fun _ _ => rfl, fun _ _ => rfl, fun _ _ => ⟨rfl, rfl⟩, rfl⟩
theorem rF.trans {J J1 J2 : Mem} (h : rF J J1) (g : rF J1 J2) : rF J J2 := ⟨fun q a => (g.1 q a).trans (h.1 q a), fun q a => (g.2.1 q a).trans (h.2.1 q a), fun q a => (g.2.2.1 q a).trans (h.2.2.1 q a), fun q a => (g.2.2.2.1 q a).trans (h.2.2.2.1 q a), fun q a => ⟨(g.2.2.2.2.1 q a).1.trans (h.2.2.2.2.1 q a).1, (g.2.2.2.2.1 q a).2.trans (h.2.2.2.2.1 q a).2⟩, g.2.2.2.2.2.trans h.2.2.2.2.2⟩
theorem kr.rF {J J' : Mem} (h : kr J J') : rF J J' := ⟨fun q a => h.1 q (by omega), fun j a => h.2.1 j (by omega), fun j _ => by rw [h.1 2 (by omega)], fun j _ => by rw [h.1 3 (by omega)], fun j _ => ⟨by rw [h.1 4 (by omega)], by rw [h.1 5 (by omega)]⟩, h.2.2⟩
theorem rF.put {J : Mem} (q j : Nat) (x : Int32) (h : (q = 0 ∧ (j = 8 ∨ 16 ≤ j)) ∨ (q = 2 ∧ 6 ≤ j) ∨ (q = 3 ∧ 30 ≤ j) ∨ (q = 4 ∧ 10 ≤ j) ∨ (q = 5 ∧ 10 ≤ j)) : rF J (ms J q j x) := ⟨fun q' a => ms_row (by omega), fun j' a => ms_ne (by omega), fun j' a => ms_ne (by omega), fun j' a => ms_ne (by omega), fun j' a => ⟨ms_ne (by omega), ms_ne (by omega)⟩, rfl⟩
theorem TXr.rF {tx : Nat → Nat} {n : Nat} {J J' : Mem} (h : TXr tx n J) (g : rF J J') : TXr tx n J' := ⟨(g.2.1 3 (by omega)).trans h.1, h.2.1, fun i hi => ⟨(h.2.2 i hi).1, by rw [g.1 1 (by omega)]; exact (h.2.2 i hi).2⟩⟩
/-- the reference's draft -/
def LRd (D : Lnd) (J : Mem) : Prop :=
  J.1 0 16 = nI (lT D) ∧ J.1 0 17 = nI (lR D) ∧ J.1 0 18 = nI (lS D) ∧
  (∀ i, i < lT D → J.1 2 (6 + i) = nI (D 1 i)) ∧
  (∀ r, r < lR D → J.1 3 (30 + 3 * r) = nI (D 2 r) ∧ J.1 3 (30 + 3 * r + 1) = nI (D 3 r) ∧ J.1 3 (30 + 3 * r + 2) = nI (D 4 r)) ∧
  (∀ k, k < lS D → J.1 4 (10 + k) = nI (D 5 k) ∧ J.1 5 (10 + k) = nI (D 6 k))
theorem LRd.kr {D : Lnd} {J J' : Mem} (h : LRd D J) (g : kr J J') : LRd D J' := by
  unfold LRd at h ⊢
  rw [g.2.1 16 (by omega), g.2.1 17 (by omega), g.2.1 18 (by omega), g.1 2 (by omega), g.1 3 (by omega), g.1 4 (by omega), g.1 5 (by omega)]
  exact h
theorem LC.kc {b : Nat} (hb : isL b) {L : Lnd} {M M' : Mem} (h : LC b L M.1) (g : kc M M') : LC b L M'.1 := by
  have hb2 : 3 ≤ b := by rcases hb with rfl | rfl <;> omega
  exact h.congr (fun i hi => g.1 _ (by omega))
def dset (D : Lnd) (i j x : Nat) : Lnd := fun p q => if p = i ∧ q = j then x else D p q
theorem dset_eq (D : Lnd) (i j x : Nat) : dset D i j x i j = x := if_pos ⟨rfl, rfl⟩
theorem dset_ne {D : Lnd} {i j x p q : Nat} (h : p ≠ i ∨ q ≠ j) : dset D i j x p q = D p q := if_neg (by omega)
def ST (tx : Nat → Nat) (n b e : Nat) (D : Lnd) (M J : Mem) : Prop := e ≤ n ∧ TXc tx n M ∧ TXr tx n J ∧ TKc tx n e M ∧ TKr tx n e J ∧ J.1 0 8 = -1 ∧ Lok D ∧ Lfst D ∧ LC b D M.1 ∧ LRd D J
/-- an item read: either both find the same fault, or both go on -/
def Itm (tx : Nat → Nat) (n b v : Nat) (M J : Mem) (rd : Option (Int32 × Mem)) (go : Mem → Prop) : Prop := ∃ M' J', cF b M M' ∧ rF J J' ∧ go J' ∧ ((∃ f, f ≤ 300 ∧ rd = some (0, M') ∧ M'.1 1 4 = nI f ∧ J'.1 0 8 = nI f) ∨ (∃ e' D', rd = some (1, M') ∧ ST tx n b e' D' M' J' ∧ lT D' + lR D' + lS D' = v + 1))
theorem TKr.congr {tx : Nat → Nat} {n e : Nat} {J J' : Mem} (h : TKr tx n e J) (g : ∀ j, 4 ≤ j → j ≤ 7 → J'.1 0 j = J.1 0 j) : TKr tx n e J' := by
  unfold TKr at h ⊢
  rw [g 4 (by omega) (by omega), g 5 (by omega) (by omega), g 6 (by omega) (by omega), g 7 (by omega) (by omega)]
  exact h
theorem TKc.congr {tx : Nat → Nat} {n e : Nat} {M M' : Mem} (h : TKc tx n e M) (g : M'.1 1 = M.1 1) : TKc tx n e M' := by
  unfold TKc at h ⊢
  rw [g]; exact h
/-! the reference's loop in pieces -/
def tlf (K : Int32 → Mem → Option (Int32 × Mem)) (m : Nat) (v : Int32) (J : Mem) : Option (Int32 × Mem) := if (J.1 0 5) = (3 : Int32) then (Option.bind (fX5_takes (1 : Int32) J) fun x => (fX5_land_36 K m (v + 1) x.2)) else (Option.bind (fX5_takes (0 : Int32) J) fun x => (fX5_land_36 K m (v + 1) x.2))
def tl1 (K : Int32 → Mem → Option (Int32 × Mem)) (m : Nat) (v a : Int32) (J : Mem) : Option (Int32 × Mem) := Option.bind (fX5_isWell J) fun w => if w = 0 then tlf K m v J else (Option.bind (fX5_readsItem a J) fun J2 => tlf K m v J2)
theorem tlf_ill {K : Int32 → Mem → Option (Int32 × Mem)} {m : Nat} {v : Int32} {J : Mem} {f : Nat} (hf : f ≤ 300) (h : J.1 0 8 = nI f) : tlf K m v J = fX5_land_36 K m (v + 1) J := by
  unfold tlf
  rw [take_ill hf h, take_ill hf h]
  simp only [bndp]
  by_cases c : J.1 0 5 = 3
  · rw [if_pos c]
  · rw [if_neg c]
theorem tl1_ill {K : Int32 → Mem → Option (Int32 × Mem)} {m : Nat} {v a : Int32} {J : Mem} {f : Nat} (hf : f ≤ 300) (h : J.1 0 8 = nI f) : tl1 K m v a J = fX5_land_36 K m (v + 1) J := by
  unfold tl1
  rw [r_ill hf h, bnd, if_pos rfl, tlf_ill hf h]
theorem land_unf {K : Int32 → Mem → Option (Int32 × Mem)} {m : Nat} {v : Int32} {J : Mem} (hw : J.1 0 8 = -1) (h5 : ¬ J.1 0 5 = 0) : fX5_land_36 K (m + 1) v J = (if (J.1 0 7) = 0 then (if (6 : Int32) ≤ (J.1 0 16) then (if (J.1 0 5) = (1 : Int32) then (Option.bind (fX5_takes (0 : Int32) J) fun x => tl1 K m v x.1 x.2) else (Option.bind (fX5_takes (0 : Int32) J) fun x => tl1 K m v x.1 x.2)) else (if (J.1 0 5) = (1 : Int32) then (Option.bind (fX5_takes (1 : Int32) J) fun x => tl1 K m v x.1 x.2) else (Option.bind (fX5_takes (0 : Int32) J) fun x => tl1 K m v x.1 x.2))) else (if (J.1 0 7) = (1 : Int32) then (if (10 : Int32) ≤ (J.1 0 17) then (if (J.1 0 5) = (1 : Int32) then (Option.bind (fX5_takes (0 : Int32) J) fun x => tl1 K m v x.1 x.2) else (Option.bind (fX5_takes (0 : Int32) J) fun x => tl1 K m v x.1 x.2)) else (if (J.1 0 5) = (1 : Int32) then (Option.bind (fX5_takes (1 : Int32) J) fun x => tl1 K m v x.1 x.2) else (Option.bind (fX5_takes (0 : Int32) J) fun x => tl1 K m v x.1 x.2))) else (if (10 : Int32) ≤ (J.1 0 18) then (if (J.1 0 5) = (1 : Int32) then (Option.bind (fX5_takes (0 : Int32) J) fun x => tl1 K m v x.1 x.2) else (Option.bind (fX5_takes (0 : Int32) J) fun x => tl1 K m v x.1 x.2)) else (if (J.1 0 5) = (1 : Int32) then (Option.bind (fX5_takes (1 : Int32) J) fun x => tl1 K m v x.1 x.2) else (Option.bind (fX5_takes (0 : Int32) J) fun x => tl1 K m v x.1 x.2))))) := by
  have e : fX5_land_36 K (m + 1) v J = Option.bind (fX5_isWell J) fun x1 => (if x1 = 0 then K v J else (if (J.1 0 5) = 0 then K v J else (if (J.1 0 7) = 0 then (if (6 : Int32) ≤ (J.1 0 16) then (if (J.1 0 5) = (1 : Int32) then (Option.bind (fX5_takes (0 : Int32) J) fun x => tl1 K m v x.1 x.2) else (Option.bind (fX5_takes (0 : Int32) J) fun x => tl1 K m v x.1 x.2)) else (if (J.1 0 5) = (1 : Int32) then (Option.bind (fX5_takes (1 : Int32) J) fun x => tl1 K m v x.1 x.2) else (Option.bind (fX5_takes (0 : Int32) J) fun x => tl1 K m v x.1 x.2))) else (if (J.1 0 7) = (1 : Int32) then (if (10 : Int32) ≤ (J.1 0 17) then (if (J.1 0 5) = (1 : Int32) then (Option.bind (fX5_takes (0 : Int32) J) fun x => tl1 K m v x.1 x.2) else (Option.bind (fX5_takes (0 : Int32) J) fun x => tl1 K m v x.1 x.2)) else (if (J.1 0 5) = (1 : Int32) then (Option.bind (fX5_takes (1 : Int32) J) fun x => tl1 K m v x.1 x.2) else (Option.bind (fX5_takes (0 : Int32) J) fun x => tl1 K m v x.1 x.2))) else (if (10 : Int32) ≤ (J.1 0 18) then (if (J.1 0 5) = (1 : Int32) then (Option.bind (fX5_takes (0 : Int32) J) fun x => tl1 K m v x.1 x.2) else (Option.bind (fX5_takes (0 : Int32) J) fun x => tl1 K m v x.1 x.2)) else (if (J.1 0 5) = (1 : Int32) then (Option.bind (fX5_takes (1 : Int32) J) fun x => tl1 K m v x.1 x.2) else (Option.bind (fX5_takes (0 : Int32) J) fun x => tl1 K m v x.1 x.2))))))) := rfl
  rw [e, r_well hw, bnd, if_neg n10, if_neg h5]
theorem land_bad {K : Int32 → Mem → Option (Int32 × Mem)} {m f : Nat} {v : Int32} {J : Mem} (hf : f ≤ 300) (hw : J.1 0 8 = -1) (h5 : ¬ J.1 0 5 = 0) (h6 : J.1 0 6 = nI f) (hb : ¬ J.1 0 5 = 1 ∨ (J.1 0 7 = 0 ∧ 6 ≤ J.1 0 16) ∨ (J.1 0 7 = 1 ∧ 10 ≤ J.1 0 17) ∨ (¬ J.1 0 7 = 0 ∧ ¬ J.1 0 7 = 1 ∧ 10 ≤ J.1 0 18)) : fX5_land_36 K (m + 1) v J = fX5_land_36 K m (v + 1) (ms J 0 8 (nI f)) := by
  have t : (Option.bind (fX5_takes (0 : Int32) J) fun x => tl1 K m v x.1 x.2) = fX5_land_36 K m (v + 1) (ms J 0 8 (nI f)) := by
    rw [take0 hw, bnd, h6]
    exact tl1_ill hf (ms_eq _ _ _ _)
  rw [land_unf hw h5, t]
  by_cases c5 : J.1 0 5 = 1
  · simp only [if_pos c5]
    have hb' := hb.resolve_left (fun z => z c5)
    by_cases c0 : J.1 0 7 = 0
    · rw [if_pos c0]
      rcases hb' with w | w | w
      · rw [if_pos w.2]
      · rw [c0] at w; exact absurd w.1 (by decide)
      · exact absurd c0 w.1
    · rw [if_neg c0]
      by_cases c1 : J.1 0 7 = 1
      · rw [if_pos c1]
        rcases hb' with w | w | w
        · exact absurd w.1 c0
        · rw [if_pos w.2]
        · exact absurd c1 w.2.1
      · rw [if_neg c1]
        rcases hb' with w | w | w
        · exact absurd w.1 c0
        · exact absurd w.1 c1
        · rw [if_pos w.2.2]
  · simp only [if_neg c5, ite_self]
theorem land_good {K : Int32 → Mem → Option (Int32 × Mem)} {m : Nat} {v : Int32} {J : Mem} (hw : J.1 0 8 = -1) (h5 : J.1 0 5 = 1) (hg : (J.1 0 7 = 0 ∧ ¬ 6 ≤ J.1 0 16) ∨ (J.1 0 7 = 1 ∧ ¬ 10 ≤ J.1 0 17) ∨ (¬ J.1 0 7 = 0 ∧ ¬ J.1 0 7 = 1 ∧ ¬ 10 ≤ J.1 0 18)) : fX5_land_36 K (m + 1) v J = Option.bind (fX5_takes (1 : Int32) J) fun x => tl1 K m v x.1 x.2 := by
  rw [land_unf hw (by rw [h5]; decide)]
  simp only [if_pos h5]
  rcases hg with w | w | w
  · rw [if_pos w.1, if_neg w.2]
  · rw [if_neg (by rw [w.1]; decide), if_pos w.1, if_neg w.2]
  · rw [if_neg w.1, if_neg w.2.1, if_neg w.2.2]
theorem tlf_semi {tx : Nat → Nat} {n : Nat} {K : Int32 → Mem → Option (Int32 × Mem)} {m : Nat} {v : Int32} {J : Mem} {e : Nat} (hx : TXr tx n J) (he : e ≤ n) (h : TKr tx n e J) (hw : J.1 0 8 = -1) : if tK tx n e = 5 then ∃ J', tlf K m v J = fX5_land_36 K m (v + 1) J' ∧ kr J J' ∧ TKr tx n (tE tx n e) J' else tlf K m v J = fX5_land_36 K m (v + 1) (ms J 0 8 (nI (tB tx n e))) := by
  have hk := tK_le tx n e
  have hr := rk_in _ hk
  unfold tlf
  rw [h.1]
  by_cases c : tK tx n e = 5
  · have c' : rk (tK tx n e) = 3 := hr.2.2.2.2.mpr c
    obtain ⟨J', a1, a2, a3⟩ := take1 hx he h hw
    rw [if_pos c, if_pos (show nI (rk (tK tx n e)) = 3 by rw [c']; rfl), a1, bnd]
    exact ⟨J', rfl, a2, a3⟩
  · rw [if_neg c, if_neg (show ¬ nI (rk (tK tx n e)) = 3 from fun z => c (hr.2.2.2.2.mp (nIe (b := 3) z (by omega) (by omega)))), take0 hw, bnd, h.2.1]
/-! one item each -/
section ITEMS
variable {tx : Nat → Nat} {n b : Nat}
theorem tB_300 {M : Mem} (hx : TXc tx n M) {e : Nat} (he : e ≤ n) : tB tx n e ≤ 300 := by
  have := (tB_le (tx := tx) he).2
  have := hx.2.1
  omega
theorem tV_99 {e : Nat} (h : tK tx n e = 4) : tV tx n e ≤ 99 := by
  have hcases := h
  unfold tK at h
  by_cases c : tB tx n e < n
  · rw [if_pos c] at h
    by_cases l : lt tx (tB tx n e) = true
    · rw [if_pos l] at h; have := wkd_in tx (tB tx n e) (tE tx n e); omega
    · rw [if_neg l] at h
      by_cases d : dg tx (tB tx n e) = true
      · have ee : tE tx n e = adv (dg tx) (n - tB tx n e) (tB tx n e) := by unfold tE; rw [if_pos c, if_neg l, if_pos d]
        have q1 := adv_1 (g := dg tx) (d := n - tB tx n e) (by omega) d
        have qa : ∀ j, tB tx n e ≤ j → j < adv (dg tx) (n - tB tx n e) (tB tx n e) → 48 ≤ tx j ∧ tx j ≤ 57 := fun j h1 h2 => of_decide_eq_true (adv_all (dg tx) _ _ j h1 h2)
        have qv := dv_nvl q1 qa
        rw [← ee] at qv
        unfold tV
        cases ev : nvl tx (tB tx n e) (tE tx n e) with
        | none => show 0 ≤ 99; omega
        | some v => rw [ev] at qv; exact qv.2.1
      · rw [if_neg d] at h
        by_cases s : tx (tB tx n e) = 59
        · rw [if_pos s] at h; omega
        · rw [if_neg s] at h; omega
  · rw [if_neg c] at h; omega
theorem ok_lo {a v : Nat} (hv : v < 2 ^ 31) (ha : a < 2 ^ 31) (h : ¬ nI v < nI a) : a ≤ v := by
  rcases Nat.lt_or_ge v a with z | z
  · exact absurd (nI_lt z ha) h
  · exact z
theorem ok_pred {T v : Nat} (hT : T < 2 ^ 30) (hv : v < 2 ^ 31) (h : ¬ nI T - 1 < nI v) : v < T := by
  rcases Nat.lt_or_ge v T with z | z
  · exact z
  · exact absurd (pred_lt hT (nI_le z hv)) h
theorem town_ext (D : Lnd) (v : Nat) : ∃ D' : Lnd, lT D' = lT D + 1 ∧ lR D' = lR D ∧ lS D' = lS D ∧ D' 1 (lT D) = v ∧ (∀ i, i ≠ lT D → D' 1 i = D 1 i) ∧ (∀ p, 2 ≤ p → D' p = D p) := by
  refine ⟨dset (dset D 1 (lT D) v) 0 0 (lT D + 1), dset_eq _ _ _ _, ?_, ?_, ?_, fun i hi => ?_, fun p hp => ?_⟩
  · show dset _ _ _ _ 0 1 = _
    rw [dset_ne (by omega), dset_ne (by omega)]
  · show dset _ _ _ _ 0 2 = _
    rw [dset_ne (by omega), dset_ne (by omega)]
  · rw [dset_ne (by omega), dset_eq]
  · rw [dset_ne (by omega), dset_ne (by omega)]
  · funext q
    rw [dset_ne (by omega), dset_ne (by omega)]
theorem it_town (hb : isL b) {K : Int32 → Mem → Option (Int32 × Mem)} {m e : Nat} {D : Lnd} {M J : Mem} (h : ST tx n b e D M J) (hk : tK tx n e = 1) : Itm tx n b (lT D + lR D + lS D) M J (fX3_readTown b M) (fun J' => fX5_land_36 K (m + 1) (nI (lT D + lR D + lS D)) J = fX5_land_36 K m (nI (lT D + lR D + lS D + 1)) J') := by
  obtain ⟨he, hx, hy, hc, hr, hw, hL, hF, hC, hR⟩ := h
  have hT := hL.1
  have hb3 : 3 ≤ b := by rcases hb with rfl | rfl <;> omega
  have hk5 : J.1 0 5 = 1 := by rw [hr.1, hk]; rfl
  have hk7 : J.1 0 7 = 0 := by rw [hr.2.2.2.2 (by omega), hk]; rfl
  have he1 := (tE_le (tx := tx) he).2
  unfold fX3_readTown
  rw [hC.1]
  by_cases q : lT D < 6
  · rw [if_pos (show nI (lT D) < 6 from nI_lt (b := 6) q (by omega))]
    obtain ⟨J1, t1, t2, t3⟩ := take1 hy he hr hw
    have go1 : fX5_land_36 K (m + 1) (nI (lT D + lR D + lS D)) J = tl1 K m (nI (lT D + lR D + lS D)) 0 J1 := by
      rw [land_good hw hk5 (Or.inl ⟨hk7, by rw [hR.1]; exact nI_ge (b := 6) q (by omega)⟩), t1, bnd, hk7]
    obtain ⟨M1, a1, a2, a3⟩ := c_rnum hx he hc 0 99
    have hw1 : J1.1 0 8 = -1 := (t2.2.1 8 (by omega)).trans hw
    have hR1 := hR.kr t2
    have num := r_num (hy.kr t2) he1 t3 hw1 0 99
    have p6 : (6 : Int32) + J1.1 0 16 = nI (6 + lT D) := by rw [hR1.1, i6, nI_add]
    have go2 : tl1 K m (nI (lT D + lR D + lS D)) 0 J1 = Option.bind (Option.bind (fX5_number (0 : Int32) (99 : Int32) J1) fun x64 => (Option.bind (sta x64.2 2 12 ((6 : Int32) + (J1.1 0 16)) x64.1) fun M65 => (Option.bind (some (ms M65 0 16 ((M65.1 0 16) + (1 : Int32)))) fun M66 => some M66))) fun J2 => tlf K m (nI (lT D + lR D + lS D)) J2 := by
      unfold tl1
      rw [r_well hw1, bnd, if_neg n10]
      unfold fX5_readsItem
      rw [if_pos rfl]
    rw [go2] at go1
    rw [a1, bnd]
    by_cases o : okn tx n (tE tx n e) 0 99
    · rw [if_pos o] at num ⊢
      obtain ⟨J2, s1, s2, s3⟩ := num
      have hR2 := hR1.kr s2
      have hx1 := hx.kc a2
      obtain ⟨M2, b1, b2⟩ := c_semi hx1 he1 a3
      have he2 := (tE_le (tx := tx) he1).2
      have hv := tV_99 o.1
      have hv3 := a3.2.2.2 o.1
      generalize tV tx n (tE tx n e) = v at s1 hv hv3
      rw [s1, bnd] at go1
      dsimp only at go1
      rw [p6, sta_at (by omega) (by omega), bnd, bnd, ms_ne (by omega), hR2.1, nI_1, bnd] at go1
      have f3 : rF J (ms (ms J2 2 (6 + lT D) (nI v)) 0 16 (nI (lT D + 1))) := ((t2.trans s2).rF.trans (rF.put _ _ _ (by omega))).trans (rF.put _ _ _ (by omega))
      have hw3 : (ms (ms J2 2 (6 + lT D) (nI v)) 0 16 (nI (lT D + 1))).1 0 8 = -1 := by
        rw [ms_ne (by omega), ms_ne (by omega), s2.2.1 8 (by omega)]; exact hw1
      have tk3 : TKr tx n (tE tx n (tE tx n e)) (ms (ms J2 2 (6 + lT D) (nI v)) 0 16 (nI (lT D + 1))) := s3.congr (fun j g1 g2 => by rw [ms_ne (by omega), ms_ne (by omega)])
      obtain ⟨D', d0, d1, d2, d3, d4, d5⟩ := town_ext D v
      have hL' : Lok D' := by
        refine ⟨by rw [d0]; omega, by rw [d1]; exact hL.2.1, by rw [d2]; exact hL.2.2.1, fun i hi => ?_, fun r hr => ?_, fun k hk => ?_, fun k hk => ?_⟩
        · by_cases z : i = lT D
          · rw [z, d3]; exact hv
          · rw [d4 i z]; exact hL.2.2.2.1 i (by omega)
        · rw [d1] at hr
          have := lRT hL hr
          rw [d5 2 (by omega), d5 3 (by omega), d5 4 (by omega), d0]
          exact ⟨by omega, by omega, this.2.2.1, this.2.2.2.1, this.2.2.2.2⟩
        · rw [d2] at hk
          have := hL.2.2.2.2.2.1 k hk
          rw [d5 5 (by omega), d5 6 (by omega), d5 7 (by omega), d0]
          exact ⟨by omega, this.2.1, this.2.2⟩
        · rw [d2] at hk
          have := hL.2.2.2.2.2.2 k hk
          rw [d5 2 (by omega), d5 3 (by omega), d5 4 (by omega), d5 5 (by omega), d5 6 (by omega), d5 7 (by omega), d5 8 (by omega), d1]
          exact this
      have hF' : Lfst D' := by
        intro k hk r hr
        rw [d2] at hk
        rw [d5 8 (by omega)] at hr
        rw [d5 2 (by omega), d5 3 (by omega), d5 5 (by omega)]
        exact hF k hk r hr
      have hR3 : LRd D' (ms (ms J2 2 (6 + lT D) (nI v)) 0 16 (nI (lT D + 1))) := by
        obtain ⟨r1, r2, r3, r4, r5, r6⟩ := hR2
        refine ⟨by rw [d0, ms_eq], by rw [d1, ms_ne (by omega), ms_ne (by omega)]; exact r2, by rw [d2, ms_ne (by omega), ms_ne (by omega)]; exact r3, fun i hi => ?_, fun r hr => ?_, fun k hk => ?_⟩
        · rw [ms_ne (by omega)]
          by_cases z : i = lT D
          · rw [z, ms_eq, d3]
          · rw [ms_ne (by omega), d4 i z]; exact r4 i (by omega)
        · rw [d1] at hr
          rw [d5 2 (by omega), d5 3 (by omega), d5 4 (by omega), ms_row (by omega), ms_row (by omega)]; exact r5 r hr
        · rw [d2] at hk
          rw [d5 5 (by omega), d5 6 (by omega), ms_row (by omega), ms_row (by omega), ms_row (by omega), ms_row (by omega)]; exact r6 k hk
      generalize ms (ms J2 2 (6 + lT D) (nI v)) 0 16 (nI (lT D + 1)) = J3 at go1 f3 hw3 tk3 hR3
      have semi := tlf_semi (K := K) (m := m) (v := nI (lT D + lR D + lS D)) (hy.rF f3) he2 tk3 hw3
      by_cases c : tK tx n (tE tx n (tE tx n e)) = 5
      · rw [if_pos c] at semi b2
        obtain ⟨J4, u1, u2, u3⟩ := semi
        have hC2 := hC.kc hb (a2.trans b1)
        have e0 : M2.1 b 0 = nI (lT D) := hC2.1
        rw [b2.1, bnd]
        dsimp only
        rw [if_neg n10, hv3]
        unfold fX1_addTown
        rw [e0, if_pos (show nI (lT D) < 6 from nI_lt (b := 6) q (by omega)), sta_at q (by omega), bnd, bnd, ms_ne (by omega), e0, nI_1, bnd]
        refine ⟨_, J4, ((a2.trans b1).cF.trans (cF.put hb _ _ _ (by omega))).trans (cF.put hb _ _ _ (by omega)), f3.trans u2.rF, go1.trans (by rw [u1, nI_1]), Or.inr ⟨_, D', rfl, ⟨(tE_le (tx := tx) he2).2, (hx.kc (a2.trans b1)).cF hb ((cF.put hb _ _ _ (by omega)).trans (cF.put hb _ _ _ (by omega))), hy.rF (f3.trans u2.rF), b2.2.congr (by rw [ms_row (by omega), ms_row (by omega)]), u3, (u2.2.1 8 (by omega)).trans hw3, hL', hF', ?_, hR3.kr u2⟩, by rw [d0, d1, d2]; omega⟩⟩
        obtain ⟨c1, c2, c3, c4, c5, c6, c7⟩ := hC2
        refine ⟨by rw [d0, ms_eq], by rw [d1, ms_ne (by omega), ms_ne (by omega)]; exact c2, by rw [d2, ms_ne (by omega), ms_ne (by omega)]; exact c3, fun i hi => ?_, fun r hr => ?_, fun k hk => ?_, fun k hk => ?_⟩
        · rw [ms_ne (by omega)]
          by_cases z : i = lT D
          · rw [z, ms_eq, d3]
          · rw [ms_ne (by omega), d4 i z]; exact c4 i (by omega)
        · rw [d1] at hr
          rw [d5 2 (by omega), d5 3 (by omega), d5 4 (by omega), ms_row (by omega), ms_row (by omega), ms_row (by omega), ms_row (by omega), ms_row (by omega), ms_row (by omega)]; exact c5 r hr
        · rw [d2] at hk
          rw [d5 5 (by omega), d5 6 (by omega), d5 7 (by omega), ms_row (by omega), ms_row (by omega), ms_row (by omega), ms_row (by omega), ms_row (by omega), ms_row (by omega)]; exact c6 k hk
        · rw [d2] at hk
          rw [d5 8 (by omega), ms_row (by omega), ms_row (by omega)]; exact c7 k hk
      · rw [if_neg c] at semi b2
        rw [b2.1, bnd]
        dsimp only
        rw [if_neg n10, if_pos rfl]
        refine ⟨M2, _, (a2.trans b1).cF, f3.trans (rF.put 0 8 _ (by omega)), go1.trans (by rw [semi, nI_1]), Or.inl ⟨_, tB_300 hx he2, rfl, b2.2.2.1, ms_eq _ _ _ _⟩⟩
    · rw [if_neg o] at num ⊢
      rw [num, bnd] at go1
      dsimp only at go1
      rw [p6, sta_at (by omega) (by omega), bnd, bnd, ms_ne (by omega), ms_ne (by omega), hR1.1, nI_1, bnd] at go1
      rw [if_pos rfl]
      have ff : (ms (ms (ms J1 0 8 (nI (tB tx n (tE tx n e)))) 2 (6 + lT D) 0) 0 16 (nI (lT D + 1))).1 0 8 = nI (tB tx n (tE tx n e)) := by rw [ms_ne (by omega), ms_ne (by omega), ms_eq]
      rw [tlf_ill (tB_300 hx he1) ff, nI_1] at go1
      exact ⟨M1, _, a2.cF, ((t2.rF.trans (rF.put 0 8 _ (by omega))).trans (rF.put _ _ _ (by omega))).trans (rF.put _ _ _ (by omega)), go1, Or.inl ⟨_, tB_300 hx he1, rfl, a3.2.1, ff⟩⟩
  · rw [if_neg (show ¬ nI (lT D) < 6 from nI_nlt (b := 6) (by omega) (by omega))]
    refine ⟨M, ms J 0 8 (nI (tB tx n e)), kc.cF (kc.refl M), rF.put _ _ _ (by omega), ?_, Or.inl ⟨tB tx n e, tB_300 hx he, rfl, hc.2.1, ms_eq _ _ _ _⟩⟩
    rw [land_bad (tB_300 hx he) hw (by rw [hk5]; decide) hr.2.1 (Or.inr (Or.inl ⟨hk7, by rw [hR.1]; exact nI_le (a := 6) (by omega) (by omega)⟩)), nI_1]
theorem road_ext (D : Lnd) (a c mi : Nat) : ∃ D' : Lnd, lT D' = lT D ∧ lR D' = lR D + 1 ∧ lS D' = lS D ∧ D' 2 (lR D) = a ∧ D' 3 (lR D) = c ∧ D' 4 (lR D) = mi ∧ (∀ r, r ≠ lR D → D' 2 r = D 2 r ∧ D' 3 r = D 3 r ∧ D' 4 r = D 4 r) ∧ (∀ p, p = 1 ∨ 5 ≤ p → D' p = D p) := by
  refine ⟨dset (dset (dset (dset D 2 (lR D) a) 3 (lR D) c) 4 (lR D) mi) 0 1 (lR D + 1), ?_, dset_eq _ _ _ _, ?_, ?_, ?_, ?_, fun r hr => ⟨?_, ?_, ?_⟩, fun p hp => ?_⟩
  · show dset _ _ _ _ 0 0 = _
    rw [dset_ne (by omega), dset_ne (by omega), dset_ne (by omega), dset_ne (by omega)]
  · show dset _ _ _ _ 0 2 = _
    rw [dset_ne (by omega), dset_ne (by omega), dset_ne (by omega), dset_ne (by omega)]
  · rw [dset_ne (by omega), dset_ne (by omega), dset_ne (by omega), dset_eq]
  · rw [dset_ne (by omega), dset_ne (by omega), dset_eq]
  · rw [dset_ne (by omega), dset_eq]
  · rw [dset_ne (by omega), dset_ne (by omega), dset_ne (by omega), dset_ne (by omega)]
  · rw [dset_ne (by omega), dset_ne (by omega), dset_ne (by omega), dset_ne (by omega)]
  · rw [dset_ne (by omega), dset_ne (by omega), dset_ne (by omega), dset_ne (by omega)]
  · funext q
    rw [dset_ne (by omega), dset_ne (by omega), dset_ne (by omega), dset_ne (by omega)]
def rtail (r17 a : Int32) (x : Int32 × Mem) : Option Mem := Option.bind (fX5_number (1 : Int32) (30 : Int32) x.2) fun y => (Option.bind (sta y.2 3 60 ((30 : Int32) + ((3 : Int32) * r17)) a) fun M39 => (Option.bind (sta M39 3 60 (((30 : Int32) + ((3 : Int32) * r17)) + (1 : Int32)) x.1) fun M40 => (Option.bind (sta M40 3 60 (((30 : Int32) + ((3 : Int32) * r17)) + (2 : Int32)) y.1) fun M41 => (Option.bind (some (ms M41 0 17 ((M41.1 0 17) + (1 : Int32)))) fun M42 => some M42))))
def rsec (r17 a hi : Int32) (J : Mem) : Option Mem := if (J.1 0 5) = (2 : Int32) then (Option.bind (fX5_in (J.1 0 7) (0 : Int32) hi) fun x43 => (if x43 = 0 then (Option.bind (fX5_takes (0 : Int32) J) fun x => rtail r17 a x) else (if (J.1 0 7) = a then (Option.bind (fX5_takes (0 : Int32) J) fun x => rtail r17 a x) else (Option.bind (fX5_takes (1 : Int32) J) fun x => rtail r17 a x)))) else (Option.bind (fX5_takes (0 : Int32) J) fun x => rtail r17 a x)
theorem readsItem1 (J : Mem) : fX5_readsItem 1 J = Option.bind (fX5_number (0 : Int32) ((J.1 0 16) - (1 : Int32)) J) fun x35 => rsec (J.1 0 17) x35.1 ((x35.2.1 0 16) - (1 : Int32)) x35.2 := by
  unfold fX5_readsItem
  rw [if_neg n10, if_pos rfl]
  rfl
theorem rtail_ill {R f : Nat} (hR : R < 10) (hf : f ≤ 300) {a y : Int32} {J : Mem} (h : J.1 0 8 = nI f) : ∃ J', rtail (nI R) a (y, J) = some J' ∧ rF J J' ∧ J'.1 0 8 = nI f := by
  have p0 : (30 : Int32) + 3 * nI R = nI (30 + 3 * R) := by rw [show (30 : Int32) = nI 30 from rfl, i3, pk_mul, nI_add]
  have p2 : nI (30 + 3 * R) + 2 = nI (30 + 3 * R + 2) := by rw [i2, nI_add]
  unfold rtail
  dsimp only
  rw [num_ill hf h, bnd]
  dsimp only
  rw [p0, nI_1, p2, sta_at (by omega) (by omega), bnd, sta_at (by omega) (by omega), bnd, sta_at (by omega) (by omega), bnd, bnd]
  refine ⟨_, rfl, ((((rF.put _ _ _ (by omega)).trans (rF.put _ _ _ (by omega))).trans (rF.put _ _ _ (by omega))).trans (rF.put _ _ _ (by omega))), ?_⟩
  rw [ms_ne (by omega), ms_ne (by omega), ms_ne (by omega), ms_ne (by omega)]; exact h
theorem rsec_ill {R f : Nat} (hR : R < 10) (hf : f ≤ 300) {a hi : Int32} {J : Mem} (h : J.1 0 8 = nI f) : ∃ J', rsec (nI R) a hi J = some J' ∧ rF J J' ∧ J'.1 0 8 = nI f := by
  obtain ⟨J', e1, e2, e3⟩ := rtail_ill hR hf (a := a) (y := 0) h
  refine ⟨J', ?_, e2, e3⟩
  unfold rsec
  rw [take_ill hf h, take_ill hf h]
  simp only [bndp, e1]
  by_cases c : J.1 0 5 = 2
  · rw [if_pos c]
    have two : ∀ x : Int32, (if x = 0 then some J' else if J.1 0 7 = a then some J' else some J') = some J' := fun x => by simp only [ite_self]
    by_cases d : J.1 0 7 < 0 ∨ hi < J.1 0 7
    · rw [fX5_in_no d, bnd]; exact two _
    · rw [fX5_in_yes (fun z => d (Or.inl z)) (fun z => d (Or.inr z)), bnd]; exact two _
  · rw [if_neg c]
theorem it_road (hb : isL b) {K : Int32 → Mem → Option (Int32 × Mem)} {m e : Nat} {D : Lnd} {M J : Mem} (h : ST tx n b e D M J) (hk : tK tx n e = 2) : Itm tx n b (lT D + lR D + lS D) M J (fX3_readRoad b M) (fun J' => fX5_land_36 K (m + 1) (nI (lT D + lR D + lS D)) J = fX5_land_36 K m (nI (lT D + lR D + lS D + 1)) J') := by
  obtain ⟨he, hx, hy, hc, hr, hw, hL, hF, hC, hR⟩ := h
  have hT := hL.1
  have hRn := hL.2.1
  have hb3 : 3 ≤ b := by rcases hb with rfl | rfl <;> omega
  have hk5 : J.1 0 5 = 1 := by rw [hr.1, hk]; rfl
  have hk7 : J.1 0 7 = 1 := by rw [hr.2.2.2.2 (by omega), hk]; rfl
  have he1 := (tE_le (tx := tx) he).2
  have he2 := (tE_le (tx := tx) he1).2
  have he3 := (tE_le (tx := tx) he2).2
  have he4 := (tE_le (tx := tx) he3).2
  unfold fX3_readRoad
  rw [hC.2.1]
  by_cases q : lR D < 10
  · rw [if_pos (show nI (lR D) < 10 from nI_lt (b := 10) q (by omega))]
    obtain ⟨J1, t1, t2, t3⟩ := take1 hy he hr hw
    have go1 : fX5_land_36 K (m + 1) (nI (lT D + lR D + lS D)) J = tl1 K m (nI (lT D + lR D + lS D)) 1 J1 := by
      rw [land_good hw hk5 (Or.inr (Or.inl ⟨hk7, by rw [hR.2.1]; exact nI_ge (b := 10) q (by omega)⟩)), t1, bnd, hk7]
    obtain ⟨M1, a1, a2, a3⟩ := c_rnum hx he hc 0 (nI (lT D) - 1)
    have hw1 : J1.1 0 8 = -1 := (t2.2.1 8 (by omega)).trans hw
    have hR1 := hR.kr t2
    have num := r_num (hy.kr t2) he1 t3 hw1 0 (nI (lT D) - 1)
    have go2 : tl1 K m (nI (lT D + lR D + lS D)) 1 J1 = Option.bind (Option.bind (fX5_number (0 : Int32) (nI (lT D) - (1 : Int32)) J1) fun x35 => rsec (nI (lR D)) x35.1 ((x35.2.1 0 16) - (1 : Int32)) x35.2) fun J2 => tlf K m (nI (lT D + lR D + lS D)) J2 := by
      unfold tl1
      rw [r_well hw1, bnd, if_neg n10, readsItem1, hR1.1, hR1.2.1]
    rw [go2] at go1
    rw [hC.1, a1, bnd]
    by_cases o1 : okn tx n (tE tx n e) 0 (nI (lT D) - 1)
    · rw [if_pos o1] at num ⊢
      obtain ⟨J2, s1, s2, s3⟩ := num
      have hR2 := hR1.kr s2
      have hw2 : J2.1 0 8 = -1 := (s2.2.1 8 (by omega)).trans hw1
      have hy2 := (hy.kr t2).kr s2
      have hx1 := hx.kc a2
      have hC1 := hC.kc hb a2
      have hv1 := tV_99 o1.1
      have hl1 := ok_pred (show lT D < 2 ^ 30 by omega) (show tV tx n (tE tx n e) < 2 ^ 31 by omega) o1.2.2
      have hm1 := a3.2.2.2 o1.1
      rw [s1, bnd] at go1
      dsimp only at go1
      rw [hR2.1] at go1
      obtain ⟨M2, b1, b2, b3⟩ := c_rnum hx1 he1 a3 0 (nI (lT D) - 1)
      have hx2 := hx1.kc b2
      have hC2 := hC1.kc hb b2
      dsimp only
      rw [if_neg n10, hC1.1, b1, bnd, hm1]
      generalize tV tx n (tE tx n e) = v1 at s1 hv1 hl1 hm1 go1 ⊢
      have hk2 := tK_le tx n (tE tx n (tE tx n e))
      have hr2 := rk_in _ hk2
      have bad2 : (¬ okn tx n (tE tx n (tE tx n e)) 0 (nI (lT D) - 1) ∨ tV tx n (tE tx n (tE tx n e)) = v1) → ∃ J', fX5_land_36 K (m + 1) (nI (lT D + lR D + lS D)) J = fX5_land_36 K m (nI (lT D + lR D + lS D + 1)) J' ∧ rF J J' ∧ J'.1 0 8 = nI (tB tx n (tE tx n (tE tx n e))) := by
        intro hbad
        have hi8 : (ms J2 0 8 (nI (tB tx n (tE tx n (tE tx n e))))).1 0 8 = nI (tB tx n (tE tx n (tE tx n e))) := ms_eq _ _ _ _
        obtain ⟨J', e1, e2, e3⟩ := rtail_ill q (tB_300 hx he2) (a := nI v1) (y := 0) hi8
        refine ⟨J', ?_, (((t2.trans s2).rF).trans (rF.put 0 8 _ (by omega))).trans e2, e3⟩
        have tk0 : (Option.bind (fX5_takes (0 : Int32) J2) fun x => rtail (nI (lR D)) (nI v1) x) = some J' := by rw [take0 hw2, bnd, s3.2.1]; exact e1
        have hs : rsec (nI (lR D)) (nI v1) (nI (lT D) - 1) J2 = some J' := by
          unfold rsec
          rw [tk0]
          by_cases c : J2.1 0 5 = 2
          · rw [if_pos c]
            have c4 : tK tx n (tE tx n (tE tx n e)) = 4 := hr2.2.2.2.1.mp (nIe (b := 2) (s3.1.symm.trans c) (by omega) (by omega))
            rw [s3.2.2.2.1 c4]
            by_cases d : nI (tV tx n (tE tx n (tE tx n e))) < 0 ∨ nI (lT D) - 1 < nI (tV tx n (tE tx n (tE tx n e)))
            · rw [fX5_in_no d, bnd, if_pos rfl]
            · rw [fX5_in_yes (fun z => d (Or.inl z)) (fun z => d (Or.inr z)), bnd, if_neg n10]
              have ev := hbad.resolve_left (fun z => z ⟨c4, fun z => d (Or.inl z), fun z => d (Or.inr z)⟩)
              rw [if_pos (by rw [ev])]
          · rw [if_neg c]
        rw [go1, hs, bnd, tlf_ill (tB_300 hx he2) e3, nI_1]
      by_cases o2 : okn tx n (tE tx n (tE tx n e)) 0 (nI (lT D) - 1)
      · rw [if_pos o2]
        have hv2 := tV_99 o2.1
        have hl2 := ok_pred (show lT D < 2 ^ 30 by omega) (show tV tx n (tE tx n (tE tx n e)) < 2 ^ 31 by omega) o2.2.2
        have hm2 := b3.2.2.2 o2.1
        dsimp only
        rw [if_neg n10, hm2]
        by_cases w : tV tx n (tE tx n (tE tx n e)) = v1
        · obtain ⟨J', e1, e2, e3⟩ := bad2 (Or.inr w)
          rw [if_pos (by rw [w])]
          exact ⟨M2, J', (a2.trans b2).cF, e2, e1, Or.inl ⟨_, tB_300 hx he2, rfl, b3.2.1, e3⟩⟩
        · rw [if_neg (fun z => w (nIe z (by omega) (by omega)))]
          obtain ⟨J3, u1, u2, u3⟩ := take1 hy2 he2 s3 hw2
          have hw3 : J3.1 0 8 = -1 := (u2.2.1 8 (by omega)).trans hw2
          have hR3 := hR2.kr u2
          have hy3 := hy2.kr u2
          have hJ27 := s3.2.2.2.1 o2.1
          have o21 := o2.1
          have o22 : ¬ nI (tV tx n (tE tx n (tE tx n e))) < 0 := o2.2.1
          have o23 : ¬ nI (lT D) - 1 < nI (tV tx n (tE tx n (tE tx n e))) := o2.2.2
          generalize tV tx n (tE tx n (tE tx n e)) = v2 at o22 o23 hv2 hl2 hm2 w hJ27 ⊢
          have hs : rsec (nI (lR D)) (nI v1) (nI (lT D) - 1) J2 = rtail (nI (lR D)) (nI v1) (nI v2, J3) := by
            unfold rsec
            rw [if_pos (show J2.1 0 5 = 2 by rw [s3.1, hr2.2.2.2.1.mpr o21]; rfl), hJ27, fX5_in_yes o22 o23, bnd, if_neg n10, if_neg (fun z => w (nIe z (by omega) (by omega))), u1, bnd, hJ27]
          rw [hs] at go1
          obtain ⟨M3, c1, c2, c3⟩ := c_rnum hx2 he2 b3 1 30
          have hx3 := hx2.kc c2
          have hC3 := hC2.kc hb c2
          have num3 := r_num hy3 he3 u3 hw3 1 30
          rw [c1, bnd]
          by_cases o3 : okn tx n (tE tx n (tE tx n (tE tx n e))) 1 30
          · rw [if_pos o3] at num3 ⊢
            obtain ⟨J4, x1, x2, x3⟩ := num3
            have hR4 := hR3.kr x2
            have hv3 := tV_99 o3.1
            have hlo : 1 ≤ tV tx n (tE tx n (tE tx n (tE tx n e))) := ok_lo (a := 1) (by omega) (by omega) o3.2.1
            have hhi : tV tx n (tE tx n (tE tx n (tE tx n e))) < 31 := ok_pred (T := 31) (by omega) (by omega) o3.2.2
            have hm3 := c3.2.2.2 o3.1
            dsimp only
            rw [if_neg n10, hm3]
            generalize tV tx n (tE tx n (tE tx n (tE tx n e))) = v3 at x1 hlo hhi hm3 ⊢
            have p0 : (30 : Int32) + 3 * nI (lR D) = nI (30 + 3 * lR D) := by rw [show (30 : Int32) = nI 30 from rfl, i3, pk_mul, nI_add]
            have p2 : nI (30 + 3 * lR D) + 2 = nI (30 + 3 * lR D + 2) := by rw [i2, nI_add]
            unfold rtail at go1
            dsimp only at go1
            rw [x1, bnd] at go1
            dsimp only at go1
            rw [p0, nI_1, p2, sta_at (by omega) (by omega), bnd, sta_at (by omega) (by omega), bnd, sta_at (by omega) (by omega), bnd, bnd, ms_ne (by omega), ms_ne (by omega), ms_ne (by omega), hR4.2.1, nI_1, bnd] at go1
            obtain ⟨D', d0, d1, d2, d3, d4, d5, d6, d7⟩ := road_ext D v1 v2 v3
            have f5 : rF J (ms (ms (ms (ms J4 3 (30 + 3 * lR D) (nI v1)) 3 (30 + 3 * lR D + 1) (nI v2)) 3 (30 + 3 * lR D + 2) (nI v3)) 0 17 (nI (lR D + 1))) := ((((((t2.trans s2).trans u2).trans x2).rF.trans (rF.put _ _ _ (by omega))).trans (rF.put _ _ _ (by omega))).trans (rF.put _ _ _ (by omega))).trans (rF.put _ _ _ (by omega))
            have hw5 : (ms (ms (ms (ms J4 3 (30 + 3 * lR D) (nI v1)) 3 (30 + 3 * lR D + 1) (nI v2)) 3 (30 + 3 * lR D + 2) (nI v3)) 0 17 (nI (lR D + 1))).1 0 8 = -1 := by
              rw [ms_ne (by omega), ms_ne (by omega), ms_ne (by omega), ms_ne (by omega), x2.2.1 8 (by omega)]; exact hw3
            have tk5 : TKr tx n (tE tx n (tE tx n (tE tx n (tE tx n e)))) (ms (ms (ms (ms J4 3 (30 + 3 * lR D) (nI v1)) 3 (30 + 3 * lR D + 1) (nI v2)) 3 (30 + 3 * lR D + 2) (nI v3)) 0 17 (nI (lR D + 1))) := x3.congr (fun j g1 g2 => by rw [ms_ne (by omega), ms_ne (by omega), ms_ne (by omega), ms_ne (by omega)])
            have hL' : Lok D' := by
              refine ⟨by rw [d0]; exact hT, by rw [d1]; omega, by rw [d2]; exact hL.2.2.1, fun i hi => ?_, fun r hr => ?_, fun k hk => ?_, fun k hk => ?_⟩
              · rw [d0] at hi; rw [d7 1 (by omega)]; exact hL.2.2.2.1 i hi
              · rw [d1] at hr
                by_cases z : r = lR D
                · rw [z, d3, d4, d5, d0]; exact ⟨hl1, hl2, fun z => w z.symm, hlo, by omega⟩
                · obtain ⟨y1, y2, y3⟩ := d6 r z
                  rw [y1, y2, y3, d0]; exact lRT hL (by omega)
              · rw [d2] at hk
                rw [d7 5 (by omega), d7 6 (by omega), d7 7 (by omega), d0]; exact hL.2.2.2.2.2.1 k hk
              · rw [d2] at hk
                have g := hL.2.2.2.2.2.2 k hk
                obtain ⟨y1, y2, y3⟩ := d6 (D 8 (k + 1)) (by have := g.1; omega)
                rw [d7 8 (by omega), d7 5 (by omega), d7 6 (by omega), d7 7 (by omega), y1, y2, y3, d1]
                exact ⟨by have := g.1; omega, g.2⟩
            have hF' : Lfst D' := by
              intro k hk r hr
              rw [d2] at hk
              rw [d7 8 (by omega)] at hr
              have g := hL.2.2.2.2.2.2 k hk
              obtain ⟨y1, y2, y3⟩ := d6 r (by have := g.1; omega)
              have := hF k hk r hr
              rw [d7 5 (by omega)]
              unfold jn at this ⊢
              rw [y1, y2]; exact this
            have hR5 : LRd D' (ms (ms (ms (ms J4 3 (30 + 3 * lR D) (nI v1)) 3 (30 + 3 * lR D + 1) (nI v2)) 3 (30 + 3 * lR D + 2) (nI v3)) 0 17 (nI (lR D + 1))) := by
              obtain ⟨r1, r2, r3, r4, r5, r6⟩ := hR4
              refine ⟨by rw [d0, ms_ne (by omega), ms_ne (by omega), ms_ne (by omega), ms_ne (by omega)]; exact r1, by rw [d1, ms_eq], by rw [d2, ms_ne (by omega), ms_ne (by omega), ms_ne (by omega), ms_ne (by omega)]; exact r3, fun i hi => ?_, fun r hr => ?_, fun k hk => ?_⟩
              · rw [d0] at hi
                rw [d7 1 (by omega), ms_row (by omega), ms_row (by omega), ms_row (by omega), ms_row (by omega)]; exact r4 i hi
              · rw [d1] at hr
                by_cases z : r = lR D
                · rw [z, d3, d4, d5]
                  refine ⟨?_, ?_, ?_⟩
                  · rw [ms_ne (by omega), ms_ne (by omega), ms_ne (by omega), ms_eq]
                  · rw [ms_ne (by omega), ms_ne (by omega), ms_eq]
                  · rw [ms_ne (by omega), ms_eq]
                · obtain ⟨y1, y2, y3⟩ := d6 r z
                  obtain ⟨z1, z2, z3⟩ := r5 r (by omega)
                  rw [y1, y2, y3]
                  refine ⟨?_, ?_, ?_⟩ <;> rw [ms_ne (by omega), ms_ne (by omega), ms_ne (by omega), ms_ne (by omega)] <;> assumption
              · rw [d2] at hk
                rw [d7 5 (by omega), d7 6 (by omega), ms_row (by omega), ms_row (by omega), ms_row (by omega), ms_row (by omega), ms_row (by omega), ms_row (by omega), ms_row (by omega), ms_row (by omega)]; exact r6 k hk
            generalize ms (ms (ms (ms J4 3 (30 + 3 * lR D) (nI v1)) 3 (30 + 3 * lR D + 1) (nI v2)) 3 (30 + 3 * lR D + 2) (nI v3)) 0 17 (nI (lR D + 1)) = J5 at go1 f5 hw5 tk5 hR5
            have semi := tlf_semi (K := K) (m := m) (v := nI (lT D + lR D + lS D)) (hy.rF f5) he4 tk5 hw5
            obtain ⟨M4, g1, g2⟩ := c_semi hx3 he3 c3
            have kk := ((a2.trans b2).trans c2).trans g1
            by_cases c : tK tx n (tE tx n (tE tx n (tE tx n (tE tx n e)))) = 5
            · rw [if_pos c] at semi g2
              obtain ⟨J6, y1, y2, y3⟩ := semi
              have hC4 := hC.kc hb kk
              have e0 : M4.1 b 2 = nI (lR D) := hC4.2.1
              rw [g2.1, bnd]
              dsimp only
              rw [if_neg n10]
              unfold fX1_addRoad
              rw [e0, if_pos (show nI (lR D) < 10 from nI_lt (b := 10) q (by omega)), sta_at q (by omega), bnd, ms_ne (by omega), e0, sta_at q (by omega), bnd, ms_ne (by omega), ms_ne (by omega), e0, sta_at q (by omega), bnd, bnd, ms_ne (by omega), ms_ne (by omega), ms_ne (by omega), e0, nI_1, bnd]
              have cf : cF b M4 (ms (ms (ms (ms M4 (b + 2) (lR D) (nI v1)) (b + 3) (lR D) (nI v2)) (b + 4) (lR D) (nI v3)) b 2 (nI (lR D + 1))) := (((cF.put hb _ _ _ (by omega)).trans (cF.put hb _ _ _ (by omega))).trans (cF.put hb _ _ _ (by omega))).trans (cF.put hb _ _ _ (by omega))
              refine ⟨_, J6, kk.cF.trans cf, f5.trans y2.rF, go1.trans (by rw [y1, nI_1]), Or.inr ⟨_, D', rfl, ⟨(tE_le (tx := tx) he4).2, (hx.kc kk).cF hb cf, hy.rF (f5.trans y2.rF), g2.2.congr (by rw [ms_row (by omega), ms_row (by omega), ms_row (by omega), ms_row (by omega)]), y3, (y2.2.1 8 (by omega)).trans hw5, hL', hF', ?_, hR5.kr y2⟩, by rw [d0, d1, d2]; omega⟩⟩
              obtain ⟨c1, c2, c3, c4, c5, c6, c7⟩ := hC4
              refine ⟨by rw [d0, ms_ne (by omega), ms_ne (by omega), ms_ne (by omega), ms_ne (by omega)]; exact c1, by rw [d1, ms_eq], by rw [d2, ms_ne (by omega), ms_ne (by omega), ms_ne (by omega), ms_ne (by omega)]; exact c3, fun i hi => ?_, fun r hr => ?_, fun k hk => ?_, fun k hk => ?_⟩
              · rw [d0] at hi
                rw [d7 1 (by omega), ms_row (by omega), ms_row (by omega), ms_row (by omega), ms_row (by omega)]; exact c4 i hi
              · rw [d1] at hr
                by_cases z : r = lR D
                · rw [z, d3, d4, d5]
                  refine ⟨?_, ?_, ?_⟩
                  · rw [ms_ne (by omega), ms_ne (by omega), ms_ne (by omega), ms_eq]
                  · rw [ms_ne (by omega), ms_ne (by omega), ms_eq]
                  · rw [ms_ne (by omega), ms_eq]
                · obtain ⟨y1, y2, y3⟩ := d6 r z
                  obtain ⟨z1, z2, z3⟩ := c5 r (by omega)
                  rw [y1, y2, y3]
                  refine ⟨?_, ?_, ?_⟩ <;> rw [ms_ne (by omega), ms_ne (by omega), ms_ne (by omega), ms_ne (by omega)] <;> assumption
              · rw [d2] at hk
                obtain ⟨z1, z2, z3⟩ := c6 k hk
                rw [d7 5 (by omega), d7 6 (by omega), d7 7 (by omega)]
                refine ⟨?_, ?_, ?_⟩ <;> rw [ms_ne (by omega), ms_ne (by omega), ms_ne (by omega), ms_ne (by omega)] <;> assumption
              · rw [d2] at hk
                rw [d7 8 (by omega), ms_row (by omega), ms_row (by omega), ms_row (by omega), ms_row (by omega)]; exact c7 k hk
            · rw [if_neg c] at semi g2
              rw [g2.1, bnd]
              dsimp only
              rw [if_pos rfl]
              exact ⟨M4, _, kk.cF, f5.trans (rF.put 0 8 _ (by omega)), go1.trans (by rw [semi, nI_1]), Or.inl ⟨_, tB_300 hx he4, rfl, g2.2.2.1, ms_eq _ _ _ _⟩⟩
          · rw [if_neg o3] at num3 ⊢
            have p0 : (30 : Int32) + 3 * nI (lR D) = nI (30 + 3 * lR D) := by rw [show (30 : Int32) = nI 30 from rfl, i3, pk_mul, nI_add]
            have p2 : nI (30 + 3 * lR D) + 2 = nI (30 + 3 * lR D + 2) := by rw [i2, nI_add]
            unfold rtail at go1
            dsimp only at go1
            rw [num3, bnd] at go1
            dsimp only at go1
            rw [p0, nI_1, p2, sta_at (by omega) (by omega), bnd, sta_at (by omega) (by omega), bnd, sta_at (by omega) (by omega), bnd, bnd, bnd] at go1
            dsimp only
            rw [if_pos rfl]
            have ff : ∀ x : Int32, (ms (ms (ms (ms (ms J3 0 8 (nI (tB tx n (tE tx n (tE tx n (tE tx n e)))))) 3 (30 + 3 * lR D) (nI v1)) 3 (30 + 3 * lR D + 1) (nI v2)) 3 (30 + 3 * lR D + 2) 0) 0 17 x).1 0 8 = nI (tB tx n (tE tx n (tE tx n (tE tx n e)))) := fun x => by rw [ms_ne (by omega), ms_ne (by omega), ms_ne (by omega), ms_ne (by omega), ms_eq]
            rw [tlf_ill (tB_300 hx he3) (ff _), nI_1] at go1
            exact ⟨M3, _, ((a2.trans b2).trans c2).cF, ((((((t2.trans s2).trans u2).rF.trans (rF.put 0 8 _ (by omega))).trans (rF.put _ _ _ (by omega))).trans (rF.put _ _ _ (by omega))).trans (rF.put _ _ _ (by omega))).trans (rF.put _ _ _ (by omega)), go1, Or.inl ⟨_, tB_300 hx he3, rfl, c3.2.1, ff _⟩⟩
      · rw [if_neg o2]
        obtain ⟨J', e1, e2, e3⟩ := bad2 (Or.inl o2)
        dsimp only
        rw [if_pos rfl]
        exact ⟨M2, J', (a2.trans b2).cF, e2, e1, Or.inl ⟨_, tB_300 hx he2, rfl, b3.2.1, e3⟩⟩
    · rw [if_neg o1] at num ⊢
      rw [num, bnd] at go1
      dsimp only at go1
      have hi8 : (ms J1 0 8 (nI (tB tx n (tE tx n e)))).1 0 8 = nI (tB tx n (tE tx n e)) := ms_eq _ _ _ _
      obtain ⟨J', e1, e2, e3⟩ := rsec_ill q (tB_300 hx he1) (a := 0) (hi := (ms J1 0 8 (nI (tB tx n (tE tx n e)))).1 0 16 - 1) hi8
      rw [e1, bnd, tlf_ill (tB_300 hx he1) e3, nI_1] at go1
      dsimp only
      rw [if_pos rfl]
      exact ⟨M1, J', a2.cF, (t2.rF.trans (rF.put 0 8 _ (by omega))).trans e2, go1, Or.inl ⟨_, tB_300 hx he1, rfl, a3.2.1, e3⟩⟩
  · rw [if_neg (show ¬ nI (lR D) < 10 from nI_nlt (b := 10) (by omega) (by omega))]
    refine ⟨M, ms J 0 8 (nI (tB tx n e)), kc.cF (kc.refl M), rF.put _ _ _ (by omega), ?_, Or.inl ⟨tB tx n e, tB_300 hx he, rfl, hc.2.1, ms_eq _ _ _ _⟩⟩
    rw [land_bad (tB_300 hx he) hw (by rw [hk5]; decide) hr.2.1 (Or.inr (Or.inr (Or.inl ⟨hk7, by rw [hR.2.1]; exact nI_le (a := 10) (by omega) (by omega)⟩))), nI_1]
end ITEMS
