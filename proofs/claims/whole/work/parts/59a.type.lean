/-! text typed in -/
theorem byte_bv (u : BitVec 64) (k : Nat) (hk : k ≤ 56) : (u >>> k).signExtend 32 &&& 255#32 = ((u.sshiftRight k) &&& 255#64).signExtend 32 := by
  rw [BitVec.signExtend_eq_setWidth_of_le _ (by omega), BitVec.signExtend_eq_setWidth_of_le _ (by omega)]
  apply BitVec.eq_of_getLsbD_eq
  intro i hi
  simp only [BitVec.getLsbD_and, BitVec.getLsbD_setWidth, BitVec.getLsbD_ushiftRight, BitVec.getLsbD_sshiftRight, hi, decide_true, Bool.true_and]
  by_cases h8 : i < 8
  · have h1 : ¬ 64 ≤ i := by omega
    have h2 : k + i < 64 := by omega
    have h3 : (255#32).getLsbD i = (255#64).getLsbD i := by
      rcases (show i = 0 ∨ i = 1 ∨ i = 2 ∨ i = 3 ∨ i = 4 ∨ i = 5 ∨ i = 6 ∨ i = 7 by omega) with rfl | rfl | rfl | rfl | rfl | rfl | rfl | rfl <;> decide
    simp [h1, h2, h3]
  · have h3 : (255#32).getLsbD i = false := by
      have : ∀ j : Fin 32, 8 ≤ j.val → (255#32).getLsbD j.val = false := by decide
      exact this ⟨i, hi⟩ (by show 8 ≤ i; omega)
    have h4 : (255#64).getLsbD i = false := by
      have : ∀ j : Fin 32, 8 ≤ j.val → (255#64).getLsbD j.val = false := by decide
      exact this ⟨i, hi⟩ (by show 8 ≤ i; omega)
    rw [h3, h4, Bool.and_false, Bool.and_false]
abbrev bytC (u : Int64) (v : Int32) : Int32 := (Int64.toInt32 ((Int64.toUInt64 u >>> ((Int32.toInt64 ((8 : Int32) * v)).toUInt64 &&& Int64.toUInt64 63)).toInt64)) &&& (255 : Int32)
abbrev bytR (u : Int64) (v : Int32) : Int32 := Int64.toInt32 ((u >>> (Int32.toInt64 ((8 : Int32) * v) &&& 63)) &&& (255 : Int64))
theorem byt_eq (u : Int64) {i : Nat} (hi : i < 8) : bytC u (nI i) = bytR u (nI i) := by
  apply Int32.toBitVec_inj.mp
  have h := byte_bv u.toBitVec (8 * i) (by omega)
  rcases (show i = 0 ∨ i = 1 ∨ i = 2 ∨ i = 3 ∨ i = 4 ∨ i = 5 ∨ i = 6 ∨ i = 7 by omega) with rfl | rfl | rfl | rfl | rfl | rfl | rfl | rfl <;> exact h
theorem m1_eq (x : Int32) : x + (-1) = x - 1 := (Int32.sub_eq_add_neg x 1).symm
theorem type_lp {L : Lnd} (u : Int64) : ∀ (n k m : Nat) (M J : Mem), k ≤ 8 → k < n → M.1 1 1 = nI m → m + k ≤ 300 → InvL L M J → ∃ (r : Int32) (M' J' : Mem), fX4_type_36 u (fun M4 => some ((M4.1 1 1), M4)) n (nI k - 1) M = some (r, M') ∧ fX5_type_37 u (fun M5 => some ((M5.1 0 3), M5)) n (nI k - 1) J = some (r, J') ∧ InvL L M' J'
  | 0, _, _, _, _, _, h, _, _, _ => by omega
  | n + 1, k, m, M, J, h1, h2, h3, h4, hI => by
    have hK := hI
    obtain ⟨hL, g2, g3, g4, ⟨m', hn, t1, t2, t3⟩, h7, h8, h9, h10⟩ := hI
    have e : m' = m := nIe (t1.symm.trans h3) (by omega) (by omega)
    subst e
    unfold fX4_type_36 fX5_type_37
    by_cases hk : k = 0
    · subst hk
      have z : nI 0 - 1 < 0 := by decide
      rw [if_pos z, if_pos z]
      exact ⟨nI m', M, J, by rw [t1], by rw [t2], hK⟩
    obtain ⟨j, rfl⟩ : ∃ j, k = j + 1 := ⟨k - 1, by omega⟩
    have z : ¬ nI j < 0 := nI_pos (by omega)
    rw [nI_pred, if_neg z, if_neg z]
    have eb := byt_eq u (show j < 8 by omega)
    obtain ⟨c, hc, ec⟩ := pk_andE (Int64.toInt32 ((Int64.toUInt64 u >>> ((Int32.toInt64 ((8 : Int32) * nI j)).toUInt64 &&& Int64.toUInt64 63)).toInt64)) (m := 255) 8 (by decide)
    have ec1 : bytC u (nI j) = nI c := ec
    have ec2 : bytR u (nI j) = nI c := eb.symm.trans ec1
    show ∃ (r : Int32) (M' J' : Mem), (Option.bind (fX3_append (bytC u (nI j)) M) fun x2 => (fX4_type_36 u (fun M4 => some ((M4.1 1 1), M4)) n (nI j + (-1)) x2)) = some (r, M') ∧ (Option.bind (sta J 1 300 (J.1 0 3) (bytR u (nI j))) fun M2 => (Option.bind (some (ms M2 0 3 ((M2.1 0 3) + (1 : Int32)))) fun M3 => (fX5_type_37 u (fun M5 => some ((M5.1 0 3), M5)) n (nI j + (-1)) M3))) = some (r, J') ∧ InvL L M' J'
    rw [ec1, ec2, m1_eq]
    unfold fX3_append
    rw [t1, t2, if_pos (show nI m' < 300 from nI_lt (b := 300) (by omega) (by omega)), sta_at (by omega) (by omega), bnd, bnd, bnd, sta_at (by omega) (by omega), bnd, bnd, ms_ne (by omega), ms_ne (by omega), t1, t2, nI_1]
    refine type_lp u n j (m' + 1) _ _ (by omega) (by omega) (by rw [ms_eq]) (by omega) ?_
    refine inv_frame hK ?_ (fun q a b => ?_) ?_ ⟨m' + 1, by omega, by rw [ms_eq], by rw [ms_eq], fun i hi => ?_⟩ (h7.congr (fun i hi => ?_) ?_) (h8.congr (fun i hi => ?_) ?_ ?_) (h9.congr (fun i hi => ?_) ?_ ?_) h10
    · rw [ms_row (by omega), ms_row (by omega)]
    · rw [ms_row (by omega), ms_row (by omega)]
    · exact (sjL.row _ _ _ (by omega)).trans (sjL.int _ _ (by omega))
    · by_cases ei : i = m'
      · subst ei
        refine ⟨c, hc, ?_, ?_⟩
        · rw [ms_ne (by omega), ms_eq]
        · rw [ms_ne (by omega), ms_eq]
      · obtain ⟨d, a1, a2, a3⟩ := t3 i (by omega)
        refine ⟨d, a1, ?_, ?_⟩
        · rw [ms_ne (by omega), ms_ne (by omega)]; exact a2
        · rw [ms_ne (by omega), ms_ne (by omega)]; exact a3
    all_goals rw [ms_row (by omega), ms_row (by omega)]
theorem pu_type (a1 : Int64) (a3 : Int32) {M J : Mem} (hI : Inv M J) : ∃ (r : Int32) (M1 J1 : Mem), fX4_type a1 a3 M = some (r, M1) ∧ fX5_type a1 a3 J = some (r, J1) ∧ Inv M1 J1 := by
  obtain ⟨L, hI⟩ := hI
  have hJ := inv_th hI
  unfold fX4_type fX5_type
  rw [bnd]
  generalize ms J 0 0 0 = J1 at hJ ⊢
  have hK := hJ
  have hk : Inv M J1 := ⟨L, hK⟩
  obtain ⟨hL, g2, g3, g4, ⟨m, hn, t1, t2, t3⟩, h7, h8, h9, h10⟩ := hJ
  by_cases c1 : a3 < 1
  · refine ⟨-1, M, J1, ?_, ?_, hk⟩
    · simp only [c1, ↓reduceIte]
    · simp only [fX5_in_no (lo := 1) (hi := 8) (Or.inl c1), bndp, ↓reduceIte]
  by_cases c2 : a3 ≤ 8
  · have cY := fX5_in_yes (lo := 1) (hi := 8) c1 (nlt_of_le c2)
    obtain ⟨k, hk1, rfl⟩ : ∃ k, k ≤ 8 ∧ a3 = nI k := by
      rcases ixs a3 9 (by omega) with ⟨j, hj, e⟩ | h | h
      · exact ⟨j, by omega, e⟩
      · exact absurd (Int32.lt_trans h (by decide)) c1
      · exact absurd (Int32.le_trans h c2) (by decide)
    by_cases c3 : m + k ≤ 300
    · have c4 : nI m + nI k ≤ 300 := by rw [nI_add]; exact nI_le (b := 300) c3 (by omega)
      obtain ⟨r, M', J', e1, e2, e3⟩ := type_lp a1 mF k m M J1 hk1 (by unfold mF; omega) t1 c3 hK
      refine ⟨r, M', J', ?_, ?_, L, e3⟩
      · rw [if_neg c1, if_pos c2, t1, if_pos c4]; exact e1
      · rw [cY, bnd, if_neg n10, t2, if_pos c4]; exact e2
    · have c4 : ¬ nI m + nI k ≤ 300 := by rw [nI_add]; exact nI_ge (a := 300) (by omega) (by omega)
      refine ⟨-3, M, J1, ?_, ?_, hk⟩
      · rw [if_neg c1, if_pos c2, t1, if_neg c4]
      · rw [cY, bnd, if_neg n10, t2, if_neg c4]
  · refine ⟨-1, M, J1, ?_, ?_, hk⟩
    · simp only [c1, c2, ↓reduceIte]
    · simp only [fX5_in_no (lo := 1) (hi := 8) (Or.inr (lt_of_nle c2)), bndp, ↓reduceIte]
