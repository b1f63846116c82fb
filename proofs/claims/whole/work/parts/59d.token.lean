/-! tokens -/
/-- on from e, at most d bytes, while g holds -/
def adv (g : Nat → Bool) : Nat → Nat → Nat
  | 0, e => e
  | d + 1, e => if g e = true then adv g d (e + 1) else e
theorem adv_ge (g : Nat → Bool) : ∀ d e, e ≤ adv g d e
  | 0, e => Nat.le_refl e
  | d + 1, e => by
    unfold adv
    by_cases c : g e = true
    · rw [if_pos c]; have := adv_ge g d (e + 1); omega
    · rw [if_neg c]; exact Nat.le_refl e
theorem adv_le (g : Nat → Bool) : ∀ d e, adv g d e ≤ e + d
  | 0, e => Nat.le_refl e
  | d + 1, e => by
    unfold adv
    by_cases c : g e = true
    · rw [if_pos c]; have := adv_le g d (e + 1); omega
    · rw [if_neg c]; omega
theorem adv_all (g : Nat → Bool) : ∀ d e j, e ≤ j → j < adv g d e → g j = true
  | 0, e, j, h1, h2 => by unfold adv at h2; omega
  | d + 1, e, j, h1, h2 => by
    unfold adv at h2
    by_cases c : g e = true
    · rw [if_pos c] at h2
      by_cases z : j = e
      · rw [z]; exact c
      · exact adv_all g d (e + 1) j (by omega) h2
    · rw [if_neg c] at h2; omega
def bl (tx : Nat → Nat) (i : Nat) : Bool := decide (tx i = 32)
def lt (tx : Nat → Nat) (i : Nat) : Bool := decide (97 ≤ tx i ∧ tx i ≤ 122)
def dg (tx : Nat → Nat) (i : Nat) : Bool := decide (48 ≤ tx i ∧ tx i ≤ 57)
def isw (tx : Nat → Nat) (b e x y z w : Nat) : Bool := decide (e = b + 4 ∧ tx b = x ∧ tx (b + 1) = y ∧ tx (b + 2) = z ∧ tx (b + 3) = w)
def wkd (tx : Nat → Nat) (b e : Nat) : Nat := if isw tx b e 116 111 119 110 = true then 1 else if isw tx b e 114 111 97 100 = true then 2 else if isw tx b e 115 116 111 112 = true then 3 else 6
def nvl (tx : Nat → Nat) (b e : Nat) : Option Nat := if e = b + 1 then some (tx b - 48) else if e = b + 2 then (if tx b = 48 then none else some (10 * (tx b - 48) + (tx (b + 1) - 48))) else none
def tB (tx : Nat → Nat) (n e : Nat) : Nat := adv (bl tx) (n - e) e
def tE (tx : Nat → Nat) (n e : Nat) : Nat := if tB tx n e < n then (if lt tx (tB tx n e) = true then adv (lt tx) (n - tB tx n e) (tB tx n e) else if dg tx (tB tx n e) = true then adv (dg tx) (n - tB tx n e) (tB tx n e) else tB tx n e + 1) else tB tx n e
def tK (tx : Nat → Nat) (n e : Nat) : Nat := if tB tx n e < n then (if lt tx (tB tx n e) = true then wkd tx (tB tx n e) (tE tx n e) else if dg tx (tB tx n e) = true then (match nvl tx (tB tx n e) (tE tx n e) with | none => 6 | some _ => 4) else if tx (tB tx n e) = 59 then 5 else 6) else 0
def tV (tx : Nat → Nat) (n e : Nat) : Nat := (nvl tx (tB tx n e) (tE tx n e)).getD 0
def TXc (tx : Nat → Nat) (n : Nat) (M : Mem) : Prop := M.1 1 1 = nI n ∧ n ≤ 300 ∧ ∀ i, i < n → tx i < 256 ∧ M.1 2 i = nI (tx i)
def TXr (tx : Nat → Nat) (n : Nat) (J : Mem) : Prop := J.1 0 3 = nI n ∧ n ≤ 300 ∧ ∀ i, i < n → tx i < 256 ∧ J.1 1 i = nI (tx i)
/-- the class's token is changed, nothing else -/
def kc (M M' : Mem) : Prop := (∀ q, q ≠ 1 → M'.1 q = M.1 q) ∧ M'.1 1 1 = M.1 1 1 ∧ M'.2 = M.2
theorem kc.refl (M : Mem) : kc M M := ⟨fun _ _ => rfl, rfl, rfl⟩
theorem kc.trans {M M1 M2 : Mem} (h : kc M M1) (g : kc M1 M2) : kc M M2 := ⟨fun q a => (g.1 q a).trans (h.1 q a), g.2.1.trans h.2.1, g.2.2.trans h.2.2⟩
theorem kc.put {M : Mem} (j : Nat) (x : Int32) (h : j ≠ 1) : kc M (ms M 1 j x) := ⟨fun q a => ms_row a, ms_ne (by omega), rfl⟩
theorem TXc.kc {tx : Nat → Nat} {n : Nat} {M M' : Mem} (h : TXc tx n M) (g : kc M M') : TXc tx n M' := ⟨g.2.1.trans h.1, h.2.1, fun i hi => ⟨(h.2.2 i hi).1, by rw [g.1 2 (by omega)]; exact (h.2.2 i hi).2⟩⟩
/-- the reference's token is changed, nothing else -/
def kr (J J' : Mem) : Prop := (∀ q, q ≠ 0 → J'.1 q = J.1 q) ∧ (∀ j, j < 4 ∨ 7 < j → J'.1 0 j = J.1 0 j) ∧ J'.2 = J.2
theorem kr.refl (J : Mem) : kr J J := ⟨fun _ _ => rfl, fun _ _ => rfl, rfl⟩
theorem kr.trans {J J1 J2 : Mem} (h : kr J J1) (g : kr J1 J2) : kr J J2 := ⟨fun q a => (g.1 q a).trans (h.1 q a), fun j a => (g.2.1 j a).trans (h.2.1 j a), g.2.2.trans h.2.2⟩
theorem kr.put {J : Mem} (j : Nat) (x : Int32) (h : 4 ≤ j ∧ j ≤ 7) : kr J (ms J 0 j x) := ⟨fun q a => ms_row a, fun i hi => ms_ne (by omega), rfl⟩
theorem TXr.kr {tx : Nat → Nat} {n : Nat} {J J' : Mem} (h : TXr tx n J) (g : kr J J') : TXr tx n J' := ⟨(g.2.1 3 (by omega)).trans h.1, h.2.1, fun i hi => ⟨(h.2.2 i hi).1, by rw [g.1 1 (by omega)]; exact (h.2.2 i hi).2⟩⟩
section TOK
variable {tx : Nat → Nat} {n : Nat}
theorem c_byte {M : Mem} (h : TXc tx n M) {i : Nat} (hi : i < n) : fX3_byteAt (nI i) M = some (nI (tx i)) := by
  have := h.2.1
  unfold fX3_byteAt
  rw [if_neg (nI_pos (by omega)), h.1, if_neg (nI_ge hi (by omega)), if_neg (show ¬ (300 : Int32) ≤ nI i from nI_ge (b := 300) (by omega) (by omega)), ld_at (by omega) (by omega), (h.2.2 i hi).2, bnd]
theorem r_byte {J : Mem} (h : TXr tx n J) {i : Nat} (hi : i < n) : fX5_byteAt (nI i) J = some (nI (tx i)) := by
  have := h.2.1
  unfold fX5_byteAt
  rw [h.1, if_neg (nI_ge hi (by omega)), ld_at (by omega) (by omega), (h.2.2 i hi).2, bnd]
theorem r_byte_end {J : Mem} (h : TXr tx n J) : fX5_byteAt (nI n) J = some (-1) := by
  unfold fX5_byteAt
  rw [h.1, if_pos (Int32.le_refl _)]
theorem c_let {c : Nat} (hc : c < 256) : fX3_isLetter (nI c) = some (if 97 ≤ c ∧ c ≤ 122 then (1 : Int32) else 0) := by
  unfold fX3_isLetter
  by_cases h1 : c < 97
  · rw [if_pos (show nI c < 97 from nI_lt (b := 97) h1 (by omega)), if_neg (by omega)]
  rw [if_neg (show ¬ nI c < 97 from nI_nlt (b := 97) (by omega) (by omega))]
  by_cases h2 : 122 < c
  · rw [if_pos (show (122 : Int32) < nI c from nI_lt (a := 122) h2 (by omega)), if_neg (by omega)]
  · rw [if_neg (show ¬ (122 : Int32) < nI c from nI_nlt (a := 122) (by omega) (by omega)), if_pos (by omega)]
theorem c_dig {c : Nat} (hc : c < 256) : fX3_isDigit (nI c) = some (if 48 ≤ c ∧ c ≤ 57 then (1 : Int32) else 0) := by
  unfold fX3_isDigit
  by_cases h1 : c < 48
  · rw [if_pos (show nI c < 48 from nI_lt (b := 48) h1 (by omega)), if_neg (by omega)]
  rw [if_neg (show ¬ nI c < 48 from nI_nlt (b := 48) (by omega) (by omega))]
  by_cases h2 : 57 < c
  · rw [if_pos (show (57 : Int32) < nI c from nI_lt (a := 57) h2 (by omega)), if_neg (by omega)]
  · rw [if_neg (show ¬ (57 : Int32) < nI c from nI_nlt (a := 57) (by omega) (by omega)), if_pos (by omega)]
theorem r_let {c : Nat} (hc : c < 256) : fX5_in (nI c) 97 122 = some (if 97 ≤ c ∧ c ≤ 122 then (1 : Int32) else 0) := c_let hc
theorem r_dig {c : Nat} (hc : c < 256) : fX5_in (nI c) 48 57 = some (if 48 ≤ c ∧ c ≤ 57 then (1 : Int32) else 0) := c_dig hc
theorem n_8 (K : Mem → Option Mem) : ∀ (d m e : Nat) (M : Mem), e + d = n → d < m → TXc tx n M → M.1 1 4 = nI e → ∃ M', fX3_next_8 K m M = K M' ∧ kc M M' ∧ M'.1 1 4 = nI (adv (bl tx) d e)
  | _, 0, _, _, _, h, _, _ => by omega
  | 0, m + 1, e, M, h1, _, hx, h4 => by
    unfold fX3_next_8
    rw [h4, hx.1, if_pos (by rw [← h1]; exact Int32.le_refl _)]
    exact ⟨M, rfl, kc.refl M, h4⟩
  | d + 1, m + 1, e, M, h1, h2, hx, h4 => by
    have hn := hx.2.1
    have he : e < n := by omega
    have hb := (hx.2.2 e he).1
    unfold fX3_next_8 adv
    rw [h4, hx.1, if_neg (nI_ge he (by omega)), c_byte hx he, bnd]
    unfold bl
    by_cases c : tx e = 32
    · rw [if_pos (by rw [c]; rfl), bnd, nI_1, if_pos (decide_eq_true c)]
      obtain ⟨M', a1, a2, a3⟩ := n_8 K d m (e + 1) (ms M 1 4 (nI (e + 1))) (by omega) (by omega) (hx.kc (kc.put _ _ (by omega))) (ms_eq _ _ _ _)
      exact ⟨M', a1, (kc.put _ _ (by omega)).trans a2, a3⟩
    · rw [if_neg (show ¬ nI (tx e) = 32 from fun z => c (nIe (b := 32) z (by omega) (by omega))), if_neg (by simpa using c)]
      exact ⟨M, rfl, kc.refl M, h4⟩
theorem n_86 (K : Mem → Option Mem) : ∀ (d m e : Nat) (M : Mem), e + d = n → d < m → TXc tx n M → M.1 1 5 = nI e → ∃ M', fX3_next_86 K m M = K M' ∧ kc M M' ∧ M'.1 1 5 = nI (adv (lt tx) d e) ∧ M'.1 1 4 = M.1 1 4
  | _, 0, _, _, _, h, _, _ => by omega
  | 0, m + 1, e, M, h1, _, hx, h4 => by
    unfold fX3_next_86
    rw [h4, hx.1, if_pos (by rw [← h1]; exact Int32.le_refl _)]
    exact ⟨M, rfl, kc.refl M, h4, rfl⟩
  | d + 1, m + 1, e, M, h1, h2, hx, h4 => by
    have hn := hx.2.1
    have he : e < n := by omega
    have hb := (hx.2.2 e he).1
    unfold fX3_next_86 adv
    rw [h4, hx.1, if_neg (nI_ge he (by omega)), c_byte hx he, bnd, c_let hb, bnd]
    unfold lt
    by_cases c : 97 ≤ tx e ∧ tx e ≤ 122
    · rw [if_pos c, if_neg n10, bnd, nI_1, if_pos (decide_eq_true c)]
      obtain ⟨M', a1, a2, a3, a4⟩ := n_86 K d m (e + 1) (ms M 1 5 (nI (e + 1))) (by omega) (by omega) (hx.kc (kc.put _ _ (by omega))) (ms_eq _ _ _ _)
      exact ⟨M', a1, (kc.put _ _ (by omega)).trans a2, a3, by rw [a4, ms_ne (by omega)]⟩
    · rw [if_neg c, if_pos rfl, if_neg (by simpa using c)]
      exact ⟨M, rfl, kc.refl M, h4, rfl⟩
theorem n_149 (K : Mem → Option Mem) : ∀ (d m e : Nat) (M : Mem), e + d = n → d < m → TXc tx n M → M.1 1 5 = nI e → ∃ M', fX3_next_149 K m M = K M' ∧ kc M M' ∧ M'.1 1 5 = nI (adv (dg tx) d e) ∧ M'.1 1 4 = M.1 1 4
  | _, 0, _, _, _, h, _, _ => by omega
  | 0, m + 1, e, M, h1, _, hx, h4 => by
    unfold fX3_next_149
    rw [h4, hx.1, if_pos (by rw [← h1]; exact Int32.le_refl _)]
    exact ⟨M, rfl, kc.refl M, h4, rfl⟩
  | d + 1, m + 1, e, M, h1, h2, hx, h4 => by
    have hn := hx.2.1
    have he : e < n := by omega
    have hb := (hx.2.2 e he).1
    unfold fX3_next_149 adv
    rw [h4, hx.1, if_neg (nI_ge he (by omega)), c_byte hx he, bnd, c_dig hb, bnd]
    unfold dg
    by_cases c : 48 ≤ tx e ∧ tx e ≤ 57
    · rw [if_pos c, if_neg n10, bnd, nI_1, if_pos (decide_eq_true c)]
      obtain ⟨M', a1, a2, a3, a4⟩ := n_149 K d m (e + 1) (ms M 1 5 (nI (e + 1))) (by omega) (by omega) (hx.kc (kc.put _ _ (by omega))) (ms_eq _ _ _ _)
      exact ⟨M', a1, (kc.put _ _ (by omega)).trans a2, a3, by rw [a4, ms_ne (by omega)]⟩
    · rw [if_neg c, if_pos rfl, if_neg (by simpa using c)]
      exact ⟨M, rfl, kc.refl M, h4, rfl⟩
theorem r_0 (K : Mem → Option Mem) : ∀ (d m e : Nat) (J : Mem), e + d = n → d < m → TXr tx n J → J.1 0 4 = nI e → ∃ J', fX5_advances_0 K m J = K J' ∧ kr J J' ∧ J'.1 0 4 = nI (adv (bl tx) d e)
  | _, 0, _, _, _, h, _, _ => by omega
  | 0, m + 1, e, J, h1, _, hx, h4 => by
    have h1' : e = n := h1
    subst h1'
    unfold fX5_advances_0
    rw [h4, r_byte_end hx, bnd, if_neg (by decide)]
    exact ⟨J, rfl, kr.refl J, h4⟩
  | d + 1, m + 1, e, J, h1, h2, hx, h4 => by
    have hn := hx.2.1
    have he : e < n := by omega
    have hb := (hx.2.2 e he).1
    unfold fX5_advances_0 adv
    rw [h4, r_byte hx he, bnd]
    unfold bl
    by_cases c : tx e = 32
    · rw [if_pos (by rw [c]; rfl), bnd, nI_1, if_pos (decide_eq_true c)]
      obtain ⟨J', a1, a2, a3⟩ := r_0 K d m (e + 1) (ms J 0 4 (nI (e + 1))) (by omega) (by omega) (hx.kr (kr.put _ _ (by omega))) (ms_eq _ _ _ _)
      exact ⟨J', a1, (kr.put _ _ (by omega)).trans a2, a3⟩
    · rw [if_neg (show ¬ nI (tx e) = 32 from fun z => c (nIe (b := 32) z (by omega) (by omega))), if_neg (by simpa using c)]
      exact ⟨J, rfl, kr.refl J, h4⟩
/-- the value of the digits from b on -/
def dv (tx : Nat → Nat) : Nat → Nat → Nat → Nat
  | 0, _, v => v
  | k + 1, e, v => dv tx k (e + 1) (if v ≤ 99 then 10 * v + tx e - 48 else v)
theorem r_177 (u1 : Int32) (K : Mem → Option Mem) : ∀ (d m e v : Nat) (J : Mem), e + d = n → d < m → v < 2000 → TXr tx n J → J.1 0 4 = nI e → J.1 0 7 = nI v → ∃ J', fX5_advances_177 u1 K m J = K J' ∧ kr J J' ∧ J'.1 0 4 = nI (adv (dg tx) d e) ∧ J'.1 0 7 = nI (dv tx (adv (dg tx) d e - e) e v) ∧ J'.1 0 6 = J.1 0 6 ∧ dv tx (adv (dg tx) d e - e) e v < 2000
  | _, 0, _, _, _, _, h, _, _, _, _ => by omega
  | 0, m + 1, e, v, J, h1, _, hv, hx, h4, h7 => by
    have h1' : e = n := h1
    subst h1'
    unfold fX5_advances_177
    rw [h4, r_byte_end hx, bnd, fX5_in_no (Or.inl (by decide)), bnd, if_pos rfl]
    have e0 : adv (dg tx) 0 e - e = 0 := by unfold adv; omega
    exact ⟨J, rfl, kr.refl J, h4, by rw [e0]; exact h7, rfl, by rw [e0]; exact hv⟩
  | d + 1, m + 1, e, v, J, h1, h2, hv, hx, h4, h7 => by
    have hn := hx.2.1
    have he : e < n := by omega
    have hb := (hx.2.2 e he).1
    unfold fX5_advances_177
    rw [h4, r_byte hx he, bnd, r_dig hb, bnd]
    by_cases c : 48 ≤ tx e ∧ tx e ≤ 57
    · rw [if_pos c, if_neg n10, h7, bnd]
      have ea : adv (dg tx) (d + 1) e = adv (dg tx) d (e + 1) := by
        show (if dg tx e = true then _ else _) = _
        rw [if_pos (by unfold dg; exact decide_eq_true c)]
      have eg := adv_ge (dg tx) d (e + 1)
      have ed : dv tx (adv (dg tx) (d + 1) e - e) e v = dv tx (adv (dg tx) d (e + 1) - (e + 1)) (e + 1) (if v ≤ 99 then 10 * v + tx e - 48 else v) := by
        rw [ea, show adv (dg tx) d (e + 1) - e = (adv (dg tx) d (e + 1) - (e + 1)) + 1 by omega]; rfl
      rw [ed, ea]
      by_cases z : v ≤ 99
      · have es : (10 : Int32) * nI v + nI (tx e) - 48 = nI (10 * v + tx e - 48) := by
          rw [show (10 : Int32) = nI 10 from rfl, show (48 : Int32) = nI 48 from rfl, pk_mul, nI_add, pk_sub (by omega)]
        rw [if_pos (show nI v ≤ 99 from nI_le (b := 99) z (by omega)), if_pos z, es, bnd, ms_ne (by omega), h4, bnd, nI_1]
        have k0 : kr J (ms (ms J 0 7 (nI (10 * v + tx e - 48))) 0 4 (nI (e + 1))) := (kr.put _ _ (by omega)).trans (kr.put _ _ (by omega))
        obtain ⟨J', a1, a2, a3, a4, a5, a6⟩ := r_177 u1 K d m (e + 1) (10 * v + tx e - 48) _ (by omega) (by omega) (by omega) (hx.kr k0) (ms_eq _ _ _ _) (by rw [ms_ne (by omega), ms_eq])
        exact ⟨J', a1, k0.trans a2, a3, a4, by rw [a5, ms_ne (by omega), ms_ne (by omega)], a6⟩
      · rw [if_neg (show ¬ nI v ≤ 99 from nI_ge (a := 99) (by omega) (by omega)), if_neg z, bnd, ms_ne (by omega), h4, bnd, nI_1]
        have k0 : kr J (ms (ms J 0 7 (nI v)) 0 4 (nI (e + 1))) := (kr.put _ _ (by omega)).trans (kr.put _ _ (by omega))
        obtain ⟨J', a1, a2, a3, a4, a5, a6⟩ := r_177 u1 K d m (e + 1) v _ (by omega) (by omega) hv (hx.kr k0) (ms_eq _ _ _ _) (by rw [ms_ne (by omega), ms_eq])
        exact ⟨J', a1, k0.trans a2, a3, a4, by rw [a5, ms_ne (by omega), ms_ne (by omega)], a6⟩
    · rw [if_neg c, if_pos rfl]
      have ea : adv (dg tx) (d + 1) e = e := by
        show (if dg tx e = true then _ else _) = _
        rw [if_neg (by unfold dg; simpa using c)]
      rw [ea, Nat.sub_self]
      exact ⟨J, rfl, kr.refl J, h4, h7, rfl, hv⟩
/-- the first five letters, as a number -/
def wv (tx : Nat → Nat) (b : Nat) : Nat → Nat → Nat → Nat
  | 0, _, v => v
  | k + 1, e, v => wv tx b k (e + 1) (if 5 ≤ e - b then v else 256 * v + tx e)
theorem r_68 (K : Int64 → Mem → Option Mem) {b : Nat} : ∀ (d m e v : Nat) (J : Mem), e + d = n → d < m → b ≤ e → TXr tx n J → J.1 0 4 = nI e → J.1 0 6 = nI b → ∃ J', fX5_advances_68 K m (lN v) J = K (lN (wv tx b (adv (lt tx) d e - e) e v)) J' ∧ kr J J' ∧ J'.1 0 4 = nI (adv (lt tx) d e) ∧ J'.1 0 6 = nI b
  | _, 0, _, _, _, _, h, _, _, _, _ => by omega
  | 0, m + 1, e, v, J, h1, _, hb, hx, h4, h6 => by
    have h1' : e = n := h1
    subst h1'
    unfold fX5_advances_68
    rw [h4, r_byte_end hx, bnd, fX5_in_no (Or.inl (by decide)), bnd, if_pos rfl]
    have e0 : adv (lt tx) 0 e - e = 0 := by unfold adv; omega
    rw [e0]
    exact ⟨J, rfl, kr.refl J, h4, h6⟩
  | d + 1, m + 1, e, v, J, h1, h2, hbe, hx, h4, h6 => by
    have hn := hx.2.1
    have he : e < n := by omega
    have hb := (hx.2.2 e he).1
    unfold fX5_advances_68
    rw [h4, r_byte hx he, bnd, r_let hb, bnd]
    by_cases c : 97 ≤ tx e ∧ tx e ≤ 122
    · rw [if_pos c, if_neg n10, h6, pk_sub hbe]
      have ea : adv (lt tx) (d + 1) e = adv (lt tx) d (e + 1) := by
        show (if lt tx e = true then _ else _) = _
        rw [if_pos (by unfold lt; exact decide_eq_true c)]
      have eg := adv_ge (lt tx) d (e + 1)
      have ed : wv tx b (adv (lt tx) (d + 1) e - e) e v = wv tx b (adv (lt tx) d (e + 1) - (e + 1)) (e + 1) (if 5 ≤ e - b then v else 256 * v + tx e) := by
        rw [ea, show adv (lt tx) d (e + 1) - e = (adv (lt tx) d (e + 1) - (e + 1)) + 1 by omega]; rfl
      rw [ed, ea]
      have k0 : kr J (ms J 0 4 (nI (e + 1))) := kr.put _ _ (by omega)
      by_cases z : 5 ≤ e - b
      · rw [if_pos (show (5 : Int32) ≤ nI (e - b) from nI_le (a := 5) z (by omega)), if_pos z, bnd, nI_1]
        obtain ⟨J', a1, a2, a3, a4⟩ := r_68 (b := b) K d m (e + 1) v _ (by omega) (by omega) (by omega) (hx.kr k0) (ms_eq _ _ _ _) (by rw [ms_ne (by omega)]; exact h6)
        exact ⟨J', a1, k0.trans a2, a3, a4⟩
      · rw [if_neg (show ¬ (5 : Int32) ≤ nI (e - b) from nI_ge (b := 5) (by omega) (by omega)), if_neg z, bnd, nI_l (by omega), show (256 : Int64) = lN 256 from rfl, lN_mul, lN_add, bnd, nI_1]
        obtain ⟨J', a1, a2, a3, a4⟩ := r_68 (b := b) K d m (e + 1) (256 * v + tx e) _ (by omega) (by omega) (by omega) (hx.kr k0) (ms_eq _ _ _ _) (by rw [ms_ne (by omega)]; exact h6)
        exact ⟨J', a1, k0.trans a2, a3, a4⟩
    · rw [if_neg c, if_pos rfl]
      have ea : adv (lt tx) (d + 1) e = e := by
        show (if lt tx e = true then _ else _) = _
        rw [if_neg (by unfold lt; simpa using c)]
      rw [ea, Nat.sub_self]
      exact ⟨J, rfl, kr.refl J, h4, h6⟩
theorem wv_stop (tx : Nat → Nat) (b : Nat) : ∀ (k e v : Nat), 5 ≤ e - b → wv tx b k e v = v
  | 0, _, _, _ => rfl
  | k + 1, e, v, h => by
    show wv tx b k (e + 1) (if 5 ≤ e - b then v else 256 * v + tx e) = v
    rw [if_pos h]
    exact wv_stop tx b k (e + 1) v (by omega)
theorem dv_stop (tx : Nat → Nat) : ∀ (k e v : Nat), 99 < v → dv tx k e v = v
  | 0, _, _, _ => rfl
  | k + 1, e, v, h => by
    show dv tx k (e + 1) (if v ≤ 99 then 10 * v + tx e - 48 else v) = v
    rw [if_neg (by omega)]
    exact dv_stop tx k (e + 1) v h
theorem wv_S (tx : Nat → Nat) (b k e v : Nat) : wv tx b (k + 1) e v = wv tx b k (e + 1) (if 5 ≤ e - b then v else 256 * v + tx e) := rfl
theorem dv_S (tx : Nat → Nat) (k e v : Nat) : dv tx (k + 1) e v = dv tx k (e + 1) (if v ≤ 99 then 10 * v + tx e - 48 else v) := rfl
theorem cmp0 (x y : Int64) : lg_cmp x y = 0 ↔ x = y := by
  unfold lg_cmp
  by_cases h : x > y
  · rw [if_pos h]
    refine ⟨fun q => absurd q (by decide), fun q => ?_⟩
    rw [q] at h
    exact absurd h (Int64.lt_irrefl)
  · rw [if_neg h]
    by_cases e : x = y
    · rw [if_pos e]; exact ⟨fun _ => e, fun _ => rfl⟩
    · rw [if_neg e]; exact ⟨fun q => absurd q (by decide), fun q => absurd q e⟩
theorem isw_val {b L x y z w : Nat} (hL : 1 ≤ L) (hb : ∀ j, j < L → 97 ≤ tx (b + j) ∧ tx (b + j) ≤ 122) (hx : 97 ≤ x ∧ x < 256) (hy : y < 256) (hz : z < 256) (hw : w < 256) : wv tx b L b 0 = 16777216 * x + 65536 * y + 256 * z + w ↔ isw tx b (b + L) x y z w = true := by
  unfold isw
  rw [decide_eq_true_eq]
  have h0 := hb 0 (by omega)
  rw [Nat.add_zero] at h0
  rcases (show L = 1 ∨ L = 2 ∨ L = 3 ∨ L = 4 ∨ 5 ≤ L by omega) with rfl | rfl | rfl | rfl | h5
  · rw [wv_S, if_neg (by omega)]
    show 256 * 0 + tx b = _ ↔ _
    constructor
    · intro h; omega
    · rintro ⟨h, -⟩; omega
  · have h1 := hb 1 (by omega)
    rw [wv_S, if_neg (by omega), wv_S, if_neg (by omega)]
    show 256 * (256 * 0 + tx b) + tx (b + 1) = _ ↔ _
    constructor
    · intro h; omega
    · rintro ⟨h, -⟩; omega
  · have h1 := hb 1 (by omega)
    have h2 := hb 2 (by omega)
    rw [wv_S, if_neg (by omega), wv_S, if_neg (by omega), wv_S, if_neg (by omega)]
    show 256 * (256 * (256 * 0 + tx b) + tx (b + 1)) + tx (b + 2) = _ ↔ _
    constructor
    · intro h; omega
    · rintro ⟨h, -⟩; omega
  · have h1 := hb 1 (by omega)
    have h2 := hb 2 (by omega)
    have h3 := hb 3 (by omega)
    rw [wv_S, if_neg (by omega), wv_S, if_neg (by omega), wv_S, if_neg (by omega), wv_S, if_neg (by omega)]
    show 256 * (256 * (256 * (256 * 0 + tx b) + tx (b + 1)) + tx (b + 2)) + tx (b + 3) = _ ↔ _
    constructor
    · intro h; exact ⟨rfl, by omega, by omega, by omega, by omega⟩
    · rintro ⟨-, e1, e2, e3, e4⟩; omega
  · have h1 := hb 1 (by omega)
    have h2 := hb 2 (by omega)
    have h3 := hb 3 (by omega)
    have h4 := hb 4 (by omega)
    obtain ⟨k, rfl⟩ : ∃ k, L = k + 5 := ⟨L - 5, by omega⟩
    rw [wv_S, if_neg (by omega), wv_S, if_neg (by omega), wv_S, if_neg (by omega), wv_S, if_neg (by omega), wv_S, if_neg (by omega), wv_stop _ _ _ _ _ (by omega)]
    show 256 * (256 * (256 * (256 * (256 * 0 + tx b) + tx (b + 1)) + tx (b + 2)) + tx (b + 3)) + tx (b + 4) = _ ↔ _
    constructor
    · intro h; omega
    · rintro ⟨h, -⟩; omega
theorem wv_lt {b L : Nat} (hb : ∀ j, j < L → 97 ≤ tx (b + j) ∧ tx (b + j) ≤ 122) : wv tx b L b 0 < 2 ^ 50 := by
  rcases (show L = 0 ∨ L = 1 ∨ L = 2 ∨ L = 3 ∨ L = 4 ∨ 5 ≤ L by omega) with rfl | rfl | rfl | rfl | rfl | h5
  · show 0 < _; decide
  · have h0 := hb 0 (by omega)
    rw [Nat.add_zero] at h0
    rw [wv_S, if_neg (by omega)]
    show 256 * 0 + tx b < _; omega
  · have h0 := hb 0 (by omega)
    rw [Nat.add_zero] at h0
    have h1 := hb 1 (by omega)
    rw [wv_S, if_neg (by omega), wv_S, if_neg (by omega)]
    show 256 * (256 * 0 + tx b) + tx (b + 1) < _; omega
  · have h0 := hb 0 (by omega)
    rw [Nat.add_zero] at h0
    have h1 := hb 1 (by omega)
    have h2 := hb 2 (by omega)
    rw [wv_S, if_neg (by omega), wv_S, if_neg (by omega), wv_S, if_neg (by omega)]
    show 256 * (256 * (256 * 0 + tx b) + tx (b + 1)) + tx (b + 2) < _; omega
  · have h0 := hb 0 (by omega)
    rw [Nat.add_zero] at h0
    have h1 := hb 1 (by omega)
    have h2 := hb 2 (by omega)
    have h3 := hb 3 (by omega)
    rw [wv_S, if_neg (by omega), wv_S, if_neg (by omega), wv_S, if_neg (by omega), wv_S, if_neg (by omega)]
    show 256 * (256 * (256 * (256 * 0 + tx b) + tx (b + 1)) + tx (b + 2)) + tx (b + 3) < _; omega
  · have h0 := hb 0 (by omega)
    rw [Nat.add_zero] at h0
    have h1 := hb 1 (by omega)
    have h2 := hb 2 (by omega)
    have h3 := hb 3 (by omega)
    have h4 := hb 4 (by omega)
    obtain ⟨k, rfl⟩ : ∃ k, L = k + 5 := ⟨L - 5, by omega⟩
    rw [wv_S, if_neg (by omega), wv_S, if_neg (by omega), wv_S, if_neg (by omega), wv_S, if_neg (by omega), wv_S, if_neg (by omega), wv_stop _ _ _ _ _ (by omega)]
    show 256 * (256 * (256 * (256 * (256 * 0 + tx b) + tx (b + 1)) + tx (b + 2)) + tx (b + 3)) + tx (b + 4) < _; omega
theorem named_t : fX5_named 116 111 119 110 = some (lN (16777216 * 116 + 65536 * 111 + 256 * 119 + 110)) := by decide +kernel
theorem named_r : fX5_named 114 111 97 100 = some (lN (16777216 * 114 + 65536 * 111 + 256 * 97 + 100)) := by decide +kernel
theorem named_s : fX5_named 115 116 111 112 = some (lN (16777216 * 115 + 65536 * 116 + 256 * 111 + 112)) := by decide +kernel
theorem r_wordOf {b L : Nat} (hL : 1 ≤ L) (hb : ∀ j, j < L → 97 ≤ tx (b + j) ∧ tx (b + j) ≤ 122) : fX5_wordOf (lN (wv tx b L b 0)) = some (if wkd tx b (b + L) = 6 then (-9 : Int32) else nI (wkd tx b (b + L) - 1)) := by
  have hv := wv_lt hb
  have eq : ∀ c : Nat, c < 2 ^ 50 → (lg_cmp (lN (wv tx b L b 0)) (lN c) = 0 ↔ wv tx b L b 0 = c) := fun c hc => (cmp0 _ _).trans (pk_lEQ (by omega) (by omega))
  have e1 := (eq _ (by omega)).trans (isw_val (tx := tx) hL hb (x := 116) (y := 111) (z := 119) (w := 110) (by omega) (by omega) (by omega) (by omega))
  have e2 := (eq _ (by omega)).trans (isw_val (tx := tx) hL hb (x := 114) (y := 111) (z := 97) (w := 100) (by omega) (by omega) (by omega) (by omega))
  have e3 := (eq _ (by omega)).trans (isw_val (tx := tx) hL hb (x := 115) (y := 116) (z := 111) (w := 112) (by omega) (by omega) (by omega) (by omega))
  unfold fX5_wordOf wkd
  rw [named_t, named_r, named_s, bnd, bnd, bnd]
  by_cases c1 : isw tx b (b + L) 116 111 119 110 = true
  · rw [if_pos (e1.mpr c1), if_pos c1]; rfl
  rw [if_neg (fun z => c1 (e1.mp z)), if_neg c1]
  by_cases c2 : isw tx b (b + L) 114 111 97 100 = true
  · rw [if_pos (e2.mpr c2), if_pos c2]; rfl
  rw [if_neg (fun z => c2 (e2.mp z)), if_neg c2]
  by_cases c3 : isw tx b (b + L) 115 116 111 112 = true
  · rw [if_pos (e3.mpr c3), if_pos c3]; rfl
  · rw [if_neg (fun z => c3 (e3.mp z)), if_neg c3]; rfl
/-- the words' letters -/
def wch (i k : Nat) : Nat := (([[116, 111, 119, 110], [114, 111, 97, 100], [115, 116, 111, 112]] : List (List Nat)).getD i []).getD k 0
theorem sCh_eq : ∀ i : Fin 3, ∀ k : Fin 4, sCh i.val k.val = nI (wch i.val k.val) ∧ wch i.val k.val < 256 := by decide +kernel
theorem isw_lp {M : Mem} {b i : Nat} (hi : i < 3) (hx : TXc tx n M) (h4 : M.1 1 4 = nI b) (hn : b + 4 ≤ n) (K : Option Int32) : ∀ (d k m : Nat), k + d = 4 → d < m → fX3_isWord_20 i M K m (nI k) = if allF (fun j => decide (tx (b + j) = wch i j)) k d = true then K else some 0
  | _, _, 0, _, h => by omega
  | 0, k, m + 1, h1, _ => by
    have : k = 4 := h1
    subst this
    unfold fX3_isWord_20 allF
    rw [bnd, if_pos (show sLen i ≤ nI 4 from (by decide : (4 : Int32) ≤ nI 4)), if_pos rfl]
  | d + 1, k, m + 1, h1, h2 => by
    have hn3 := hx.2.1
    have hk : k < 4 := by omega
    have ih := isw_lp hi hx h4 hn K d (k + 1) m (by omega) (by omega)
    have hs := sCh_eq ⟨i, hi⟩ ⟨k, hk⟩
    simp only at hs
    have hb := (hx.2.2 (b + k) (by omega)).1
    unfold fX3_isWord_20
    rw [bnd, if_neg (show ¬ sLen i ≤ nI k from nI_ge (b := 4) hk (by omega)), h4, nI_add, c_byte hx (by omega), bnd, ld_at (show k < sN i from hk) (show sN i < 2 ^ 31 from (by decide : 4 < 2 ^ 31)), hs.1, bnd, nI_1, ih]
    show _ = if (decide (tx (b + k) = wch i k) && allF (fun j => decide (tx (b + j) = wch i j)) (k + 1) d) = true then K else some 0
    by_cases c : tx (b + k) = wch i k
    · rw [if_pos (by rw [c])]
      simp only [c, decide_true, Bool.true_and]
    · rw [if_neg (fun z => c (nIe z (by omega) (by omega)))]
      simp only [c, decide_false, Bool.false_and]
      rfl
theorem c_isWord {M : Mem} {b e i : Nat} (hi : i < 3) (hx : TXc tx n M) (h4 : M.1 1 4 = nI b) (h5 : M.1 1 5 = nI e) (hbe : b ≤ e) (hn : e ≤ n) : fX3_isWord i M = some (if isw tx b e (wch i 0) (wch i 1) (wch i 2) (wch i 3) = true then 1 else 0) := by
  have hn3 := hx.2.1
  unfold fX3_isWord isw
  rw [bnd, h5, h4, pk_sub hbe]
  by_cases c : e - b = 4
  · rw [if_pos (show nI (e - b) = sLen i by rw [c]; rfl)]
    have := isw_lp (tx := tx) hi hx h4 (by omega) (some 1) 4 0 mF (by omega) (by unfold mF; omega)
    rw [nI_0] at this
    rw [this]
    have e4 : allF (fun j => decide (tx (b + j) = wch i j)) 0 4 = decide (e = b + 4 ∧ tx b = wch i 0 ∧ tx (b + 1) = wch i 1 ∧ tx (b + 2) = wch i 2 ∧ tx (b + 3) = wch i 3) := by
      have he : e = b + 4 := by omega
      show (decide (tx (b + 0) = wch i 0) && (decide (tx (b + 1) = wch i 1) && (decide (tx (b + 2) = wch i 2) && (decide (tx (b + 3) = wch i 3) && true)))) = _
      rw [Nat.add_zero]
      simp only [he, true_and, Bool.and_true, Bool.decide_and]
    rw [e4]
    by_cases z : (e = b + 4 ∧ tx b = wch i 0 ∧ tx (b + 1) = wch i 1 ∧ tx (b + 2) = wch i 2 ∧ tx (b + 3) = wch i 3)
    · rw [decide_eq_true z, if_pos rfl, if_pos rfl]
    · rw [decide_eq_false z]; rfl
  · rw [if_neg (show ¬ nI (e - b) = sLen i from fun z => c (nIe (b := 4) z (by omega) (by omega))), if_neg (by rw [decide_eq_true_eq]; omega)]
theorem c_kind {M : Mem} {b e : Nat} (hx : TXc tx n M) (h4 : M.1 1 4 = nI b) (h5 : M.1 1 5 = nI e) (hbe : b ≤ e) (hn : e ≤ n) : fX3_kindOfWord M = some (nI (wkd tx b e)) := by
  have w0 : fX3_isWord 0 M = some (if isw tx b e 116 111 119 110 = true then 1 else 0) := c_isWord (i := 0) (by omega) hx h4 h5 hbe hn
  have w1 : fX3_isWord 1 M = some (if isw tx b e 114 111 97 100 = true then 1 else 0) := c_isWord (i := 1) (by omega) hx h4 h5 hbe hn
  have w2 : fX3_isWord 2 M = some (if isw tx b e 115 116 111 112 = true then 1 else 0) := c_isWord (i := 2) (by omega) hx h4 h5 hbe hn
  unfold fX3_kindOfWord wkd
  rw [w0, w1, w2, bnd, bnd, bnd]
  by_cases c1 : isw tx b e 116 111 119 110 = true
  · rw [if_pos c1, if_neg n10, if_pos c1]; rfl
  rw [if_neg c1, if_pos rfl, if_neg c1]
  by_cases c2 : isw tx b e 114 111 97 100 = true
  · rw [if_pos c2, if_neg n10, if_pos c2]; rfl
  rw [if_neg c2, if_pos rfl, if_neg c2]
  by_cases c3 : isw tx b e 115 116 111 112 = true
  · rw [if_pos c3, if_neg n10, if_pos c3]; rfl
  · rw [if_neg c3, if_pos rfl, if_neg c3]; rfl
theorem c_num {M : Mem} {b e : Nat} (hx : TXc tx n M) (h4 : M.1 1 4 = nI b) (h5 : M.1 1 5 = nI e) (hbe : b < e) (hn : e ≤ n) (hd : ∀ j, b ≤ j → j < e → 48 ≤ tx j ∧ tx j ≤ 57) : fX3_numberOfDigits M = some (encO (nvl tx b e)) := by
  have hn3 := hx.2.1
  have d0 := hd b (Nat.le_refl _) hbe
  unfold fX3_numberOfDigits nvl
  rw [h5, h4, pk_sub (by omega)]
  by_cases c1 : e = b + 1
  · rw [if_pos (show nI (e - b) = 1 by rw [show e - b = 1 by omega]; rfl), if_pos c1, c_byte hx (by omega), bnd, show (48 : Int32) = nI 48 from rfl, pk_sub (by omega)]; rfl
  rw [if_neg (show ¬ nI (e - b) = 1 from fun z => by have := nIe (b := 1) z (by omega) (by omega); omega), if_neg c1]
  by_cases c2 : e = b + 2
  · have d1 := hd (b + 1) (by omega) (by omega)
    rw [if_pos (show nI (e - b) = 2 by rw [show e - b = 2 by omega]; rfl), if_pos c2, c_byte hx (by omega), bnd]
    by_cases z : tx b = 48
    · rw [if_pos (by rw [z]; rfl), if_pos z]; rfl
    · rw [if_neg (show ¬ nI (tx b) = 48 from fun q => z (nIe (b := 48) q (by omega) (by omega))), if_neg z, bnd, nI_1, c_byte hx (by omega), bnd, show (48 : Int32) = nI 48 from rfl, show (10 : Int32) = nI 10 from rfl, pk_sub (by omega), pk_mul, nI_add, pk_sub (by omega)]
      show some (nI _) = some (nI _)
      congr 2; omega
  · rw [if_neg (show ¬ nI (e - b) = 2 from fun z => by have := nIe (b := 2) z (by omega) (by omega); omega), if_neg c2]; rfl
/-- the digits' value: what the reference reckons -/
theorem dv_nvl {b e : Nat} (hbe : b < e) (hd : ∀ j, b ≤ j → j < e → 48 ≤ tx j ∧ tx j ≤ 57) : match nvl tx b e with
    | some v => dv tx (e - b) b 0 = v ∧ v ≤ 99 ∧ ¬ (tx b = 48 ∧ 1 < e - b)
    | none => 99 < dv tx (e - b) b 0 ∨ (tx b = 48 ∧ 1 < e - b) := by
  have d0 := hd b (Nat.le_refl _) hbe
  unfold nvl
  by_cases c1 : e = b + 1
  · rw [if_pos c1, show e - b = 0 + 1 by omega, dv_S, if_pos (by omega)]
    show 10 * 0 + tx b - 48 = tx b - 48 ∧ _ ∧ _
    exact ⟨by omega, by omega, by omega⟩
  rw [if_neg c1]
  by_cases c2 : e = b + 2
  · have d1 := hd (b + 1) (by omega) (by omega)
    rw [if_pos c2, show e - b = 1 + 1 by omega]
    by_cases z : tx b = 48
    · rw [if_pos z]
      exact Or.inr ⟨z, by omega⟩
    · rw [if_neg z, dv_S, if_pos (by omega), dv_S, if_pos (by omega)]
      show 10 * (10 * 0 + tx b - 48) + tx (b + 1) - 48 = 10 * (tx b - 48) + (tx (b + 1) - 48) ∧ _ ∧ _
      exact ⟨by omega, by omega, by omega⟩
  · rw [if_neg c2]
    show 99 < dv tx (e - b) b 0 ∨ (tx b = 48 ∧ 1 < e - b)
    by_cases z : tx b = 48
    · exact Or.inr ⟨z, by omega⟩
    · have d1 := hd (b + 1) (by omega) (by omega)
      have d2 := hd (b + 2) (by omega) (by omega)
      obtain ⟨k, hk⟩ : ∃ k, e - b = k + 3 := ⟨e - b - 3, by omega⟩
      refine Or.inl ?_
      rw [hk, dv_S, if_pos (by omega), dv_S, if_pos (by omega), dv_S, if_pos (by omega), dv_stop _ _ _ _ (by
        show 99 < 10 * (10 * (10 * 0 + tx b - 48) + tx (b + 1) - 48) + tx (b + 1 + 1) - 48
        have : tx (b + 1 + 1) = tx (b + 2) := rfl
        omega)]
      show 99 < 10 * (10 * (10 * 0 + tx b - 48) + tx (b + 1) - 48) + tx (b + 1 + 1) - 48
      have : tx (b + 1 + 1) = tx (b + 2) := rfl
      omega
theorem tB_le {e : Nat} (he : e ≤ n) : e ≤ tB tx n e ∧ tB tx n e ≤ n := by
  have h1 := adv_ge (bl tx) (n - e) e
  have h2 := adv_le (bl tx) (n - e) e
  unfold tB; omega
theorem tE_le {e : Nat} (he : e ≤ n) : tB tx n e ≤ tE tx n e ∧ tE tx n e ≤ n := by
  have h0 := tB_le (tx := tx) he
  unfold tE
  by_cases c : tB tx n e < n
  · rw [if_pos c]
    by_cases l : lt tx (tB tx n e) = true
    · rw [if_pos l]
      have h1 := adv_ge (lt tx) (n - tB tx n e) (tB tx n e)
      have h2 := adv_le (lt tx) (n - tB tx n e) (tB tx n e)
      omega
    · rw [if_neg l]
      by_cases d : dg tx (tB tx n e) = true
      · rw [if_pos d]
        have h1 := adv_ge (dg tx) (n - tB tx n e) (tB tx n e)
        have h2 := adv_le (dg tx) (n - tB tx n e) (tB tx n e)
        omega
      · rw [if_neg d]; omega
  · rw [if_neg c]; omega
theorem adv_1 {g : Nat → Bool} {d e : Nat} (hd : 0 < d) (h : g e = true) : e < adv g d e := by
  obtain ⟨d', rfl⟩ : ∃ d', d = d' + 1 := ⟨d - 1, by omega⟩
  show e < if g e = true then adv g d' (e + 1) else e
  rw [if_pos h]
  have := adv_ge g d' (e + 1)
  omega
theorem c_next {M : Mem} {e : Nat} (hx : TXc tx n M) (h5 : M.1 1 5 = nI e) (he : e ≤ n) : ∃ M', fX3_next M = some M' ∧ kc M M' ∧ M'.1 1 2 = nI (tK tx n e) ∧ M'.1 1 4 = nI (tB tx n e) ∧ M'.1 1 5 = nI (tE tx n e) ∧ (tK tx n e = 4 → M'.1 1 3 = nI (tV tx n e)) := by
  have hn := hx.2.1
  obtain ⟨hb1, hb2⟩ := tB_le (tx := tx) he
  unfold fX3_next
  rw [bnd, h5]
  have k0 : kc M (ms M 1 4 (nI e)) := kc.put _ _ (by omega)
  obtain ⟨M2, a1, a2, a3⟩ := n_8 (tx := tx) (n := n) (fun M2 => (Option.bind (some (ms M2 1 5 (M2.1 1 4))) fun M3 => (if (M3.1 1 4) < (M3.1 1 1) then (Option.bind (fX3_byteAt (M3.1 1 4) M3) fun x5 => (Option.bind (fX3_isLetter x5) fun x6 => (if x6 = 0 then (Option.bind (fX3_byteAt (M3.1 1 4) M3) fun x8 => (Option.bind (fX3_isDigit x8) fun x9 => (if x9 = 0 then (Option.bind (some (ms M3 1 5 ((M3.1 1 5) + (1 : Int32)))) fun M11 => (Option.bind (fX3_byteAt (M11.1 1 4) M11) fun x12 => (if x12 = (59 : Int32) then (Option.bind (some (ms M11 1 2 (5 : Int32))) fun M15 => some M15) else (Option.bind (some (ms M11 1 2 (6 : Int32))) fun M14 => some M14)))) else (fX3_next_149 (fun M16 => (Option.bind (fX3_numberOfDigits M16) fun x17 => (Option.bind (some (ms M16 1 3 x17)) fun M18 => (if (M18.1 1 3) = (-9 : Int32) then (Option.bind (some (ms M18 1 2 (6 : Int32))) fun M21 => some M21) else (Option.bind (some (ms M18 1 2 (4 : Int32))) fun M20 => some M20))))) mF M3)))) else (fX3_next_86 (fun M22 => (Option.bind (fX3_kindOfWord M22) fun x23 => (Option.bind (some (ms M22 1 2 x23)) fun M24 => some M24))) mF M3)))) else (Option.bind (some (ms M3 1 2 (0 : Int32))) fun M25 => some M25)))) (n - e) mF e (ms M 1 4 (nI e)) (by omega) (by unfold mF; omega) (hx.kc k0) (ms_eq _ _ _ _)
  have a3' : M2.1 1 4 = nI (tB tx n e) := a3
  rw [a1, bnd, a3']
  have k2 := k0.trans a2
  have k3 : kc M (ms M2 1 5 (nI (tB tx n e))) := k2.trans (kc.put _ _ (by omega))
  have h34 : (ms M2 1 5 (nI (tB tx n e))).1 1 4 = nI (tB tx n e) := by rw [ms_ne (by omega)]; exact a3'
  have h35 : (ms M2 1 5 (nI (tB tx n e))).1 1 5 = nI (tB tx n e) := ms_eq _ _ _ _
  generalize ms M2 1 5 (nI (tB tx n e)) = M3 at k3 h34 h35 ⊢
  have hx3 := hx.kc k3
  rw [h34, hx3.1]
  unfold tK tV tE
  by_cases c : tB tx n e < n
  · have hbb := (hx.2.2 _ c).1
    rw [if_pos c, if_pos c, if_pos (nI_lt c (by omega)), c_byte hx3 c, bnd, bnd, c_let hbb, c_dig hbb, bnd, bnd]
    by_cases l : lt tx (tB tx n e) = true
    · have l' : 97 ≤ tx (tB tx n e) ∧ tx (tB tx n e) ≤ 122 := of_decide_eq_true l
      rw [if_pos l', if_neg n10, if_pos l, if_pos l]
      obtain ⟨M4, b1, b2, b3, b4⟩ := n_86 (tx := tx) (n := n) (fun M22 => (Option.bind (fX3_kindOfWord M22) fun x23 => (Option.bind (some (ms M22 1 2 x23)) fun M24 => some M24))) (n - tB tx n e) mF (tB tx n e) M3 (by omega) (by unfold mF; omega) hx3 h35
      have hx4 := hx3.kc b2
      have q1 := adv_ge (lt tx) (n - tB tx n e) (tB tx n e)
      have q2 := adv_le (lt tx) (n - tB tx n e) (tB tx n e)
      rw [b1, c_kind hx4 (b4.trans h34) b3 q1 (by omega), bnd, bnd]
      refine ⟨_, rfl, (k3.trans b2).trans (kc.put _ _ (by omega)), ms_eq _ _ _ _, ?_, ?_, fun h => ?_⟩
      · rw [ms_ne (by omega), b4]; exact h34
      · rw [ms_ne (by omega)]; exact b3
      · exfalso
        revert h
        unfold wkd
        by_cases w1 : isw tx (tB tx n e) (adv (lt tx) (n - tB tx n e) (tB tx n e)) 116 111 119 110 = true
        · rw [if_pos w1]; omega
        rw [if_neg w1]
        by_cases w2 : isw tx (tB tx n e) (adv (lt tx) (n - tB tx n e) (tB tx n e)) 114 111 97 100 = true
        · rw [if_pos w2]; omega
        rw [if_neg w2]
        by_cases w3 : isw tx (tB tx n e) (adv (lt tx) (n - tB tx n e) (tB tx n e)) 115 116 111 112 = true
        · rw [if_pos w3]; omega
        · rw [if_neg w3]; omega
    · have l' : ¬ (97 ≤ tx (tB tx n e) ∧ tx (tB tx n e) ≤ 122) := fun z => l (decide_eq_true z)
      rw [if_neg l', if_pos rfl, if_neg l, if_neg l]
      by_cases d : dg tx (tB tx n e) = true
      · have d' : 48 ≤ tx (tB tx n e) ∧ tx (tB tx n e) ≤ 57 := of_decide_eq_true d
        rw [if_pos d', if_neg n10, if_pos d, if_pos d]
        obtain ⟨M4, b1, b2, b3, b4⟩ := n_149 (tx := tx) (n := n) (fun M16 => (Option.bind (fX3_numberOfDigits M16) fun x17 => (Option.bind (some (ms M16 1 3 x17)) fun M18 => (if (M18.1 1 3) = (-9 : Int32) then (Option.bind (some (ms M18 1 2 (6 : Int32))) fun M21 => some M21) else (Option.bind (some (ms M18 1 2 (4 : Int32))) fun M20 => some M20))))) (n - tB tx n e) mF (tB tx n e) M3 (by omega) (by unfold mF; omega) hx3 h35
        have hx4 := hx3.kc b2
        have q1 := adv_1 (g := dg tx) (d := n - tB tx n e) (by omega) d
        have q2 := adv_le (dg tx) (n - tB tx n e) (tB tx n e)
        have qa : ∀ j, tB tx n e ≤ j → j < adv (dg tx) (n - tB tx n e) (tB tx n e) → 48 ≤ tx j ∧ tx j ≤ 57 := fun j h1 h2 => of_decide_eq_true (adv_all (dg tx) _ _ j h1 h2)
        have qv := dv_nvl q1 qa
        rw [b1, c_num hx4 (b4.trans h34) b3 q1 (by omega) qa, bnd, bnd, ms_eq]
        have kk : ∀ x y : Int32, kc M (ms (ms M4 1 3 x) 1 2 y) := fun x y => ((k3.trans b2).trans (kc.put _ _ (by omega))).trans (kc.put _ _ (by omega))
        cases ev : nvl tx (tB tx n e) (adv (dg tx) (n - tB tx n e) (tB tx n e)) with
        | none =>
          rw [show encO none = -9 from rfl, if_pos rfl, bnd]
          refine ⟨_, rfl, kk _ _, ms_eq _ _ _ _, ?_, ?_, fun h => absurd h (by decide)⟩
          · rw [ms_ne (by omega), ms_ne (by omega), b4]; exact h34
          · rw [ms_ne (by omega), ms_ne (by omega)]; exact b3
        | some v =>
          rw [ev] at qv
          have hv : v ≤ 99 := qv.2.1
          rw [show encO (some v) = nI v from rfl, if_neg (nI_m9 (by omega)), bnd]
          refine ⟨_, rfl, kk _ _, ms_eq _ _ _ _, ?_, ?_, fun h => ?_⟩
          · rw [ms_ne (by omega), ms_ne (by omega), b4]; exact h34
          · rw [ms_ne (by omega), ms_ne (by omega)]; exact b3
          · rw [ms_ne (by omega), ms_eq]; rfl
      · have d' : ¬ (48 ≤ tx (tB tx n e) ∧ tx (tB tx n e) ≤ 57) := fun z => d (decide_eq_true z)
        rw [if_neg d', if_pos rfl, if_neg d, if_neg d, h35, bnd, nI_1, ms_ne (by omega), h34]
        have k4 : kc M3 (ms M3 1 5 (nI (tB tx n e + 1))) := kc.put _ _ (by omega)
        rw [c_byte (hx3.kc k4) c, bnd, bnd, bnd]
        have fin : ∀ y : Int32, kc M (ms (ms M3 1 5 (nI (tB tx n e + 1))) 1 2 y) ∧ (ms (ms M3 1 5 (nI (tB tx n e + 1))) 1 2 y).1 1 4 = nI (tB tx n e) ∧ (ms (ms M3 1 5 (nI (tB tx n e + 1))) 1 2 y).1 1 5 = nI (tB tx n e + 1) := fun y => ⟨(k3.trans k4).trans (kc.put _ _ (by omega)), by rw [ms_ne (by omega), ms_ne (by omega)]; exact h34, by rw [ms_ne (by omega), ms_eq]⟩
        by_cases s : tx (tB tx n e) = 59
        · rw [if_pos (show nI (tx (tB tx n e)) = 59 by rw [s]; rfl), if_pos s]
          obtain ⟨f1, f2, f3⟩ := fin 5
          exact ⟨_, rfl, f1, ms_eq _ _ _ _, f2, f3, fun h => absurd h (by decide)⟩
        · rw [if_neg (show ¬ nI (tx (tB tx n e)) = 59 from fun q => s (nIe (b := 59) q (by omega) (by omega))), if_neg s]
          obtain ⟨f1, f2, f3⟩ := fin 6
          exact ⟨_, rfl, f1, ms_eq _ _ _ _, f2, f3, fun h => absurd h (by decide)⟩
  · rw [if_neg c, if_neg c, if_neg (nI_nlt (by omega) (by omega)), bnd]
    refine ⟨_, rfl, k3.trans (kc.put _ _ (by omega)), ms_eq _ _ _ _, ?_, ?_, fun h => absurd h (by decide)⟩
    · rw [ms_ne (by omega)]; exact h34
    · rw [ms_ne (by omega)]; exact h35
def rk (k : Nat) : Nat := if k = 0 then 0 else if k ≤ 3 then 1 else if k = 4 then 2 else if k = 5 then 3 else 4
theorem wkd_in (tx : Nat → Nat) (b e : Nat) : wkd tx b e = 1 ∨ wkd tx b e = 2 ∨ wkd tx b e = 3 ∨ wkd tx b e = 6 := by
  unfold wkd
  by_cases w1 : isw tx b e 116 111 119 110 = true
  · rw [if_pos w1]; exact Or.inl rfl
  rw [if_neg w1]
  by_cases w2 : isw tx b e 114 111 97 100 = true
  · rw [if_pos w2]; exact Or.inr (Or.inl rfl)
  rw [if_neg w2]
  by_cases w3 : isw tx b e 115 116 111 112 = true
  · rw [if_pos w3]; exact Or.inr (Or.inr (Or.inl rfl))
  · rw [if_neg w3]; exact Or.inr (Or.inr (Or.inr rfl))
theorem r_adv {J : Mem} {e : Nat} (hx : TXr tx n J) (h4 : J.1 0 4 = nI e) (he : e ≤ n) : ∃ J', fX5_advances J = some J' ∧ kr J J' ∧ J'.1 0 5 = nI (rk (tK tx n e)) ∧ J'.1 0 6 = nI (tB tx n e) ∧ J'.1 0 4 = nI (tE tx n e) ∧ (tK tx n e = 4 → J'.1 0 7 = nI (tV tx n e)) ∧ (1 ≤ tK tx n e ∧ tK tx n e ≤ 3 → J'.1 0 7 = nI (tK tx n e - 1)) := by
  have hn := hx.2.1
  obtain ⟨hb1, hb2⟩ := tB_le (tx := tx) he
  unfold fX5_advances
  obtain ⟨J1, a1, a2, a3⟩ := r_0 (tx := tx) (n := n) (fun M1 => (Option.bind (some (ms M1 0 6 (M1.1 0 4))) fun M2 => (Option.bind (fX5_byteAt (M2.1 0 4) M2) fun x3 => (if 0 ≤ x3 then (Option.bind (fX5_in x3 (97 : Int32) (122 : Int32)) fun x5 => (if x5 = 0 then (Option.bind (fX5_in x3 (48 : Int32) (57 : Int32)) fun x7 => (if x7 = 0 then (Option.bind (some (ms M2 0 4 ((M2.1 0 4) + (1 : Int32)))) fun M9 => (if x3 = (59 : Int32) then (Option.bind (some (ms M9 0 5 (3 : Int32))) fun M12 => some M12) else (Option.bind (some (ms M9 0 5 (4 : Int32))) fun M11 => some M11))) else (Option.bind (some (ms M2 0 7 (0 : Int32))) fun M13 => (fX5_advances_177 x3 (fun M14 => (if (99 : Int32) < (M14.1 0 7) then (Option.bind (some (ms M14 0 5 (4 : Int32))) fun M16 => some M16) else (if x3 = (48 : Int32) then (if ((M14.1 0 4) - (M14.1 0 6)) ≤ (1 : Int32) then (Option.bind (some (ms M14 0 5 (2 : Int32))) fun M20 => some M20) else (Option.bind (some (ms M14 0 5 (4 : Int32))) fun M21 => some M21)) else (Option.bind (some (ms M14 0 5 (2 : Int32))) fun M18 => some M18)))) mF M13)))) else (fX5_advances_68 (fun y22 M23 => (Option.bind (fX5_wordOf y22) fun x24 => (Option.bind (some (ms M23 0 7 x24)) fun M25 => (if (M25.1 0 7) = (-9 : Int32) then (Option.bind (some (ms M25 0 5 (4 : Int32))) fun M28 => some M28) else (Option.bind (some (ms M25 0 5 (1 : Int32))) fun M27 => some M27))))) mF (0 : Int64) M2))) else (Option.bind (some (ms M2 0 5 (0 : Int32))) fun M29 => some M29))))) (n - e) mF e J (by omega) (by unfold mF; omega) hx h4
  have a3' : J1.1 0 4 = nI (tB tx n e) := a3
  rw [a1, bnd, a3']
  have k2 : kr J (ms J1 0 6 (nI (tB tx n e))) := a2.trans (kr.put _ _ (by omega))
  have h26 : (ms J1 0 6 (nI (tB tx n e))).1 0 6 = nI (tB tx n e) := ms_eq _ _ _ _
  have h24 : (ms J1 0 6 (nI (tB tx n e))).1 0 4 = nI (tB tx n e) := by rw [ms_ne (by omega)]; exact a3'
  generalize ms J1 0 6 (nI (tB tx n e)) = J2 at k2 h26 h24 ⊢
  have hx2 := hx.kr k2
  rw [h24]
  unfold tK tV tE
  by_cases c : tB tx n e < n
  · have hbb := (hx.2.2 _ c).1
    rw [if_pos c, if_pos c, r_byte hx2 c, bnd, if_pos (nI_pos' (by omega)), r_let hbb, r_dig hbb, bnd, bnd]
    by_cases l : lt tx (tB tx n e) = true
    · have l' : 97 ≤ tx (tB tx n e) ∧ tx (tB tx n e) ≤ 122 := of_decide_eq_true l
      rw [if_pos l', if_neg n10, if_pos l, if_pos l]
      obtain ⟨J3, b1, b2, b3, b4⟩ := r_68 (tx := tx) (n := n) (fun y22 M23 => (Option.bind (fX5_wordOf y22) fun x24 => (Option.bind (some (ms M23 0 7 x24)) fun M25 => (if (M25.1 0 7) = (-9 : Int32) then (Option.bind (some (ms M25 0 5 (4 : Int32))) fun M28 => some M28) else (Option.bind (some (ms M25 0 5 (1 : Int32))) fun M27 => some M27))))) (b := tB tx n e) (n - tB tx n e) mF (tB tx n e) 0 J2 (by omega) (by unfold mF; omega) (Nat.le_refl _) hx2 h24 h26
      have q1 := adv_1 (g := lt tx) (d := n - tB tx n e) (by omega) l
      have qa : ∀ j, j < adv (lt tx) (n - tB tx n e) (tB tx n e) - tB tx n e → 97 ≤ tx (tB tx n e + j) ∧ tx (tB tx n e + j) ≤ 122 := fun j h1 => of_decide_eq_true (adv_all (lt tx) (n - tB tx n e) (tB tx n e) (tB tx n e + j) (by omega) (by omega))
      have hw := r_wordOf (tx := tx) (show 1 ≤ adv (lt tx) (n - tB tx n e) (tB tx n e) - tB tx n e by omega) qa
      rw [show tB tx n e + (adv (lt tx) (n - tB tx n e) (tB tx n e) - tB tx n e) = adv (lt tx) (n - tB tx n e) (tB tx n e) by omega] at hw
      rw [show (0 : Int64) = lN 0 from rfl, b1, hw, bnd, bnd, ms_eq]
      have kk : ∀ x y : Int32, kr J (ms (ms J3 0 7 x) 0 5 y) := fun x y => ((k2.trans b2).trans (kr.put _ _ (by omega))).trans (kr.put _ _ (by omega))
      have f6 : ∀ x y : Int32, (ms (ms J3 0 7 x) 0 5 y).1 0 6 = nI (tB tx n e) := fun x y => by rw [ms_ne (by omega), ms_ne (by omega)]; exact b4
      have f4 : ∀ x y : Int32, (ms (ms J3 0 7 x) 0 5 y).1 0 4 = nI (adv (lt tx) (n - tB tx n e) (tB tx n e)) := fun x y => by rw [ms_ne (by omega), ms_ne (by omega)]; exact b3
      rcases wkd_in tx (tB tx n e) (adv (lt tx) (n - tB tx n e) (tB tx n e)) with w | w | w | w
      · rw [w, if_neg (show ¬ (1 : Nat) = 6 by omega), if_neg (show ¬ nI (1 - 1) = -9 by decide), bnd]
        exact ⟨_, rfl, kk _ _, ms_eq _ _ _ _, f6 _ _, f4 _ _, fun h => absurd h (by decide), fun _ => by rw [ms_ne (by omega), ms_eq]⟩
      · rw [w, if_neg (show ¬ (2 : Nat) = 6 by omega), if_neg (show ¬ nI (2 - 1) = -9 by decide), bnd]
        exact ⟨_, rfl, kk _ _, ms_eq _ _ _ _, f6 _ _, f4 _ _, fun h => absurd h (by decide), fun _ => by rw [ms_ne (by omega), ms_eq]⟩
      · rw [w, if_neg (show ¬ (3 : Nat) = 6 by omega), if_neg (show ¬ nI (3 - 1) = -9 by decide), bnd]
        exact ⟨_, rfl, kk _ _, ms_eq _ _ _ _, f6 _ _, f4 _ _, fun h => absurd h (by decide), fun _ => by rw [ms_ne (by omega), ms_eq]⟩
      · rw [w, if_pos rfl, if_pos rfl, bnd]
        exact ⟨_, rfl, kk _ _, ms_eq _ _ _ _, f6 _ _, f4 _ _, fun h => absurd h (by decide), fun h => absurd h.2 (by decide)⟩
    · have l' : ¬ (97 ≤ tx (tB tx n e) ∧ tx (tB tx n e) ≤ 122) := fun z => l (decide_eq_true z)
      rw [if_neg l', if_pos rfl, if_neg l, if_neg l]
      by_cases d : dg tx (tB tx n e) = true
      · have d' : 48 ≤ tx (tB tx n e) ∧ tx (tB tx n e) ≤ 57 := of_decide_eq_true d
        rw [if_pos d', if_neg n10, if_pos d, if_pos d, bnd]
        have k3 : kr J (ms J2 0 7 0) := k2.trans (kr.put _ _ (by omega))
        obtain ⟨J3, b1, b2, b3, b7, b6, b8⟩ := r_177 (tx := tx) (n := n) (nI (tx (tB tx n e))) (fun M14 => (if (99 : Int32) < (M14.1 0 7) then (Option.bind (some (ms M14 0 5 (4 : Int32))) fun M16 => some M16) else (if nI (tx (tB tx n e)) = (48 : Int32) then (if ((M14.1 0 4) - (M14.1 0 6)) ≤ (1 : Int32) then (Option.bind (some (ms M14 0 5 (2 : Int32))) fun M20 => some M20) else (Option.bind (some (ms M14 0 5 (4 : Int32))) fun M21 => some M21)) else (Option.bind (some (ms M14 0 5 (2 : Int32))) fun M18 => some M18)))) (n - tB tx n e) mF (tB tx n e) 0 (ms J2 0 7 0) (by omega) (by unfold mF; omega) (by omega) (hx.kr k3) (by rw [ms_ne (by omega)]; exact h24) (ms_eq _ _ _ _)
        have q1 := adv_1 (g := dg tx) (d := n - tB tx n e) (by omega) d
        have q2 := adv_le (dg tx) (n - tB tx n e) (tB tx n e)
        have qa : ∀ j, tB tx n e ≤ j → j < adv (dg tx) (n - tB tx n e) (tB tx n e) → 48 ≤ tx j ∧ tx j ≤ 57 := fun j h1 h2 => of_decide_eq_true (adv_all (dg tx) _ _ j h1 h2)
        have qv := dv_nvl q1 qa
        have b6' : J3.1 0 6 = nI (tB tx n e) := by rw [b6, ms_ne (by omega)]; exact h26
        rw [b1, b7, b3, b6', pk_sub (by omega), bnd, bnd]
        have kk : ∀ y : Int32, kr J (ms J3 0 5 y) := fun y => (k3.trans b2).trans (kr.put _ _ (by omega))
        have f6 : ∀ y : Int32, (ms J3 0 5 y).1 0 6 = nI (tB tx n e) := fun y => by rw [ms_ne (by omega)]; exact b6'
        have f4 : ∀ y : Int32, (ms J3 0 5 y).1 0 4 = nI (adv (dg tx) (n - tB tx n e) (tB tx n e)) := fun y => by rw [ms_ne (by omega)]; exact b3
        have f7 : ∀ y : Int32, (ms J3 0 5 y).1 0 7 = nI (dv tx (adv (dg tx) (n - tB tx n e) (tB tx n e) - tB tx n e) (tB tx n e) 0) := fun y => by rw [ms_ne (by omega)]; exact b7
        generalize dv tx (adv (dg tx) (n - tB tx n e) (tB tx n e) - tB tx n e) (tB tx n e) 0 = V at qv b8 f7 ⊢
        generalize adv (dg tx) (n - tB tx n e) (tB tx n e) = E at q1 q2 qv f4 ⊢
        cases ev : nvl tx (tB tx n e) E with
        | none =>
          rw [ev] at qv
          have res : ∃ J', some (ms J3 0 5 4) = some J' ∧ kr J J' ∧ J'.1 0 5 = nI (rk 6) ∧ J'.1 0 6 = nI (tB tx n e) ∧ J'.1 0 4 = nI E ∧ (6 = 4 → J'.1 0 7 = nI ((none : Option Nat).getD 0)) ∧ (1 ≤ 6 ∧ 6 ≤ 3 → J'.1 0 7 = nI (6 - 1)) := ⟨_, rfl, kk _, ms_eq _ _ _ _, f6 _, f4 _, fun h => absurd h (by decide), fun h => absurd h.2 (by decide)⟩
          by_cases z : 99 < V
          · rw [if_pos (show (99 : Int32) < nI V from nI_lt (a := 99) z (by omega))]; exact res
          · have qz := qv.resolve_left z
            rw [if_neg (show ¬ (99 : Int32) < nI V from nI_nlt (a := 99) (by omega) (by omega)), if_pos (show nI (tx (tB tx n e)) = 48 by rw [qz.1]; rfl), if_neg (show ¬ nI (E - tB tx n e) ≤ 1 from nI_ge (a := 1) (by omega) (by omega))]
            exact res
        | some v =>
          rw [ev] at qv
          obtain ⟨g1, g2, g3⟩ := qv
          have res : ∃ J', some (ms J3 0 5 2) = some J' ∧ kr J J' ∧ J'.1 0 5 = nI (rk 4) ∧ J'.1 0 6 = nI (tB tx n e) ∧ J'.1 0 4 = nI E ∧ (4 = 4 → J'.1 0 7 = nI ((some v).getD 0)) ∧ (1 ≤ 4 ∧ 4 ≤ 3 → J'.1 0 7 = nI (4 - 1)) := ⟨_, rfl, kk _, ms_eq _ _ _ _, f6 _, f4 _, fun h => by rw [f7, g1]; rfl, fun h => absurd h.2 (by decide)⟩
          rw [if_neg (show ¬ (99 : Int32) < nI V from nI_nlt (a := 99) (by omega) (by omega))]
          by_cases z : tx (tB tx n e) = 48
          · rw [if_pos (show nI (tx (tB tx n e)) = 48 by rw [z]; rfl), if_pos (show nI (E - tB tx n e) ≤ 1 from nI_le (b := 1) (by omega) (by omega))]
            exact res
          · rw [if_neg (show ¬ nI (tx (tB tx n e)) = 48 from fun q => z (nIe (b := 48) q (by omega) (by omega)))]
            exact res
      · have d' : ¬ (48 ≤ tx (tB tx n e) ∧ tx (tB tx n e) ≤ 57) := fun z => d (decide_eq_true z)
        rw [if_neg d', if_pos rfl, if_neg d, if_neg d, bnd, nI_1, bnd, bnd]
        have kk : ∀ y : Int32, kr J (ms (ms J2 0 4 (nI (tB tx n e + 1))) 0 5 y) := fun y => (k2.trans (kr.put _ _ (by omega))).trans (kr.put _ _ (by omega))
        have f6 : ∀ y : Int32, (ms (ms J2 0 4 (nI (tB tx n e + 1))) 0 5 y).1 0 6 = nI (tB tx n e) := fun y => by rw [ms_ne (by omega), ms_ne (by omega)]; exact h26
        have f4 : ∀ y : Int32, (ms (ms J2 0 4 (nI (tB tx n e + 1))) 0 5 y).1 0 4 = nI (tB tx n e + 1) := fun y => by rw [ms_ne (by omega), ms_eq]
        by_cases s : tx (tB tx n e) = 59
        · rw [if_pos (show nI (tx (tB tx n e)) = 59 by rw [s]; rfl), if_pos s]
          exact ⟨_, rfl, kk _, ms_eq _ _ _ _, f6 _, f4 _, fun h => absurd h (by decide), fun h => absurd h.2 (by decide)⟩
        · rw [if_neg (show ¬ nI (tx (tB tx n e)) = 59 from fun q => s (nIe (b := 59) q (by omega) (by omega))), if_neg s]
          exact ⟨_, rfl, kk _, ms_eq _ _ _ _, f6 _, f4 _, fun h => absurd h (by decide), fun h => absurd h.2 (by decide)⟩
  · have hbn : tB tx n e = n := by omega
    rw [if_neg c, if_neg c, hbn, r_byte_end hx2, bnd, if_neg (by decide), bnd]
    refine ⟨_, rfl, k2.trans (kr.put _ _ (by omega)), ms_eq _ _ _ _, ?_, ?_, fun h => absurd h (by decide), fun h => absurd h.1 (by decide)⟩
    · rw [ms_ne (by omega), ← hbn]; exact h26
    · rw [ms_ne (by omega), ← hbn]; exact h24
end TOK
