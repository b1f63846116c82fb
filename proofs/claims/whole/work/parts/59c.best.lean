/-! the best closed way -/
theorem bit_c : ∀ (m : Fin 64) (t : Fin 6), ((nI m.val &&& ((1 : Int32) <<< (nI t.val &&& 31))) = 0) ↔ m.val.testBit t.val = false := by decide +kernel
theorem bit_o : ∀ (m : Fin 64) (t : Fin 6), nI m.val ||| ((1 : Int32) <<< (nI t.val &&& 31)) = nI (m.val ||| 2 ^ t.val) := by decide +kernel
theorem bit_r : ∀ (m : Fin 64) (t : Fin 6), (((nI m.val >>> (nI t.val &&& 31)) &&& (1 : Int32)) = 1) ↔ m.val.testBit t.val = true := by decide +kernel
theorem bit_1 : ∀ t : Fin 6, ((1 : Int32) <<< (nI t.val &&& 31)) = nI (2 ^ t.val) := by decide +kernel
theorem bit_lt {m t : Nat} (hm : m < 64) (ht : t < 6) : m ||| 2 ^ t < 64 := by
  have h : 2 ^ t < 2 ^ 6 := Nat.pow_lt_pow_right (by omega) ht
  exact Nat.or_lt_two_pow (n := 6) hm h
abbrev NOi : Int32 := -1000000
/-- on from the town l, seen the towns m, with w so far -/
def run (L : Lnd) : Nat → Nat → Int32 → List Nat → Option (Nat × Nat × Int32)
  | l, m, w, [] => some (l, m, w)
  | l, m, w, t :: ts => if m.testBit t = true then none else match dist L l t with
    | none => none
    | some d => run L t (m ||| 2 ^ t) ((w + nI (L 1 t)) - nI d) ts
abbrev run0 (L : Lnd) (t0 : Nat) (ts : List Nat) : Option (Nat × Nat × Int32) := run L t0 (2 ^ t0) (nI (L 1 t0)) ts
def stp1 (L : Lnd) (x : Nat × Nat × Int32) (t : Nat) : Option (Nat × Nat × Int32) := if x.2.1.testBit t = true then none else match dist L x.1 t with
    | none => none
    | some d => some (t, x.2.1 ||| 2 ^ t, (x.2.2 + nI (L 1 t)) - nI d)
theorem run_snoc (L : Lnd) : ∀ (ts : List Nat) (l m : Nat) (w : Int32) (t : Nat), run L l m w (ts ++ [t]) = (run L l m w ts).bind (fun x => stp1 L x t)
  | [], l, m, w, t => by
    show (if m.testBit t = true then none else match dist L l t with | none => none | some d => run L t (m ||| 2 ^ t) ((w + nI (L 1 t)) - nI d) []) = stp1 L (l, m, w) t
    rfl
  | y :: ys, l, m, w, t => by
    show (if m.testBit y = true then none else match dist L l y with | none => none | some d => run L y (m ||| 2 ^ y) ((w + nI (L 1 y)) - nI d) (ys ++ [t])) = Option.bind (if m.testBit y = true then none else match dist L l y with | none => none | some d => run L y (m ||| 2 ^ y) ((w + nI (L 1 y)) - nI d) ys) _
    by_cases c : m.testBit y = true
    · rw [if_pos c, if_pos c]; rfl
    · rw [if_neg c, if_neg c]
      cases dist L l y with
      | none => rfl
      | some d => exact run_snoc L ys _ _ _ t
/-- what the closed way t0, ts is worth -/
def wof (L : Lnd) (t0 : Nat) (ts : List Nat) : Int32 := match run0 L t0 ts with
  | none => NOi
  | some x => match dist L x.1 t0 with
    | none => NOi
    | some d => x.2.2 - nI d
abbrev BSt : Type := Int32 × List Nat
def bstep (L : Lnd) (t0 : Nat) (s : BSt) (ts : List Nat) : BSt := if wof L t0 ts ≤ s.1 then s else (wof L t0 ts, t0 :: ts)
def Fb (L : Lnd) (t0 : Nat) : Nat → List Nat → BSt → BSt
  | 0, ts, s => bstep L t0 s ts
  | k + 1, ts, s => (List.range (lT L)).foldl (fun s t => Fb L t0 k (ts ++ [t]) s) (bstep L t0 s ts)
theorem foldl_same {α β : Type} (f : β → α → β) (s : β) : ∀ l : List α, (∀ t, f s t = s) → l.foldl f s = s
  | [], _ => rfl
  | a :: l, h => by rw [List.foldl_cons, h a]; exact foldl_same f s l h
theorem foldl_inv {α β : Type} (f : β → α → β) (P : β → Prop) (h : ∀ s t, P s → P (f s t)) : ∀ (l : List α) (s : β), P s → P (l.foldl f s)
  | [], _, hs => hs
  | a :: l, s, hs => by rw [List.foldl_cons]; exact foldl_inv f P h l _ (h s a hs)
theorem bstep_ok {L : Lnd} {t0 : Nat} {s : BSt} {ts : List Nat} (h : NOi ≤ s.1) : NOi ≤ (bstep L t0 s ts).1 := by
  unfold bstep
  by_cases c : wof L t0 ts ≤ s.1
  · rw [if_pos c]; exact h
  · rw [if_neg c]; exact Int32.le_trans h (Int32.le_of_lt (lt_of_nle c))
theorem Fb_ok {L : Lnd} {t0 : Nat} : ∀ (k : Nat) (ts : List Nat) (s : BSt), NOi ≤ s.1 → NOi ≤ (Fb L t0 k ts s).1
  | 0, ts, s, h => bstep_ok h
  | k + 1, ts, s, h => by
    show NOi ≤ ((List.range (lT L)).foldl (fun s t => Fb L t0 k (ts ++ [t]) s) (bstep L t0 s ts)).1
    refine foldl_inv (fun s t => Fb L t0 k (ts ++ [t]) s) (fun s : BSt => NOi ≤ s.1) (fun s t hs => ?_) _ _ (bstep_ok h)
    exact Fb_ok k (ts ++ [t]) s hs
theorem bstep_ne {L : Lnd} {t0 : Nat} {s : BSt} {ts : List Nat} (h : s.2 ≠ []) : (bstep L t0 s ts).2 ≠ [] := by
  unfold bstep
  by_cases c : wof L t0 ts ≤ s.1
  · rw [if_pos c]; exact h
  · rw [if_neg c]; simp
theorem Fb_ne {L : Lnd} {t0 : Nat} : ∀ (k : Nat) (ts : List Nat) (s : BSt), s.2 ≠ [] → (Fb L t0 k ts s).2 ≠ []
  | 0, ts, s, h => bstep_ne h
  | k + 1, ts, s, h => by
    show ((List.range (lT L)).foldl (fun s t => Fb L t0 k (ts ++ [t]) s) (bstep L t0 s ts)).2 ≠ []
    refine foldl_inv (fun s t => Fb L t0 k (ts ++ [t]) s) (fun s : BSt => s.2 ≠ []) (fun s t hs => ?_) _ _ (bstep_ne h)
    exact Fb_ne k (ts ++ [t]) s hs
theorem wof_none {L : Lnd} {t0 : Nat} {ts : List Nat} (h : run0 L t0 ts = none) : wof L t0 ts = NOi := by unfold wof; rw [h]
/-- a way that can't be begun so is worth nothing, nor any that goes on from it -/
theorem Fb_cut {L : Lnd} {t0 : Nat} : ∀ (k : Nat) (ts : List Nat) (s : BSt), run0 L t0 ts = none → NOi ≤ s.1 → Fb L t0 k ts s = s
  | 0, ts, s, h, hs => by
    show bstep L t0 s ts = s
    unfold bstep
    rw [wof_none h, if_pos hs]
  | k + 1, ts, s, h, hs => by
    show (List.range (lT L)).foldl (fun s t => Fb L t0 k (ts ++ [t]) s) (bstep L t0 s ts) = s
    have e : bstep L t0 s ts = s := by unfold bstep; rw [wof_none h, if_pos hs]
    rw [e]
    refine foldl_same _ s _ (fun t => ?_)
    exact Fb_cut k (ts ++ [t]) s (by show run L t0 _ _ (ts ++ [t]) = none; rw [run_snoc, show run L t0 (2 ^ t0) (nI (L 1 t0)) ts = none from h]; rfl) hs
/-- what a run keeps: town, mask, that it is reached -/
theorem run_ok {L : Lnd} {t0 : Nat} (ht0 : t0 < lT L) (hT : lT L ≤ 6) : ∀ (ts : List Nat) (l m : Nat) (w : Int32) (x : Nat × Nat × Int32), l < lT L → m < 64 → (dist L t0 l).isSome = true → (∀ t, t ∈ ts → t < lT L) → run L l m w ts = some x → x.1 < lT L ∧ x.2.1 < 64 ∧ (dist L t0 x.1).isSome = true
  | [], l, m, w, x, h1, h2, h3, _, h => by cases h; exact ⟨h1, h2, h3⟩
  | t :: ts, l, m, w, x, h1, h2, h3, h4, h => by
    unfold run at h
    by_cases c : m.testBit t = true
    · rw [if_pos c] at h; cases h
    rw [if_neg c] at h
    have ht := h4 t (List.mem_cons_self ..)
    cases e : dist L l t with
    | none => rw [e] at h; cases h
    | some d =>
      rw [e] at h
      exact run_ok ht0 hT ts t _ _ x ht (bit_lt h2 (by omega)) (dist_tr h1 h3 (by rw [e]; rfl)) (fun t ht => h4 t (List.mem_cons_of_mem _ ht)) h
theorem run_last {L : Lnd} : ∀ (ts : List Nat) (l m : Nat) (w : Int32) (x : Nat × Nat × Int32), run L l m w ts = some x → (l :: ts).getD ts.length 0 = x.1
  | [], l, m, w, x, h => by cases h; rfl
  | t :: ts, l, m, w, x, h => by
    unfold run at h
    by_cases c : m.testBit t = true
    · rw [if_pos c] at h; cases h
    rw [if_neg c] at h
    cases e : dist L l t with
    | none => rw [e] at h; cases h
    | some d =>
      rw [e] at h
      exact run_last ts t _ _ x h
/-! the class's search -/
/-- the class's best so far -/
def BSc (s : BSt) (M : Mem) : Prop := M.1 25 3 = s.1 ∧ M.1 25 2 = nI s.2.length ∧ s.2.length ≤ 6 ∧ ∀ i, i < s.2.length → M.1 27 i = nI (s.2.getD i 0)
def cur (l : List Nat) (M : Mem) : Prop := ∀ i, i < l.length → M.1 26 i = nI (l.getD i 0)
def frb (n : Nat) (M M' : Mem) : Prop := (∀ q, q ≠ 25 → q ≠ 26 → q ≠ 27 → M'.1 q = M.1 q) ∧ (∀ i, i < n → M'.1 26 i = M.1 26 i) ∧ M'.2 = M.2
theorem frb.refl (n : Nat) (M : Mem) : frb n M M := ⟨fun _ _ _ _ => rfl, fun _ _ => rfl, rfl⟩
theorem frb.trans {n : Nat} {M M1 M2 : Mem} (h : frb n M M1) (g : frb n M1 M2) : frb n M M2 := ⟨fun q a b c => (g.1 q a b c).trans (h.1 q a b c), fun i hi => (g.2.1 i hi).trans (h.2.1 i hi), g.2.2.trans h.2.2⟩
theorem frb.le {n n' : Nat} {M M' : Mem} (h : frb n M M') (hn : n' ≤ n) : frb n' M M' := ⟨h.1, fun i hi => h.2.1 i (by omega), h.2.2⟩
theorem cur.frb {l : List Nat} {n : Nat} {M M' : Mem} (h : cur l M) (g : frb n M M') (hn : l.length ≤ n) : cur l M' := fun i hi => (g.2.1 i (by omega)).trans (h i hi)
theorem LC.frb {b : Nat} (hb : b + 10 ≤ 24) {L : Lnd} {n : Nat} {M M' : Mem} (h : LC b L M.1) (g : frb n M M') : LC b L M'.1 := h.congr (fun i hi => g.1 _ (by omega) (by omega) (by omega))
theorem LCm.frb {b : Nat} (hb : b + 10 ≤ 24) {L : Lnd} {n : Nat} {M M' : Mem} (h : LCm b L M.1) (g : frb n M M') : LCm b L M'.1 := h.congr (fun i hi => g.1 _ (by omega) (by omega) (by omega))
theorem off_27 {l : List Nat} (hl : l.length ≤ 6) : ∀ (n k : Nat) (M : Mem), k ≤ l.length → l.length < k + n → cur l M → (∀ i, i < k → M.1 27 i = nI (l.getD i 0)) → ∃ M', fX0_offer_27 (nI l.length) (fun M5 => some M5) n (nI k) M = some M' ∧ (∀ q, q ≠ 27 → M'.1 q = M.1 q) ∧ M'.2 = M.2 ∧ (∀ i, i < l.length → M'.1 27 i = nI (l.getD i 0))
  | 0, k, M, h1, h2, _, _ => by omega
  | n + 1, k, M, h1, h2, hc, h3 => by
    unfold fX0_offer_27
    by_cases e : k = l.length
    · subst e
      exact ⟨M, if_pos (Int32.le_refl _), fun _ _ => rfl, rfl, h3⟩
    have hk : k < l.length := by omega
    rw [if_neg (nI_ge hk (by omega)), ld_at (by omega) (by omega), hc k hk, bnd, sta_at (by omega) (by omega), bnd, nI_1]
    obtain ⟨M', a1, a2, a3, a4⟩ := off_27 hl n (k + 1) (ms M 27 k (nI (l.getD k 0))) (by omega) (by omega) (fun i hi => by rw [ms_ne (by omega)]; exact hc i hi) (fun i hi => by
      by_cases z : i = k
      · rw [z, ms_eq]
      · rw [ms_ne (Or.inr z)]; exact h3 i (by omega))
    exact ⟨M', a1, fun q hq => by rw [a2 q hq, ms_row hq], a3, a4⟩
theorem c_offer {l : List Nat} {s : BSt} {M : Mem} (hl : l.length ≤ 6) (hc : cur l M) (hs : BSc s M) (v : Int32) : ∃ M', fX0_offer (nI l.length) v M = some M' ∧ BSc (if v ≤ s.1 then s else (v, l)) M' ∧ frb 6 M M' := by
  unfold fX0_offer
  rw [hs.1]
  by_cases c : v ≤ s.1
  · rw [if_pos c, if_pos c]
    exact ⟨M, rfl, hs, frb.refl 6 M⟩
  · rw [if_neg c, if_neg c, if_pos (show nI l.length ≤ 6 from nI_le (b := 6) hl (by omega)), bnd, bnd]
    obtain ⟨M', a1, a2, a3, a4⟩ := off_27 hl mF 0 (ms (ms M 25 3 v) 25 2 (nI l.length)) (by omega) (fuel (by omega)) (fun i hi => by rw [ms_ne (by omega), ms_ne (by omega)]; exact hc i hi) (fun i hi => absurd hi (Nat.not_lt_zero i))
    rw [nI_0] at a1
    refine ⟨M', a1, ⟨?_, ?_, hl, a4⟩, ⟨fun q h1 h2 h3 => ?_, fun i hi => ?_, a3⟩⟩
    · rw [a2 25 (by omega), ms_ne (by omega), ms_eq]
    · rw [a2 25 (by omega), ms_eq]
    · rw [a2 q h3, ms_row h1, ms_row h1]
    · rw [a2 26 (by omega), ms_row (by omega), ms_row (by omega)]
section EXT
variable {L : Lnd} {b : Nat}
theorem ext_lp (hL : Lok L) (hb : b + 10 ≤ 24) {t0 : Nat} {ts : List Nat} {x : Nat × Nat × Int32} (hx : run0 L t0 ts = some x) (h1 : x.1 < lT L) (h2 : x.2.1 < 64) {k : Nat} (hk : ts.length + 1 + (k + 1) = 6) (rec : Nat → Int32 → Int32 → Int32 → Mem → Option Mem)
    (hrec : ∀ (t : Nat) (y : Nat × Nat × Int32) (M : Mem) (s : BSt), t < lT L → run0 L t0 (ts ++ [t]) = some y → LC b L M.1 → LCm b L M.1 → cur (t0 :: (ts ++ [t])) M → BSc s M → NOi ≤ s.1 → ∃ M', rec b (nI (ts.length + 2)) (nI y.2.1) y.2.2 M = some M' ∧ BSc (Fb L t0 k (ts ++ [t]) s) M' ∧ frb (ts.length + 2) M M') : ∀ (n t : Nat) (M : Mem) (s : BSt), t ≤ lT L → lT L < t + n → LC b L M.1 → LCm b L M.1 → cur (t0 :: ts) M → BSc s M → NOi ≤ s.1 → ∃ M', fX0_extend_52 b rec (nI (ts.length + 1)) (nI x.2.1) x.2.2 (nI x.1) (fun M8 => some M8) n (nI t) M = some M' ∧ BSc (((List.range (lT L)).drop t).foldl (fun s t => Fb L t0 k (ts ++ [t]) s) s) M' ∧ frb (ts.length + 1) M M'
  | 0, t, M, s, g1, g2, _, _, _, _, _ => by omega
  | n + 1, t, M, s, g1, g2, hC, hm, hc, hs, ho => by
    have hT := hL.1
    unfold fX0_extend_52
    rw [hC.1]
    by_cases e : t = lT L
    · rw [if_pos (by rw [e]; exact Int32.le_refl _), e, List.drop_eq_nil_of_le (by rw [List.length_range]; exact Nat.le_refl _)]
      exact ⟨M, rfl, hs, frb.refl _ M⟩
    have ht : t < lT L := by omega
    have ht2 : t < (List.range (lT L)).length := by rw [List.length_range]; exact ht
    rw [if_neg (nI_ge ht (by omega)), c_distance hL hC hm h1 ht, bnd, List.drop_eq_getElem_cons ht2, List.getElem_range, List.foldl_cons, nI_1]
    have hsn : run0 L t0 (ts ++ [t]) = stp1 L x t := by
      show run L t0 _ _ (ts ++ [t]) = _
      rw [run_snoc, show run L t0 (2 ^ t0) (nI (L 1 t0)) ts = some x from hx]; rfl
    have skip : stp1 L x t = none → ∃ M', fX0_extend_52 b rec (nI (ts.length + 1)) (nI x.2.1) x.2.2 (nI x.1) (fun M8 => some M8) n (nI (t + 1)) M = some M' ∧ BSc (((List.range (lT L)).drop (t + 1)).foldl (fun s t => Fb L t0 k (ts ++ [t]) s) (Fb L t0 k (ts ++ [t]) s)) M' ∧ frb (ts.length + 1) M M' := by
      intro hn
      rw [Fb_cut k (ts ++ [t]) s (by rw [hsn]; exact hn) ho]
      exact ext_lp hL hb hx h1 h2 hk rec hrec n (t + 1) M s (by omega) (by omega) hC hm hc hs ho
    have bc := bit_c ⟨x.2.1, h2⟩ ⟨t, by omega⟩
    have bo := bit_o ⟨x.2.1, h2⟩ ⟨t, by omega⟩
    simp only at bc bo
    by_cases c : x.2.1.testBit t = true
    · rw [if_neg (fun z => by rw [bc.mp z] at c; cases c)]
      exact skip (by unfold stp1; rw [if_pos c])
    · rw [if_pos (bc.mpr (Bool.eq_false_iff.mpr c))]
      cases ed : dist L x.1 t with
      | none =>
        rw [encC_none, if_pos rfl]
        exact skip (by unfold stp1; rw [if_neg c, ed])
      | some d =>
        have hd := dist_le hL ed
        have es : stp1 L x t = some (t, x.2.1 ||| 2 ^ t, (x.2.2 + nI (L 1 t)) - nI d) := by unfold stp1; rw [if_neg c, ed]
        have f0 : frb (ts.length + 1) M (ms M 26 (ts.length + 1) (nI t)) := ⟨fun q a b c => ms_row b, fun i hi => ms_ne (Or.inr (by omega)), rfl⟩
        have hc1 : cur (t0 :: (ts ++ [t])) (ms M 26 (ts.length + 1) (nI t)) := by
          intro i hi
          have hi' : i < ts.length + 1 + 1 := by simpa using hi
          by_cases z : i = ts.length + 1
          · subst z
            rw [ms_eq]; simp [List.getD]
          · rw [ms_ne (Or.inr z), hc i (by show i < ts.length + 1; omega)]
            congr 1
            simp only [List.getD]
            rw [← List.cons_append, List.getElem?_append_left (by show i < ts.length + 1; omega)]
        have hs1 : BSc s (ms M 26 (ts.length + 1) (nI t)) := ⟨by rw [ms_ne (by omega)]; exact hs.1, by rw [ms_ne (by omega)]; exact hs.2.1, hs.2.2.1, fun i hi => by rw [ms_ne (by omega)]; exact hs.2.2.2 i hi⟩
        obtain ⟨M1, r1, r2, r3⟩ := hrec t _ _ s ht (hsn.trans es) (hC.frb hb f0) (hm.frb hb f0) hc1 hs1 ho
        have f1 : frb (ts.length + 1) M M1 := f0.trans (r3.le (by omega))
        obtain ⟨M2, p1, p2, p3⟩ := ext_lp hL hb hx h1 h2 hk rec hrec n (t + 1) M1 _ (by omega) (by omega) (hC.frb hb f1) (hm.frb hb f1) (hc.frb f1 (Nat.le_refl _)) r2 (Fb_ok k _ s ho)
        refine ⟨M2, ?_, p2, f1.trans p3⟩
        rw [encC_some, if_neg (nI_m9 (by omega)), sta_at (by omega) (by omega), bnd, c_bidOf hL (hC.frb hb f0) ht, bnd, bo, nI_1, r1, bnd]
        exact p1
theorem c_ext (hL : Lok L) (hb : b + 10 ≤ 24) {t0 : Nat} (ht0 : t0 < lT L) : ∀ (d k : Nat) (ts : List Nat) (x : Nat × Nat × Int32) (M : Mem) (s : BSt), k < d → ts.length + 1 + k = 6 → (∀ t, t ∈ ts → t < lT L) → run0 L t0 ts = some x → LC b L M.1 → LCm b L M.1 → cur (t0 :: ts) M → BSc s M → NOi ≤ s.1 → ∃ M', fX0_extend d b (nI (ts.length + 1)) (nI x.2.1) x.2.2 M = some M' ∧ BSc (Fb L t0 k ts s) M' ∧ frb (ts.length + 1) M M'
  | 0, k, ts, x, M, s, h0, _, _, _, _, _, _, _, _ => by omega
  | d + 1, k, ts, x, M, s, h0, hk, hts, hx, hC, hm, hc, hs, ho => by
    have hT := hL.1
    have hd0 : (dist L t0 t0).isSome = true := by rw [dist_diag hL]; rfl
    obtain ⟨x1, x2, x3⟩ := run_ok ht0 hT ts t0 (2 ^ t0) (nI (L 1 t0)) x ht0 (by have := bit_lt (m := 0) (by omega) (show t0 < 6 by omega); rwa [Nat.zero_or] at this) hd0 hts hx
    unfold fX0_extend
    have hlast : M.1 26 ts.length = nI x.1 := by
      rw [hc ts.length (by show ts.length < ts.length + 1; omega), run_last ts _ _ _ _ hx]
    have hfirst : M.1 26 0 = nI t0 := hc 0 (by show 0 < ts.length + 1; omega)
    rw [if_neg (show ¬ nI (ts.length + 1) < 1 from nI_nlt (b := 1) (by omega) (by omega)), if_pos (show nI (ts.length + 1) ≤ 6 from nI_le (b := 6) (by omega) (by omega)), nI_pred, ld_at (by omega) (by omega), hlast, bnd, ld_0 (by omega) (by omega), hfirst, bnd, c_distance hL hC hm x1 ht0, bnd]
    obtain ⟨M1, o1, o2, o3⟩ := c_offer (l := t0 :: ts) (by show ts.length + 1 ≤ 6; omega) hc hs (x.2.2 - encC (dist L x.1 t0))
    have ev : x.2.2 - encC (dist L x.1 t0) = wof L t0 ts := by
      unfold wof
      rw [hx]
      dsimp only
      cases e : dist L x.1 t0 with
      | none => rw [dist_sym, e] at x3; cases x3
      | some v => rfl
    rw [ev] at o1 o2
    have o1' : fX0_offer (nI (ts.length + 1)) (x.2.2 - encC (dist L x.1 t0)) M = some M1 := by rw [ev]; exact o1
    rw [o1', bnd]
    have hb1 : BSc (bstep L t0 s ts) M1 := o2
    have hC1 := hC.frb hb o3
    have hm1 := hm.frb hb o3
    have hc1 := hc.frb o3 (by show ts.length + 1 ≤ 6; omega)
    cases k with
    | zero =>
      rw [if_neg (show ¬ nI (ts.length + 1) < 6 from nI_nlt (b := 6) (by omega) (by omega))]
      exact ⟨M1, rfl, hb1, o3.le (by omega)⟩
    | succ k =>
      rw [if_pos (show nI (ts.length + 1) < 6 from nI_lt (b := 6) (by omega) (by omega))]
      obtain ⟨M2, p1, p2, p3⟩ := ext_lp hL hb hx x1 x2 (k := k) (by omega) (fX0_extend d) (fun t y M s ht hy hC hm hc hs ho => by
        have := c_ext hL hb ht0 d k (ts ++ [t]) y M s (by omega) (by rw [List.length_append]; show ts.length + 1 + 1 + k = 6; omega) (fun u hu => by
          rcases List.mem_append.mp hu with h | h
          · exact hts u h
          · have : u = t := by simpa using h
            omega) hy hC hm hc hs ho
        rw [List.length_append] at this
        exact this) mF 0 M1 _ (by omega) (fuel (by omega)) hC1 hm1 hc1 hb1 (bstep_ok ho)
      rw [List.drop_zero] at p2
      exact ⟨M2, p1, p2, (o3.le (by omega)).trans p3⟩
end EXT
theorem c_find {L : Lnd} {b : Nat} (hL : Lok L) (hb : b + 10 ≤ 24) {t0 : Nat} (ht0 : t0 < lT L) {M : Mem} (hC : LC b L M.1) (hm : LCm b L M.1) : ∃ M', fX0_find b (nI t0) M = some M' ∧ BSc (Fb L t0 5 [] (NOi, [])) M' ∧ frb 0 M M' := by
  have hT := hL.1
  unfold fX0_find
  have f0 : frb 0 M (ms (ms (ms M 25 3 (-1000000)) 25 2 0) 26 0 (nI t0)) := ⟨fun q a b c => by rw [ms_row b, ms_row a, ms_row a], fun i hi => absurd hi (Nat.not_lt_zero i), rfl⟩
  rw [bnd, bnd, sta_0 (by omega) (by omega), bnd, c_bidOf hL (hC.frb hb f0) ht0, bnd]
  have b1 := bit_1 ⟨t0, by omega⟩
  simp only at b1
  rw [b1]
  obtain ⟨M', e1, e2, e3⟩ := c_ext hL hb ht0 8 5 [] (t0, 2 ^ t0, nI (L 1 t0)) (ms (ms (ms M 25 3 (-1000000)) 25 2 0) 26 0 (nI t0)) (NOi, []) (by omega) rfl (fun t ht => by cases ht) rfl (hC.frb hb f0) (hm.frb hb f0) (fun i hi => by
    have : i = 0 := by have : i < 1 := hi; omega
    subst this; rw [ms_eq]; rfl) ⟨by rw [ms_ne (by omega), ms_ne (by omega), ms_eq], by rw [ms_ne (by omega), ms_eq]; rfl, by decide, fun i hi => absurd hi (Nat.not_lt_zero i)⟩ (Int32.le_refl _)
  have e1' : fX0_extend 8 b 1 (nI (2 ^ t0)) (nI (L 1 t0)) (ms (ms (ms M 25 3 (-1000000)) 25 2 0) 26 0 (nI t0)) = some M' := e1
  rw [e1', bnd]
  exact ⟨M', rfl, e2, f0.trans (e3.le (by omega))⟩
/-! the reference's count through all ways -/
def wrun (L : Lnd) (t0 x m : Nat) (acc : Int32) (rest : List Nat) : Int32 := if m.testBit x = true then NOi else match run L x (m ||| 2 ^ x) (acc + nI (L 1 x)) rest with
  | none => NOi
  | some y => match dist L y.1 t0 with
    | none => NOi
    | some d => y.2.2 - nI d
section RB
variable {L : Lnd} {J : Mem}
theorem r_worth_lp (hL : Lok L) (hR : LR L J.1) (hm : LRm L J.1) {t0 N : Nat} (ht0 : t0 < lT L) (hN : N ≤ 6) (h0 : J.1 12 0 = nI t0) : ∀ (rest : List Nat) (i x m n : Nat) (acc : Int32), i + 1 + rest.length = N → rest.length + 1 < n → x < lT L → (∀ t, t ∈ rest → t < lT L) → m < 64 → J.1 12 i = nI x → (∀ j, j < rest.length → J.1 12 (i + 1 + j) = nI (rest.getD j 0)) → fX5_worthOf_7 (nI N) J (fun y => some y) n acc (nI m) (nI i) = some (wrun L t0 x m acc rest)
  | rest, i, x, m, 0, acc, _, h2, _, _, _, _, _ => by omega
  | rest, i, x, m, n + 1, acc, h1, h2, hx, hr, hm6, hi, hrr => by
    have hT := hL.1
    unfold fX5_worthOf_7
    have br := bit_r ⟨m, hm6⟩ ⟨x, by omega⟩
    have bo := bit_o ⟨m, hm6⟩ ⟨x, by omega⟩
    simp only at br bo
    have lx : ld (J.1 12) 6 (nI i) = some (nI x) := by rw [ld_at (by omega) (by omega), hi]
    have lb : ld (J.1 2) 12 (nI x) = some (nI (L 1 x)) := by rw [ld_at (by omega) (by omega), hR.2.2.2.1 x hx]
    rw [if_neg (nI_ge (show i < N by omega) (by omega)), nI_1]
    cases rest with
    | nil =>
      have h1' : i + 1 = N := h1
      rw [if_pos (by rw [h1']), ld_0 (by omega) (by omega), h0, bnd, lx]
      simp only [bndp]
      rw [r_farOf hL hm hx ht0]
      simp only [bndp]
      rw [lb]
      simp only [bndp]
      unfold wrun
      by_cases c : m.testBit x = true
      · rw [if_pos (br.mpr c), if_pos c]
      · rw [if_neg (fun z => c (br.mp z)), if_neg c]
        show _ = some (match dist L x t0 with | none => NOi | some d => acc + nI (L 1 x) - nI d)
        cases e : dist L x t0 with
        | none => rw [encC_none, if_pos rfl]
        | some d =>
          have hd := dist_le hL e
          rw [encC_some, if_neg (nI_m9 (by omega))]
          obtain ⟨n', rfl⟩ : ∃ n', n = n' + 1 := ⟨n - 1, by have : 0 + 1 < n + 1 := h2; omega⟩
          unfold fX5_worthOf_7
          rw [if_pos (by rw [h1']; exact Int32.le_refl _)]
          show some (acc + (nI (L 1 x) - nI d)) = some (acc + nI (L 1 x) - nI d)
          rw [Int32.sub_eq_add_neg, Int32.sub_eq_add_neg, Int32.add_assoc]
    | cons y ys =>
      have h1' : i + 1 + (ys.length + 1) = N := h1
      have h2' : ys.length + 1 + 1 < n + 1 := h2
      have hy := hr y (List.mem_cons_self ..)
      have hi2 : J.1 12 (i + 1) = nI y := hrr 0 (by show 0 < ys.length + 1; omega)
      rw [if_neg (fun z => by have := nIe z (by omega) (by omega); omega), ld_at (show i + 1 < 6 by omega) (by omega), hi2, bnd, lx]
      simp only [bndp]
      rw [r_farOf hL hm hx hy]
      simp only [bndp]
      rw [lb]
      simp only [bndp]
      unfold wrun
      by_cases c : m.testBit x = true
      · rw [if_pos (br.mpr c), if_pos c]
      · rw [if_neg (fun z => c (br.mp z)), if_neg c]
        have ih := fun acc => r_worth_lp hL hR hm ht0 hN h0 ys (i + 1) y (m ||| 2 ^ x) n acc (by omega) (by omega) hy (fun t ht => hr t (List.mem_cons_of_mem _ ht)) (bit_lt hm6 (by omega)) hi2 (fun j hj => by
          have := hrr (j + 1) (by show j + 1 < ys.length + 1; omega)
          rw [show i + 1 + 1 + j = i + 1 + (j + 1) by omega, this]; rfl)
        show _ = some (match (if (m ||| 2 ^ x).testBit y = true then none else match dist L x y with | none => none | some d => run L y (m ||| 2 ^ x ||| 2 ^ y) ((acc + nI (L 1 x) + nI (L 1 y)) - nI d) ys) with | none => NOi | some y => match dist L y.1 t0 with | none => NOi | some d => y.2.2 - nI d)
        cases e : dist L x y with
        | none =>
          rw [encC_none, if_pos rfl]
          by_cases c2 : (m ||| 2 ^ x).testBit y = true
          · rw [if_pos c2]
          · rw [if_neg c2]
        | some d =>
          have hd := dist_le hL e
          rw [encC_some, if_neg (nI_m9 (by omega)), bo, ih]
          unfold wrun
          by_cases c2 : (m ||| 2 ^ x).testBit y = true
          · rw [if_pos c2, if_pos c2]
          · rw [if_neg c2, if_neg c2]
            have ea : acc + (nI (L 1 x) - nI d) + nI (L 1 y) = acc + nI (L 1 x) + nI (L 1 y) - nI d := by
              simp only [Int32.sub_eq_add_neg]; ac_rfl
            rw [ea]
theorem r_worth (hL : Lok L) (hR : LR L J.1) (hm : LRm L J.1) {t0 : Nat} {ts : List Nat} (ht0 : t0 < lT L) (hN : ts.length + 1 ≤ 6) (hts : ∀ t, t ∈ ts → t < lT L) (h0 : ∀ i, i < ts.length + 1 → J.1 12 i = nI ((t0 :: ts).getD i 0)) : fX5_worthOf (nI (ts.length + 1)) J = some (wof L t0 ts) := by
  have hT := hL.1
  unfold fX5_worthOf
  have := r_worth_lp hL hR hm ht0 hN (h0 0 (by omega)) ts 0 t0 0 mF 0 (by omega) (by unfold mF; omega) ht0 hts (by omega) (h0 0 (by omega)) (fun j hj => by
    have := h0 (j + 1) (by omega)
    rw [show 0 + 1 + j = j + 1 by omega, this]; rfl)
  rw [nI_0] at this
  rw [this]
  unfold wrun wof
  rw [if_neg (by rw [Nat.zero_testBit]; decide), Nat.zero_or, Int32.zero_add]
end RB
/-! digits -/
def dl (B : Nat) : Nat → Nat → List Nat
  | 0, _ => []
  | k + 1, v => (v / B ^ k % B) :: dl B k v
def fm : List Nat → List Nat → Option (List Nat)
  | ts, [] => some ts
  | ts, 0 :: ds => if ds.all (fun d => d == 0) = true then some ts else none
  | ts, (t + 1) :: ds => fm (ts ++ [t]) ds
theorem dl_len (B : Nat) : ∀ k v, (dl B k v).length = k
  | 0, _ => rfl
  | k + 1, v => by show (dl B k v).length + 1 = k + 1; rw [dl_len B k v]
theorem dl_lt {B : Nat} (hB : 0 < B) : ∀ k v d, d ∈ dl B k v → d < B
  | 0, _, d, h => by cases h
  | k + 1, v, d, h => by
    rcases List.mem_cons.mp h with h | h
    · rw [h]; exact Nat.mod_lt _ hB
    · exact dl_lt hB k v d h
theorem dl_at (B : Nat) : ∀ k v i, i < k → (dl B k v).getD i 0 = v / B ^ (k - 1 - i) % B
  | 0, _, i, h => absurd h (Nat.not_lt_zero i)
  | k + 1, v, 0, h => by show v / B ^ k % B = _; rw [Nat.add_sub_cancel, Nat.sub_zero]
  | k + 1, v, i + 1, h => by
    show (dl B k v).getD i 0 = _
    rw [dl_at B k v i (by omega), show k + 1 - 1 - (i + 1) = k - 1 - i by omega]
/-- the digits below don't see what is above -/
theorem dl_add {B : Nat} (hB : 0 < B) : ∀ k j d c, k ≤ j → dl B k (d * B ^ j + c) = dl B k c
  | 0, _, _, _, _ => rfl
  | k + 1, j, d, c, h => by
    show ((d * B ^ j + c) / B ^ k % B) :: dl B k (d * B ^ j + c) = (c / B ^ k % B) :: dl B k c
    rw [dl_add hB k j d c (by omega)]
    congr 1
    have e : d * B ^ j = B ^ k * (B * (d * B ^ (j - k - 1))) := by
      have : B ^ j = B ^ k * (B * B ^ (j - k - 1)) := by
        rw [← Nat.pow_succ', ← Nat.pow_add]; congr 1; omega
      rw [this]; ac_rfl
    rw [e, Nat.add_comm, Nat.add_mul_div_left _ _ (Nat.pow_pos hB), Nat.add_mul_mod_self_left]
theorem dl_top {B : Nat} {k d c : Nat} (hd : d < B) (hc : c < B ^ k) : (d * B ^ k + c) / B ^ k % B = d := by
  rw [Nat.add_comm, Nat.add_mul_div_right _ _ (by omega), Nat.div_eq_of_lt hc, Nat.zero_add, Nat.mod_eq_of_lt hd]
theorem foldl_blocks {α : Type} (f : α → Nat → α) (P : Nat) : ∀ (n : Nat) (s : α), (List.range (n * P)).foldl f s = (List.range n).foldl (fun s d => (List.range P).foldl (fun s c => f s (d * P + c)) s) s
  | 0, s => by simp
  | n + 1, s => by
    rw [Nat.succ_mul, List.range_add, List.foldl_append, foldl_blocks f P n s, List.range_succ, List.foldl_append, List.foldl_map]
    rfl
theorem foldl_congr {α : Type} {f g : α → Nat → α} : ∀ (l : List Nat) (s : α), (∀ s c, c ∈ l → f s c = g s c) → l.foldl f s = l.foldl g s
  | [], _, _ => rfl
  | a :: l, s, h => by
    rw [List.foldl_cons, List.foldl_cons, h s a (List.mem_cons_self ..)]
    exact foldl_congr l _ (fun s c hc => h s c (List.mem_cons_of_mem _ hc))
def cst (L : Lnd) (t0 k : Nat) (ts : List Nat) (s : BSt) (c : Nat) : BSt := match fm ts (dl (lT L + 1) k c) with
  | none => s
  | some q => bstep L t0 s q
theorem zeros_iff {B : Nat} (hB : 0 < B) : ∀ k c, c < B ^ k → ((dl B k c).all (fun d => d == 0) = true ↔ c = 0)
  | 0, c, h => by
    have : c = 0 := by simpa using h
    simp [dl, this]
  | k + 1, c, h => by
    have hp : 0 < B ^ k := Nat.pow_pos hB
    have hq : c / B ^ k < B := by
      rw [Nat.div_lt_iff_lt_mul hp, Nat.mul_comm, ← Nat.pow_succ]; exact h
    have hr : c % B ^ k < B ^ k := Nat.mod_lt _ hp
    have hdm : (c / B ^ k) * B ^ k + c % B ^ k = c := by rw [Nat.mul_comm]; exact Nat.div_add_mod c _
    have e1 : dl B k c = dl B k (c % B ^ k) := by
      have := dl_add hB k k (c / B ^ k) (c % B ^ k) (Nat.le_refl _)
      rw [hdm] at this; exact this
    show ((c / B ^ k % B == 0) && (dl B k c).all (fun d => d == 0)) = true ↔ c = 0
    rw [Bool.and_eq_true, e1, zeros_iff hB k _ hr, beq_iff_eq, Nat.mod_eq_of_lt hq]
    constructor
    · rintro ⟨h1, h2⟩
      rw [h1, h2] at hdm
      simpa using hdm.symm
    · intro h
      rw [h]; simp
theorem cst_all (L : Lnd) (t0 : Nat) : ∀ (k : Nat) (ts : List Nat) (s : BSt), (List.range ((lT L + 1) ^ k)).foldl (cst L t0 k ts) s = Fb L t0 k ts s
  | 0, ts, s => by rfl
  | k + 1, ts, s => by
    have hB : 0 < lT L + 1 := by omega
    have hp : 0 < (lT L + 1) ^ k := Nat.pow_pos hB
    rw [Nat.pow_succ', foldl_blocks, List.range_succ_eq_map, List.foldl_cons, List.foldl_map]
    have first : (List.range ((lT L + 1) ^ k)).foldl (fun s c => cst L t0 (k + 1) ts s (0 * (lT L + 1) ^ k + c)) s = bstep L t0 s ts := by
      obtain ⟨P, hP⟩ : ∃ P, (lT L + 1) ^ k = P + 1 := ⟨(lT L + 1) ^ k - 1, by omega⟩
      have each : ∀ (s : BSt) (c : Nat), c < (lT L + 1) ^ k → cst L t0 (k + 1) ts s (0 * (lT L + 1) ^ k + c) = if c = 0 then bstep L t0 s ts else s := by
        intro s c hc
        unfold cst
        have e : dl (lT L + 1) (k + 1) (0 * (lT L + 1) ^ k + c) = 0 :: dl (lT L + 1) k c := by
          show ((0 * (lT L + 1) ^ k + c) / (lT L + 1) ^ k % (lT L + 1)) :: dl (lT L + 1) k (0 * (lT L + 1) ^ k + c) = _
          rw [dl_top hB hc, dl_add hB k k 0 c (Nat.le_refl _)]
        rw [e]
        have z := zeros_iff hB k c hc
        by_cases h : c = 0
        · have : fm ts (0 :: dl (lT L + 1) k c) = some ts := by
            unfold fm; rw [if_pos (z.mpr h)]
          rw [this, if_pos h]
        · have : fm ts (0 :: dl (lT L + 1) k c) = none := by
            unfold fm; rw [if_neg (fun q => h (z.mp q))]
          rw [this, if_neg h]
      rw [foldl_congr (g := fun s c => if c = 0 then bstep L t0 s ts else s) _ _ (fun s c hc => each s c (List.mem_range.mp hc)), hP, List.range_succ_eq_map, List.foldl_cons, List.foldl_map, if_pos rfl]
      refine foldl_same _ _ _ (fun t => ?_)
      rw [if_neg (by omega)]
    rw [first]
    show _ = (List.range (lT L)).foldl (fun s t => Fb L t0 k (ts ++ [t]) s) (bstep L t0 s ts)
    refine foldl_congr _ _ (fun s t ht => ?_)
    rw [← cst_all L t0 k (ts ++ [t]) s]
    refine foldl_congr _ _ (fun s c hc => ?_)
    have hc' := List.mem_range.mp hc
    have ht' := List.mem_range.mp ht
    unfold cst
    have e : dl (lT L + 1) (k + 1) (Nat.succ t * (lT L + 1) ^ k + c) = (t + 1) :: dl (lT L + 1) k c := by
      show ((Nat.succ t * (lT L + 1) ^ k + c) / (lT L + 1) ^ k % (lT L + 1)) :: dl (lT L + 1) k (Nat.succ t * (lT L + 1) ^ k + c) = _
      rw [dl_top (by omega) hc', dl_add hB k k _ c (Nat.le_refl _)]
    rw [e]
    rfl
/-! the reference's loops -/
theorem b_30 {L : Lnd} {J : Mem} (hL : Lok L) (h0 : J.1 0 13 = nI (lT L)) (u1 u2 : Int32) (K : Int32 → Option (Int32 × Mem)) : ∀ (n i : Nat), i ≤ 5 → 5 < i + n → fX5_best_30 u1 u2 J K n (nI ((lT L + 1) ^ i)) (nI i) = K (nI ((lT L + 1) ^ 5))
  | 0, i, h1, h2 => by omega
  | n + 1, i, h1, h2 => by
    unfold fX5_best_30
    by_cases e : i = 5
    · subst e
      rw [if_pos (show (5 : Int32) ≤ nI 5 by decide)]
    rw [if_neg (show ¬ (5 : Int32) ≤ nI i from nI_ge (b := 5) (by omega) (by omega)), h0, nI_1, nI_1, pk_mul, ← Nat.pow_succ]
    exact b_30 hL h0 u1 u2 K n (i + 1) (by omega) (by omega)
theorem b_84 {L : Lnd} (hL : Lok L) (u2 u3 u4 u5 u7 u8 : Int32) (K : Mem → Option (Int32 × Mem)) : ∀ (j n v : Nat) (J : Mem), j ≤ 5 → j < n → v < 2 ^ 31 → J.1 0 13 = nI (lT L) → ∃ J', (∀ q, q ≠ 12 → J'.1 q = J.1 q) ∧ J'.2 = J.2 ∧ (∀ i, j < i ∨ i = 0 → J'.1 12 i = J.1 12 i) ∧ (∀ i, 1 ≤ i → i ≤ j → J'.1 12 i = nI (v / (lT L + 1) ^ (j - i) % (lT L + 1)) - 1) ∧ fX5_best_84 u2 u3 u4 u5 u7 u8 K n (nI v) (nI j) J = K J'
  | _, 0, _, _, _, h, _, _ => by omega
  | 0, n + 1, v, J, _, _, _, _ => by
    unfold fX5_best_84
    exact ⟨J, fun _ _ => rfl, rfl, fun _ _ => rfl, fun i h1 h2 => by omega, if_pos (by decide)⟩
  | j + 1, n + 1, v, J, h1, h2, hv, h0 => by
    have hT := hL.1
    unfold fX5_best_84
    rw [if_neg (nI_nle (by omega) (by omega)), h0, nI_1, rmi_at hv (by omega) (by omega), bnd, sta_at (show j + 1 < 6 by omega) (by omega), bnd, ms_ne (by omega), h0, nI_1, dvi_at hv (by omega) (by omega), bnd, pk_m1]
    have hv2 : v / (lT L + 1) < 2 ^ 31 := Nat.lt_of_le_of_lt (Nat.div_le_self _ _) hv
    obtain ⟨J', a1, a2, a3, a4, a5⟩ := b_84 hL u2 u3 u4 u5 u7 u8 K j n (v / (lT L + 1)) (ms J 12 (j + 1) (nI (v % (lT L + 1)) - 1)) (by omega) (by omega) hv2 (by rw [ms_ne (by omega)]; exact h0)
    refine ⟨J', fun q hq => by rw [a1 q hq, ms_row hq], a2, fun i hi => ?_, fun i g1 g2 => ?_, a5⟩
    · rw [a3 i (by omega), ms_ne (Or.inr (by omega))]
    · by_cases z : i = j + 1
      · subst z
        rw [a3 (j + 1) (by omega), ms_eq, Nat.sub_self, Nat.pow_zero, Nat.div_one]
      · rw [a4 i g1 (by omega), Nat.div_div_eq_div_mul, show j + 1 - i = (j - i) + 1 by omega, Nat.pow_succ']
theorem dig_neg {d : Nat} (hd : d < 2 ^ 30) : (nI d - 1 < 0 ↔ d = 0) := by
  constructor
  · intro h
    cases d with
    | zero => rfl
    | succ e => rw [nI_pred] at h; exact absurd h (nI_pos (by omega))
  · rintro rfl; decide
section CHK
variable {J : Mem} (u2 u3 u4 u5 : Int32) (K : Int32 → Int32 → Option (Int32 × Mem))
theorem b_127N : ∀ (ds : List Nat) (n p : Nat) (c : Int32), p + ds.length = 6 → ds.length < n → (∀ j, j < ds.length → J.1 12 (p + j) = nI (ds.getD j 0) - 1) → ∃ y3, fX5_best_127 u2 u3 u4 u5 J K n c 0 (nI p) = K y3 0
  | _, 0, _, _, _, h, _ => by omega
  | [], n + 1, p, c, h1, _, _ => by
    have : p = 6 := h1
    subst this
    unfold fX5_best_127
    exact ⟨c, if_pos (by decide)⟩
  | d :: ds, n + 1, p, c, h1, h2, h3 => by
    have h1' : p + (ds.length + 1) = 6 := h1
    have h2' : ds.length + 1 < n + 1 := h2
    have hp : J.1 12 p = nI d - 1 := h3 0 (by show 0 < ds.length + 1; omega)
    have ih := fun c => b_127N ds n (p + 1) c (by omega) (by omega) (fun j hj => by
      have := h3 (j + 1) (by show j + 1 < ds.length + 1; omega)
      rw [show p + 1 + j = p + (j + 1) by omega, this]; rfl)
    unfold fX5_best_127
    rw [if_neg (show ¬ (6 : Int32) ≤ nI p from nI_ge (b := 6) (by omega) (by omega)), if_pos rfl, ld_at (by omega) (by omega), hp, bnd, nI_1]
    by_cases z : nI d - 1 < 0
    · rw [if_pos z]; exact ih _
    · rw [if_neg z]; exact ih _
theorem b_127Z : ∀ (ds : List Nat) (n p c : Nat), p + ds.length = 6 → ds.length < n → c < p → (∀ d, d ∈ ds → d < 100) → (∀ j, j < ds.length → J.1 12 (p + j) = nI (ds.getD j 0) - 1) → if ds.all (fun d => d == 0) = true then fX5_best_127 u2 u3 u4 u5 J K n (nI c) 1 (nI p) = K (nI c) 1 else ∃ y3, fX5_best_127 u2 u3 u4 u5 J K n (nI c) 1 (nI p) = K y3 0
  | _, 0, _, _, _, h, _, _, _ => by omega
  | [], n + 1, p, c, h1, _, _, _, _ => by
    have : p = 6 := h1
    subst this
    rw [if_pos (show ([] : List Nat).all (fun d => d == 0) = true from rfl)]
    unfold fX5_best_127
    exact if_pos (by decide)
  | d :: ds, n + 1, p, c, h1, h2, hc, hd, h3 => by
    have h1' : p + (ds.length + 1) = 6 := h1
    have h2' : ds.length + 1 < n + 1 := h2
    have hp : J.1 12 p = nI d - 1 := h3 0 (by show 0 < ds.length + 1; omega)
    have hrow : ∀ j, j < ds.length → J.1 12 (p + 1 + j) = nI (ds.getD j 0) - 1 := fun j hj => by
      have := h3 (j + 1) (by show j + 1 < ds.length + 1; omega)
      rw [show p + 1 + j = p + (j + 1) by omega, this]; rfl
    have hdd := hd d (List.mem_cons_self ..)
    have ih := b_127Z ds n (p + 1) c (by omega) (by omega) (by omega) (fun d h => hd d (List.mem_cons_of_mem _ h)) hrow
    unfold fX5_best_127
    rw [if_neg (show ¬ (6 : Int32) ≤ nI p from nI_ge (b := 6) (by omega) (by omega)), if_neg n10, ld_at (by omega) (by omega), hp]
    simp only [bndp, nI_1, Int32.add_zero]
    by_cases z : d = 0
    · rw [if_pos ((dig_neg (by omega)).mpr z), if_pos ((dig_neg (by omega)).mpr z)]
      have e : (d :: ds).all (fun d => d == 0) = ds.all (fun d => d == 0) := by rw [z]; rfl
      rw [e]; exact ih
    · have z2 := fun q => z ((dig_neg (show d < 2 ^ 30 by omega)).mp q)
      have e : ¬ (d :: ds).all (fun d => d == 0) = true := by
        intro h
        have h' : ((d == 0) && ds.all (fun d => d == 0)) = true := h
        rw [Bool.and_eq_true, beq_iff_eq] at h'
        exact z h'.1
      rw [if_neg e, if_neg z2, if_neg (show ¬ nI c = nI p from fun q => by have := nIe q (by omega) (by omega); omega), if_neg z2]
      exact b_127N u2 u3 u4 u5 K ds n (p + 1) _ (by omega) (by omega) hrow
theorem b_127 : ∀ (ds ts : List Nat) (n p : Nat), p + ds.length = 6 → ds.length < n → ts.length + 1 = p → (∀ d, d ∈ ds → d < 100) → (∀ j, j < ds.length → J.1 12 (p + j) = nI (ds.getD j 0) - 1) → match fm ts ds with
    | some q => fX5_best_127 u2 u3 u4 u5 J K n (nI p) 1 (nI p) = K (nI (q.length + 1)) 1
    | none => ∃ y3, fX5_best_127 u2 u3 u4 u5 J K n (nI p) 1 (nI p) = K y3 0
  | _, _, 0, _, _, h, _, _, _ => by omega
  | [], ts, n + 1, p, h1, _, ht, _, _ => by
    have : p = 6 := h1
    subst this
    unfold fX5_best_127
    show (if _ then _ else _) = K (nI (ts.length + 1)) 1
    rw [if_pos (by decide), ht]
  | 0 :: ds, ts, n + 1, p, h1, h2, ht, hd, h3 => by
    have h1' : p + (ds.length + 1) = 6 := h1
    have h2' : ds.length + 1 < n + 1 := h2
    have hp : J.1 12 p = nI 0 - 1 := h3 0 (by show 0 < ds.length + 1; omega)
    have hrow : ∀ j, j < ds.length → J.1 12 (p + 1 + j) = nI (ds.getD j 0) - 1 := fun j hj => by
      have := h3 (j + 1) (by show j + 1 < ds.length + 1; omega)
      rw [show p + 1 + j = p + (j + 1) by omega, this]; rfl
    have ih := b_127Z u2 u3 u4 u5 K ds n (p + 1) p (by omega) (by omega) (by omega) (fun d h => hd d (List.mem_cons_of_mem _ h)) hrow
    have go : fX5_best_127 u2 u3 u4 u5 J K (n + 1) (nI p) 1 (nI p) = fX5_best_127 u2 u3 u4 u5 J K n (nI p) 1 (nI (p + 1)) := by
      show (if _ then _ else _) = _
      rw [if_neg (show ¬ (6 : Int32) ≤ nI p from nI_ge (b := 6) (by omega) (by omega)), if_neg n10, ld_at (by omega) (by omega), hp]
      simp only [bndp, nI_1, Int32.add_zero]
      rw [if_pos (show nI 0 - 1 < 0 by decide), if_pos (show nI 0 - 1 < 0 by decide)]
    have ef : fm ts (0 :: ds) = if ds.all (fun d => d == 0) = true then some ts else none := rfl
    rw [ef, go]
    by_cases a : ds.all (fun d => d == 0) = true
    · rw [if_pos a] at ih ⊢
      show _ = K (nI (ts.length + 1)) 1
      rw [ht]; exact ih
    · rw [if_neg a] at ih ⊢
      exact ih
  | (t + 1) :: ds, ts, n + 1, p, h1, h2, ht, hd, h3 => by
    have h1' : p + (ds.length + 1) = 6 := h1
    have h2' : ds.length + 1 < n + 1 := h2
    have hp : J.1 12 p = nI (t + 1) - 1 := h3 0 (by show 0 < ds.length + 1; omega)
    have hrow : ∀ j, j < ds.length → J.1 12 (p + 1 + j) = nI (ds.getD j 0) - 1 := fun j hj => by
      have := h3 (j + 1) (by show j + 1 < ds.length + 1; omega)
      rw [show p + 1 + j = p + (j + 1) by omega, this]; rfl
    have hdd := hd (t + 1) (List.mem_cons_self ..)
    have ih := b_127 ds (ts ++ [t]) n (p + 1) (by omega) (by omega) (by rw [List.length_append]; show ts.length + 1 + 1 = p + 1; omega) (fun d h => hd d (List.mem_cons_of_mem _ h)) hrow
    have z2 : ¬ nI (t + 1) - 1 < 0 := by rw [nI_pred]; exact nI_pos (by omega)
    have go : fX5_best_127 u2 u3 u4 u5 J K (n + 1) (nI p) 1 (nI p) = fX5_best_127 u2 u3 u4 u5 J K n (nI (p + 1)) 1 (nI (p + 1)) := by
      show (if _ then _ else _) = _
      rw [if_neg (show ¬ (6 : Int32) ≤ nI p from nI_ge (b := 6) (by omega) (by omega)), if_neg n10, ld_at (by omega) (by omega), hp]
      simp only [bndp, nI_1, Int32.add_zero]
      rw [if_neg z2, if_pos True.intro, if_neg z2]
    have ef : fm ts ((t + 1) :: ds) = fm (ts ++ [t]) ds := rfl
    rw [ef, go]
    exact ih
end CHK
theorem fm_shape : ∀ (ds ts q : List Nat), fm ts ds = some q → ∃ r, q = ts ++ r ∧ r.length ≤ ds.length ∧ ∀ j, j < r.length → ds.getD j 0 = r.getD j 0 + 1
  | [], ts, q, h => by cases h; exact ⟨[], by simp, Nat.le_refl _, fun j hj => absurd hj (Nat.not_lt_zero j)⟩
  | 0 :: ds, ts, q, h => by
    have ef : fm ts (0 :: ds) = if ds.all (fun d => d == 0) = true then some ts else none := rfl
    rw [ef] at h
    by_cases a : ds.all (fun d => d == 0) = true
    · rw [if_pos a] at h
      cases h
      exact ⟨[], by simp, Nat.zero_le _, fun j hj => absurd hj (Nat.not_lt_zero j)⟩
    · rw [if_neg a] at h; cases h
  | (t + 1) :: ds, ts, q, h => by
    obtain ⟨r, h1, h2, h3⟩ := fm_shape ds (ts ++ [t]) q h
    refine ⟨t :: r, by rw [h1, List.append_assoc]; rfl, by show r.length + 1 ≤ ds.length + 1; omega, fun j hj => ?_⟩
    cases j with
    | zero => rfl
    | succ j => exact h3 j (by have : j + 1 < r.length + 1 := hj; omega)
theorem b_221 (u2 u3 u4 u5 : Int32) (K : Mem → Option (Int32 × Mem)) {len : Nat} (hl : len ≤ 6) : ∀ (n i : Nat) (J : Mem), i ≤ 6 → 6 < i + n → ∃ J', (∀ q, q ≠ 13 → J'.1 q = J.1 q) ∧ J'.2 = J.2 ∧ (∀ j, j < i → J'.1 13 j = J.1 13 j) ∧ (∀ j, i ≤ j → j < 6 → J'.1 13 j = if j < len then J.1 12 j else -9) ∧ fX5_best_221 u2 u3 u4 u5 (nI len) K n (nI i) J = K J'
  | 0, i, J, h1, h2 => by omega
  | n + 1, i, J, h1, h2 => by
    unfold fX5_best_221
    by_cases e : i = 6
    · subst e
      exact ⟨J, fun _ _ => rfl, rfl, fun _ _ => rfl, fun j a b => by omega, if_pos (by decide)⟩
    have hi : i < 6 := by omega
    rw [if_neg (show ¬ (6 : Int32) ≤ nI i from nI_ge (b := 6) hi (by omega)), sta_at hi (by omega), bnd, ld_at hi (by omega), bnd, sta_at hi (by omega), bnd, nI_1]
    have step : ∀ x : Int32, x = (if i < len then J.1 12 i else -9) → ∃ J', (∀ q, q ≠ 13 → J'.1 q = J.1 q) ∧ J'.2 = J.2 ∧ (∀ j, j < i → J'.1 13 j = J.1 13 j) ∧ (∀ j, i ≤ j → j < 6 → J'.1 13 j = if j < len then J.1 12 j else -9) ∧ fX5_best_221 u2 u3 u4 u5 (nI len) K n (nI (i + 1)) (ms J 13 i x) = K J' := by
      intro x hx
      obtain ⟨J', a1, a2, a3, a4, a5⟩ := b_221 u2 u3 u4 u5 K hl n (i + 1) (ms J 13 i x) (by omega) (by omega)
      refine ⟨J', fun q hq => by rw [a1 q hq, ms_row hq], a2, fun j hj => by rw [a3 j (by omega), ms_ne (Or.inr (by omega))], fun j g1 g2 => ?_, a5⟩
      by_cases z : j = i
      · subst z; rw [a3 j (by omega), ms_eq, hx]
      · rw [a4 j (by omega) g2, ms_ne (by omega)]
    by_cases c : len ≤ i
    · rw [if_pos (nI_le c (by omega))]
      exact step _ (by rw [if_neg (by omega)])
    · rw [if_neg (nI_ge (by omega) (by omega))]
      exact step _ (by rw [if_pos (by omega)])
/-- the reference's best so far -/
def BSr (s : BSt) (J : Mem) : Prop := s.2 ≠ [] → s.2.length ≤ 6 ∧ ∀ i, i < 6 → J.1 13 i = if i < s.2.length then nI (s.2.getD i 0) else -9
theorem b_65 {L : Lnd} (hL : Lok L) {t0 : Nat} (ht0 : t0 < lT L) (u2 : Int32) (K : Int32 → Mem → Option (Int32 × Mem)) {J0 : Mem} (hR : LR L J0.1) (hm : LRm L J0.1) : ∀ (n v : Nat) (s : BSt) (J : Mem), v ≤ (lT L + 1) ^ 5 → (lT L + 1) ^ 5 < v + n → sJ J0 J → J.1 12 0 = nI t0 → BSr s J → NOi ≤ s.1 → ∃ J', fX5_best_65 u2 (nI ((lT L + 1) ^ 5)) K n s.1 (nI v) J = K (((List.range ((lT L + 1) ^ 5)).drop v).foldl (cst L t0 5 []) s).1 J' ∧ sJ J0 J' ∧ BSr (((List.range ((lT L + 1) ^ 5)).drop v).foldl (cst L t0 5 []) s) J'
  | 0, v, s, J, h1, h2, _, _, _, _ => by omega
  | n + 1, v, s, J, h1, h2, hs, h0, hb, ho => by
    have hT := hL.1
    have hP : (lT L + 1) ^ 5 ≤ 16807 := by
      have : (lT L + 1) ^ 5 ≤ 7 ^ 5 := Nat.pow_le_pow_left (by omega) 5
      omega
    unfold fX5_best_65
    by_cases e : v = (lT L + 1) ^ 5
    · rw [if_pos (by rw [e]; exact Int32.le_refl _), e, List.drop_eq_nil_of_le (by rw [List.length_range]; exact Nat.le_refl _)]
      exact ⟨J, rfl, hs, hb⟩
    have hv : v < (lT L + 1) ^ 5 := by omega
    have hv2 : v < (List.range ((lT L + 1) ^ 5)).length := by rw [List.length_range]; exact hv
    have hR1 := hR.sJ hs
    have hm1 := hm.sJ hs
    rw [if_neg (nI_ge hv (by omega)), List.drop_eq_getElem_cons hv2, List.getElem_range, List.foldl_cons]
    obtain ⟨J1, a1, a2, a3, a4, a5⟩ := b_84 hL u2 (nI ((lT L + 1) ^ 5)) s.1 (nI v) 1 1 (fun M2 => (fX5_best_127 u2 (nI ((lT L + 1) ^ 5)) s.1 (nI v) M2 (fun y3 y4 => (if y4 = 0 then (if (-1000000 : Int32) ≤ s.1 then (fX5_best_65 u2 (nI ((lT L + 1) ^ 5)) K n s.1 ((nI v) + 1) M2) else (fX5_best_221 u2 (nI ((lT L + 1) ^ 5)) (-1000000 : Int32) (nI v) y3 (fun M7 => (fX5_best_65 u2 (nI ((lT L + 1) ^ 5)) K n (-1000000 : Int32) ((nI v) + 1) M7)) mF (0 : Int32) M2)) else (Option.bind (fX5_worthOf y3 M2) fun x8 => (if x8 ≤ s.1 then (fX5_best_65 u2 (nI ((lT L + 1) ^ 5)) K n s.1 ((nI v) + 1) M2) else (fX5_best_221 u2 (nI ((lT L + 1) ^ 5)) x8 (nI v) y3 (fun M10 => (fX5_best_65 u2 (nI ((lT L + 1) ^ 5)) K n x8 ((nI v) + 1) M10)) mF (0 : Int32) M2))))) mF (1 : Int32) (1 : Int32) (1 : Int32))) 5 mF v J (by omega) (by unfold mF; omega) (by omega) hR1.1
    have s1 : sJ J J1 := ⟨fun q b c => a1 q (by omega), ⟨by rw [a1 0 (by omega)], by rw [a1 0 (by omega)], by rw [a1 0 (by omega)], by rw [a1 0 (by omega)]⟩, a2⟩
    have s01 := hs.trans s1
    have h01 : J1.1 12 0 = nI t0 := by rw [a3 0 (Or.inr rfl)]; exact h0
    have hb1 : BSr s J1 := by unfold BSr at hb ⊢; rw [a1 13 (by omega)]; exact hb
    have row : ∀ j, j < (dl (lT L + 1) 5 v).length → J1.1 12 (1 + j) = nI ((dl (lT L + 1) 5 v).getD j 0) - 1 := by
      intro j hj
      rw [dl_len] at hj
      rw [dl_at _ 5 v j hj, a4 (1 + j) (by omega) (by omega), show 5 - (1 + j) = 5 - 1 - j by omega]
    have hdl : ∀ d, d ∈ dl (lT L + 1) 5 v → d < lT L + 1 := fun d hd => dl_lt (by omega) 5 v d hd
    rw [show (5 : Int32) = nI 5 from rfl, a5, nI_1]
    have chk := b_127 (J := J1) u2 (nI ((lT L + 1) ^ 5)) s.1 (nI v) (fun y3 y4 => (if y4 = 0 then (if (-1000000 : Int32) ≤ s.1 then (fX5_best_65 u2 (nI ((lT L + 1) ^ 5)) K n s.1 ((nI v) + 1) J1) else (fX5_best_221 u2 (nI ((lT L + 1) ^ 5)) (-1000000 : Int32) (nI v) y3 (fun M7 => (fX5_best_65 u2 (nI ((lT L + 1) ^ 5)) K n (-1000000 : Int32) ((nI v) + 1) M7)) mF (0 : Int32) J1)) else (Option.bind (fX5_worthOf y3 J1) fun x8 => (if x8 ≤ s.1 then (fX5_best_65 u2 (nI ((lT L + 1) ^ 5)) K n s.1 ((nI v) + 1) J1) else (fX5_best_221 u2 (nI ((lT L + 1) ^ 5)) x8 (nI v) y3 (fun M10 => (fX5_best_65 u2 (nI ((lT L + 1) ^ 5)) K n x8 ((nI v) + 1) M10)) mF (0 : Int32) J1))))) (dl (lT L + 1) 5 v) [] mF 1 (by rw [dl_len]) (by rw [dl_len]; unfold mF; omega) rfl (fun d hd => by have := hdl d hd; omega) row
    have ec : cst L t0 5 [] s v = match fm [] (dl (lT L + 1) 5 v) with | none => s | some q => bstep L t0 s q := rfl
    rw [ec]
    cases ef : fm [] (dl (lT L + 1) 5 v) with
    | none =>
      rw [ef] at chk
      obtain ⟨y3, hy⟩ := chk
      have hy' := hy.trans (if_pos rfl)
      rw [if_pos ho, nI_1, show nI 1 = (1 : Int32) from rfl] at hy'
      obtain ⟨J', p1, p2, p3⟩ := b_65 hL ht0 u2 K hR hm n (v + 1) s J1 (by omega) (by omega) s01 h01 hb1 ho
      rw [hy']
      exact ⟨J', p1, p2, p3⟩
    | some q =>
      rw [ef] at chk
      have chk' := chk.trans (if_neg n10)
      obtain ⟨r, hr1, hr2, hr3⟩ := fm_shape _ [] q ef
      have hrq : q = r := hr1
      subst hrq
      rw [dl_len] at hr2
      have hq : ∀ t, t ∈ q → t < lT L := by
        intro t ht
        obtain ⟨j, hj, rfl⟩ := List.getElem_of_mem ht
        have g1 := hr3 j hj
        have g2 : (dl (lT L + 1) 5 v).getD j 0 ∈ dl (lT L + 1) 5 v := by
          have hj2 : j < (dl (lT L + 1) 5 v).length := by rw [dl_len]; omega
          rw [getD_at hj2]; exact List.getElem_mem hj2
        have g3 := hdl _ g2
        rw [getD_at hj] at g1
        omega
      have rowq : ∀ i, i < q.length + 1 → J1.1 12 i = nI ((t0 :: q).getD i 0) := by
        intro i hi
        cases i with
        | zero => exact h01
        | succ j =>
          have g1 := hr3 j (by omega)
          have g2 := row j (by rw [dl_len]; omega)
          rw [Nat.add_comm j 1, g2, g1, nI_pred, Nat.add_comm 1 j]; rfl
      have hw := r_worth hL (hR.sJ s01) (hm.sJ s01) ht0 (by omega) hq rowq
      rw [hw, bnd, nI_1, show nI 1 = (1 : Int32) from rfl] at chk'
      dsimp only
      have hbs : bstep L t0 s q = if wof L t0 q ≤ s.1 then s else (wof L t0 q, t0 :: q) := rfl
      have hok := bstep_ok (L := L) (t0 := t0) (ts := q) ho
      rw [hbs] at hok
      rw [hbs]
      by_cases c : wof L t0 q ≤ s.1
      · rw [if_pos c] at chk'
        rw [if_pos c]
        obtain ⟨J', p1, p2, p3⟩ := b_65 hL ht0 u2 K hR hm n (v + 1) s J1 (by omega) (by omega) s01 h01 hb1 ho
        rw [chk']
        exact ⟨J', p1, p2, p3⟩
      · rw [if_neg c] at chk' hok
        rw [if_neg c]
        obtain ⟨J2, g1, g2, g3, g4, g5⟩ := b_221 u2 (nI ((lT L + 1) ^ 5)) (wof L t0 q) (nI v) (fun M10 => (fX5_best_65 u2 (nI ((lT L + 1) ^ 5)) K n (wof L t0 q) (nI (v + 1)) M10)) (len := q.length + 1) (by omega) mF 0 J1 (by omega) (fuel (by omega))
        rw [nI_0] at g5
        have s2 : sJ J1 J2 := ⟨fun q b c => g1 q (by omega), ⟨by rw [g1 0 (by omega)], by rw [g1 0 (by omega)], by rw [g1 0 (by omega)], by rw [g1 0 (by omega)]⟩, g2⟩
        obtain ⟨J', p1, p2, p3⟩ := b_65 hL ht0 u2 K hR hm n (v + 1) (wof L t0 q, t0 :: q) J2 (by omega) (by omega) (s01.trans s2) (by rw [g1 12 (by omega)]; exact h01) (fun _ => ⟨by show q.length + 1 ≤ 6; omega, fun i hi => by
          rw [g4 i (by omega) hi]
          show _ = if i < q.length + 1 then nI ((t0 :: q).getD i 0) else -9
          by_cases w : i < q.length + 1
          · rw [if_pos w, if_pos w, rowq i w]
          · rw [if_neg w, if_neg w]⟩) hok
        rw [chk', g5]
        exact ⟨J', p1, p2, p3⟩
theorem inv_frb {L : Lnd} {M M' J : Mem} (h : InvL L M J) (g : frb 0 M M') : InvL L M' J := by
  have hh := h
  obtain ⟨h1, h2, h3, h4, h6, h7, h8, h9, h10⟩ := hh
  refine inv_frame h (g.1 0 (by omega) (by omega) (by omega)) (fun q a b => g.1 q (by omega) (by omega) (by omega)) (sjL.refl J) (h6.congr (by rw [g.1 1 (by omega) (by omega) (by omega)]) (g.1 2 (by omega) (by omega) (by omega)) rfl rfl) (h7.congr (fun i hi => g.1 _ (by omega) (by omega) (by omega)) rfl) (h8.congr (fun i hi => g.1 _ (by omega) (by omega) (by omega)) rfl rfl) (h9.congr (fun i hi => g.1 _ (by omega) (by omega) (by omega)) rfl rfl) (g.2.2.trans h10)
theorem pu_best (a1 : Int32) (a2 : Int32) {M J : Mem} (hI : Inv M J) : ∃ (r : Int32) (M1 J1 : Mem), fX4_best a1 a2 M = some (r, M1) ∧ fX5_best a1 a2 J = some (r, J1) ∧ Inv M1 J1 := by
  obtain ⟨L, hI⟩ := hI
  have hJ := inv_th hI
  unfold fX4_best fX5_best
  rw [bnd]
  generalize ms J 0 0 0 = J1 at hJ ⊢
  have hK := hJ
  have hk : Inv M J1 := ⟨L, hK⟩
  obtain ⟨hL, h2, ⟨hC, hCm⟩, ⟨hR, hRm⟩, -⟩ := hJ
  have hT := hL.1
  by_cases q : bad (lT L) a1
  · refine ⟨-1000000, M, J1, ?_, ?_, hk⟩ <;> simp only [c_isTown hC.1, r_isTown hL hR.1, q, bndp, ↓reduceIte]
  by_cases c1 : a2 < -1
  · refine ⟨-1000000, M, J1, ?_, ?_, hk⟩ <;> simp only [c_isTown hC.1, r_isTown hL hR.1, q, c1, fX5_in_no (lo := -1) (hi := 5) (Or.inl c1), n10, bndp, ↓reduceIte]
  by_cases c2 : a2 < 6
  · obtain ⟨t0, ht0, rfl⟩ := nbad (by omega) q
    have c3 : ¬ 5 < a2 := fun z => by
      rcases ixs a2 6 (by omega) with ⟨j, hj, rfl⟩ | h | h
      · exact nI_nlt (a := 5) (b := j) (by omega) (by omega) z
      · exact absurd (Int32.lt_trans z h) (by decide)
      · exact nlt_of_le h c2
    have cY := fX5_in_yes (lo := -1) (hi := 5) c1 c3
    have hb := lp_le (M.1 0 1)
    obtain ⟨M', f1, f2, f3⟩ := c_find hL hb.2 ht0 hC hCm
    have hP : (lT L + 1) ^ 5 ≤ 16807 := by
      have : (lT L + 1) ^ 5 ≤ 7 ^ 5 := Nat.pow_le_pow_left (by omega) 5
      omega
    have g30 := b_30 hL hR.1 (nI t0) a2 (fun y6 => (Option.bind (sta J1 12 6 (0 : Int32) (nI t0)) fun M7 => (fX5_best_65 a2 y6 (fun y8 M9 => (if 0 ≤ a2 then (Option.bind (ld (M9.1 13) 6 a2) fun x11 => some (x11, M9)) else some (y8, M9))) mF (-1000000 : Int32) (0 : Int32) M7))) mF 0 (by omega) (fuel (by omega))
    have s0 : sJ J1 (ms J1 12 0 (nI t0)) := sJ.arr _ _ _ (by omega)
    obtain ⟨J', p1, p2, p3⟩ := b_65 hL ht0 a2 (fun y8 M9 => (if 0 ≤ a2 then (Option.bind (ld (M9.1 13) 6 a2) fun x11 => some (x11, M9)) else some (y8, M9))) hR hRm mF 0 (NOi, []) (ms J1 12 0 (nI t0)) (by omega) (by unfold mF; omega) s0 (ms_eq _ _ _ _) (fun h => absurd rfl h) (Int32.le_refl _)
    rw [List.drop_zero, cst_all] at p1 p3
    have hne : (Fb L t0 5 [] (NOi, [])).2 ≠ [] := by
      show ((List.range (lT L)).foldl (fun s t => Fb L t0 4 ([] ++ [t]) s) (bstep L t0 (NOi, []) [])).2 ≠ []
      refine foldl_inv (fun s t => Fb L t0 4 ([] ++ [t]) s) (fun s : BSt => s.2 ≠ []) (fun s t hs => Fb_ne 4 _ s hs) _ _ ?_
      have ew : wof L t0 [] = nI (L 1 t0) - nI 0 := by
        unfold wof
        show (match dist L t0 t0 with | none => NOi | some d => nI (L 1 t0) - nI d) = _
        rw [dist_diag hL]
      unfold bstep
      rw [ew, pk_sub (by omega), if_neg (by
        intro z
        have h1 : L 1 t0 ≤ 99 := hL.2.2.2.1 t0 ht0
        have h2 := nI_pos' (show L 1 t0 - 0 < 2 ^ 31 by omega)
        exact absurd (Int32.le_trans h2 z) (by decide))]
      simp
    have gJ : fX5_best_30 (nI t0) a2 J1 (fun y6 => (Option.bind (sta J1 12 6 (0 : Int32) (nI t0)) fun M7 => (fX5_best_65 a2 y6 (fun y8 M9 => (if 0 ≤ a2 then (Option.bind (ld (M9.1 13) 6 a2) fun x11 => some (x11, M9)) else some (y8, M9))) mF (-1000000 : Int32) (0 : Int32) M7))) mF (1 : Int32) (0 : Int32) = (if 0 ≤ a2 then (Option.bind (ld (J'.1 13) 6 a2) fun x11 => some (x11, J')) else some ((Fb L t0 5 [] (NOi, [])).1, J')) := by
      refine g30.trans ?_
      rw [sta_0 (by omega) (by omega), bnd]
      exact p1
    generalize Fb L t0 5 [] (NOi, []) = S at f2 p3 hne gJ
    have hInv : Inv M' J' := ⟨L, inv_sJ (inv_frb hK f3) p2⟩
    obtain ⟨q1, q2⟩ := p3 hne
    by_cases c4 : a2 = -1
    · subst c4
      have n9 : ¬ (0 : Int32) ≤ -1 := by decide
      rw [if_neg n9] at gJ
      refine ⟨S.1, M', J', ?_, ?_, hInv⟩
      · simp only [c_isTown hC.1, q, c1, c2, n10, bndp, f1, f2.1, ↓reduceIte]
      · simp only [r_isTown hL hR.1, q, cY, n10, bndp, ↓reduceIte]
        exact gJ
    · obtain ⟨i, hi, rfl⟩ : ∃ i, i < 6 ∧ a2 = nI i := by
        rcases ixs a2 6 (by omega) with ⟨j, hj, e⟩ | h | h
        · exact ⟨j, hj, e⟩
        · exfalso
          have h5 := Int32.lt_iff_toInt_lt.mp h
          have h6 : ¬ a2.toInt < (-1 : Int32).toInt := fun z => c1 (Int32.lt_iff_toInt_lt.mpr z)
          have h7 : a2.toInt ≠ (-1 : Int32).toInt := fun z => c4 (Int32.toInt_inj.mp z)
          have e0 : (0 : Int32).toInt = 0 := by decide
          have e1 : (-1 : Int32).toInt = -1 := by decide
          omega
        · exact absurd c2 (nlt_of_le h)
      rw [if_pos (nI_pos' (by omega)), ld_at hi (by omega), q2 i hi, bnd] at gJ
      have n0 : ¬ nI i < 0 := nI_pos (by omega)
      have ct : fX0_townOf (nI i) M' = some (if i < S.2.length then nI (S.2.getD i 0) else -9) := by
        unfold fX0_townOf
        rw [if_neg n0, f2.2.1]
        by_cases w : i < S.2.length
        · rw [if_neg (nI_ge w (by omega)), ld_at hi (by omega), f2.2.2.2 i w, bnd, if_pos w]
        · rw [if_pos (nI_le (by omega) (by omega)), if_neg w]
      refine ⟨if i < S.2.length then nI (S.2.getD i 0) else -9, M', J', ?_, ?_, hInv⟩
      · rw [c_isTown hC.1, if_neg q, bnd, if_neg n10, if_neg c1, if_pos c2, f1, bnd, if_neg c4, ct, bnd]
      · rw [r_isTown hL hR.1, if_neg q, bnd, if_neg n10, cY, bnd, if_neg n10]
        exact gJ
  · have c3 : 5 < a2 := by
      refine Int32.not_le.mp fun z => c2 ?_
      exact Int32.lt_of_le_of_lt z (by decide)
    refine ⟨-1000000, M, J1, ?_, ?_, hk⟩ <;> simp only [c_isTown hC.1, r_isTown hL hR.1, q, c1, c2, fX5_in_no (lo := -1) (hi := 5) (Or.inr c3), n10, bndp, ↓reduceIte]
