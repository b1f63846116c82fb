/-! the best closed way -/
theorem bit_c : ∀ (m : Fin 64) (t : Fin 6), ((nI m.val &&& ((1 : Int32) <<< (nI t.val &&& 31))) = 0) ↔ m.val.testBit t.val = false := by decide +kernel
theorem bit_o : ∀ (m : Fin 64) (t : Fin 6), nI m.val ||| ((1 : Int32) <<< (nI t.val &&& 31)) = nI (m.val ||| 2 ^ t.val) := by decide +kernel
theorem bit_r : ∀ (m : Fin 64) (t : Fin 6), (((nI m.val >>> (nI t.val &&& 31)) &&& (1 : Int32)) = 1) ↔ m.val.testBit t.val = true := by decide +kernel
theorem bit_1 : ∀ t : Fin 6, ((1 : Int32) <<< (nI t.val &&& 31)) = nI (2 ^ t.val) := by decide +kernel
theorem bit_lt {m t : Nat} (hm : m < 64) (ht : t < 6) : m ||| 2 ^ t < 64 := by
  have h : 2 ^ t < 2 ^ 6 := Nat.pow_lt_pow_right (by omega) ht
  exact Nat.or_lt_two_pow (n := 6) hm h
abbrev NOi : Int32 := -1000000
/-- on from the town l, seen the towns m, with w so far -/
def run (L : Lnd) : Nat → Nat → Int32 → List Nat → Option (Nat × Nat × Int32)
  | l, m, w, [] => some (l, m, w)
  | l, m, w, t :: ts => if m.testBit t = true then none else match dist L l t with
    | none => none
    | some d => run L t (m ||| 2 ^ t) ((w + nI (L 1 t)) - nI d) ts
abbrev run0 (L : Lnd) (t0 : Nat) (ts : List Nat) : Option (Nat × Nat × Int32) := run L t0 (2 ^ t0) (nI (L 1 t0)) ts
def stp1 (L : Lnd) (x : Nat × Nat × Int32) (t : Nat) : Option (Nat × Nat × Int32) := if x.2.1.testBit t = true then none else match dist L x.1 t with
    | none => none
    | some d => some (t, x.2.1 ||| 2 ^ t, (x.2.2 + nI (L 1 t)) - nI d)
theorem run_snoc (L : Lnd) : ∀ (ts : List Nat) (l m : Nat) (w : Int32) (t : Nat), run L l m w (ts ++ [t]) = (run L l m w ts).bind (fun x => stp1 L x t)
  | [], l, m, w, t => by
    show (if m.testBit t = true then none else match dist L l t with | none => none | some d => run L t (m ||| 2 ^ t) ((w + nI (L 1 t)) - nI d) []) = stp1 L (l, m, w) t
    rfl
  | y :: ys, l, m, w, t => by
    show (if m.testBit y = true then none else match dist L l y with | none => none | some d => run L y (m ||| 2 ^ y) ((w + nI (L 1 y)) - nI d) (ys ++ [t])) = Option.bind (if m.testBit y = true then none else match dist L l y with | none => none | some d => run L y (m ||| 2 ^ y) ((w + nI (L 1 y)) - nI d) ys) _
    by_cases c : m.testBit y = true
    · rw [if_pos c, if_pos c]; rfl
    · rw [if_neg c, if_neg c]
      cases dist L l y with
      | none => rfl
      | some d => exact run_snoc L ys _ _ _ t
/-- what the closed way t0, ts is worth -/
def wof (L : Lnd) (t0 : Nat) (ts : List Nat) : Int32 := match run0 L t0 ts with
  | none => NOi
  | some x => match dist L x.1 t0 with
    | none => NOi
    | some d => x.2.2 - nI d
abbrev BSt : Type := Int32 × List Nat
def bstep (L : Lnd) (t0 : Nat) (s : BSt) (ts : List Nat) : BSt := if wof L t0 ts ≤ s.1 then s else (wof L t0 ts, t0 :: ts)
def Fb (L : Lnd) (t0 : Nat) : Nat → List Nat → BSt → BSt
  | 0, ts, s => bstep L t0 s ts
  | k + 1, ts, s => (List.range (lT L)).foldl (fun s t => Fb L t0 k (ts ++ [t]) s) (bstep L t0 s ts)
theorem foldl_same {α β : Type} (f : β → α → β) (s : β) : ∀ l : List α, (∀ t, f s t = s) → l.foldl f s = s
  | [], _ => rfl
  | a :: l, h => by rw [List.foldl_cons, h a]; exact foldl_same f s l h
theorem foldl_inv {α β : Type} (f : β → α → β) (P : β → Prop) (h : ∀ s t, P s → P (f s t)) : ∀ (l : List α) (s : β), P s → P (l.foldl f s)
  | [], _, hs => hs
  | a :: l, s, hs => by rw [List.foldl_cons]; exact foldl_inv f P h l _ (h s a hs)
theorem bstep_ok {L : Lnd} {t0 : Nat} {s : BSt} {ts : List Nat} (h : NOi ≤ s.1) : NOi ≤ (bstep L t0 s ts).1 := by
  unfold bstep
  by_cases c : wof L t0 ts ≤ s.1
  · rw [if_pos c]; exact h
  · rw [if_neg c]; exact Int32.le_trans h (Int32.le_of_lt (lt_of_nle c))
theorem Fb_ok {L : Lnd} {t0 : Nat} : ∀ (k : Nat) (ts : List Nat) (s : BSt), NOi ≤ s.1 → NOi ≤ (Fb L t0 k ts s).1
  | 0, ts, s, h => bstep_ok h
  | k + 1, ts, s, h => by
    show NOi ≤ ((List.range (lT L)).foldl (fun s t => Fb L t0 k (ts ++ [t]) s) (bstep L t0 s ts)).1
    refine foldl_inv (fun s t => Fb L t0 k (ts ++ [t]) s) (fun s : BSt => NOi ≤ s.1) (fun s t hs => ?_) _ _ (bstep_ok h)
    exact Fb_ok k (ts ++ [t]) s hs
theorem bstep_ne {L : Lnd} {t0 : Nat} {s : BSt} {ts : List Nat} (h : s.2 ≠ []) : (bstep L t0 s ts).2 ≠ [] := by
  unfold bstep
  by_cases c : wof L t0 ts ≤ s.1
  · rw [if_pos c]; exact h
  · rw [if_neg c]; simp
theorem Fb_ne {L : Lnd} {t0 : Nat} : ∀ (k : Nat) (ts : List Nat) (s : BSt), s.2 ≠ [] → (Fb L t0 k ts s).2 ≠ []
  | 0, ts, s, h => bstep_ne h
  | k + 1, ts, s, h => by
    show ((List.range (lT L)).foldl (fun s t => Fb L t0 k (ts ++ [t]) s) (bstep L t0 s ts)).2 ≠ []
    refine foldl_inv (fun s t => Fb L t0 k (ts ++ [t]) s) (fun s : BSt => s.2 ≠ []) (fun s t hs => ?_) _ _ (bstep_ne h)
    exact Fb_ne k (ts ++ [t]) s hs
theorem wof_none {L : Lnd} {t0 : Nat} {ts : List Nat} (h : run0 L t0 ts = none) : wof L t0 ts = NOi := by unfold wof; rw [h]
/-- a way that can't be begun so is worth nothing, nor any that goes on from it -/
theorem Fb_cut {L : Lnd} {t0 : Nat} : ∀ (k : Nat) (ts : List Nat) (s : BSt), run0 L t0 ts = none → NOi ≤ s.1 → Fb L t0 k ts s = s
  | 0, ts, s, h, hs => by
    show bstep L t0 s ts = s
    unfold bstep
    rw [wof_none h, if_pos hs]
  | k + 1, ts, s, h, hs => by
    show (List.range (lT L)).foldl (fun s t => Fb L t0 k (ts ++ [t]) s) (bstep L t0 s ts) = s
    have e : bstep L t0 s ts = s := by unfold bstep; rw [wof_none h, if_pos hs]
    rw [e]
    refine foldl_same _ s _ (fun t => ?_)
    exact Fb_cut k (ts ++ [t]) s (by show run L t0 _ _ (ts ++ [t]) = none; rw [run_snoc, show run L t0 (2 ^ t0) (nI (L 1 t0)) ts = none from h]; rfl) hs
/-- what a run keeps: town, mask, that it is reached -/
theorem run_ok {L : Lnd} {t0 : Nat} (ht0 : t0 < lT L) (hT : lT L ≤ 6) : ∀ (ts : List Nat) (l m : Nat) (w : Int32) (x : Nat × Nat × Int32), l < lT L → m < 64 → (dist L t0 l).isSome = true → (∀ t, t ∈ ts → t < lT L) → run L l m w ts = some x → x.1 < lT L ∧ x.2.1 < 64 ∧ (dist L t0 x.1).isSome = true
  | [], l, m, w, x, h1, h2, h3, _, h => by cases h; exact ⟨h1, h2, h3⟩
  | t :: ts, l, m, w, x, h1, h2, h3, h4, h => by
    unfold run at h
    by_cases c : m.testBit t = true
    · rw [if_pos c] at h; cases h
    rw [if_neg c] at h
    have ht := h4 t (List.mem_cons_self ..)
    cases e : dist L l t with
    | none => rw [e] at h; cases h
    | some d =>
      rw [e] at h
      exact run_ok ht0 hT ts t _ _ x ht (bit_lt h2 (by omega)) (dist_tr h1 h3 (by rw [e]; rfl)) (fun t ht => h4 t (List.mem_cons_of_mem _ ht)) h
theorem run_last {L : Lnd} : ∀ (ts : List Nat) (l m : Nat) (w : Int32) (x : Nat × Nat × Int32), run L l m w ts = some x → (l :: ts).getD ts.length 0 = x.1
  | [], l, m, w, x, h => by cases h; rfl
  | t :: ts, l, m, w, x, h => by
    unfold run at h
    by_cases c : m.testBit t = true
    · rw [if_pos c] at h; cases h
    rw [if_neg c] at h
    cases e : dist L l t with
    | none => rw [e] at h; cases h
    | some d =>
      rw [e] at h
      exact run_last ts t _ _ x h
/-! the class's search -/
/-- the class's best so far -/
def BSc (s : BSt) (M : Mem) : Prop := M.1 25 3 = s.1 ∧ M.1 25 2 = nI s.2.length ∧ s.2.length ≤ 6 ∧ ∀ i, i < s.2.length → M.1 27 i = nI (s.2.getD i 0)
def cur (l : List Nat) (M : Mem) : Prop := ∀ i, i < l.length → M.1 26 i = nI (l.getD i 0)
def frb (n : Nat) (M M' : Mem) : Prop := (∀ q, q ≠ 25 → q ≠ 26 → q ≠ 27 → M'.1 q = M.1 q) ∧ (∀ i, i < n → M'.1 26 i = M.1 26 i) ∧ M'.2 = M.2
theorem frb.refl (n : Nat) (M : Mem) : frb n M M := ⟨fun _ _ _ _ => rfl, fun _ _ => rfl, rfl⟩
theorem frb.trans {n : Nat} {M M1 M2 : Mem} (h : frb n M M1) (g : frb n M1 M2) : frb n M M2 := ⟨fun q a b c => (g.1 q a b c).trans (h.1 q a b c), fun i hi => (g.2.1 i hi).trans (h.2.1 i hi), g.2.2.trans h.2.2⟩
theorem frb.le {n n' : Nat} {M M' : Mem} (h : frb n M M') (hn : n' ≤ n) : frb n' M M' := ⟨h.1, fun i hi => h.2.1 i (by omega), h.2.2⟩
theorem cur.frb {l : List Nat} {n : Nat} {M M' : Mem} (h : cur l M) (g : frb n M M') (hn : l.length ≤ n) : cur l M' := fun i hi => (g.2.1 i (by omega)).trans (h i hi)
theorem LC.frb {b : Nat} (hb : b + 10 ≤ 24) {L : Lnd} {n : Nat} {M M' : Mem} (h : LC b L M.1) (g : frb n M M') : LC b L M'.1 := h.congr (fun i hi => g.1 _ (by omega) (by omega) (by omega))
theorem LCm.frb {b : Nat} (hb : b + 10 ≤ 24) {L : Lnd} {n : Nat} {M M' : Mem} (h : LCm b L M.1) (g : frb n M M') : LCm b L M'.1 := h.congr (fun i hi => g.1 _ (by omega) (by omega) (by omega))
theorem off_27 {l : List Nat} (hl : l.length ≤ 6) : ∀ (n k : Nat) (M : Mem), k ≤ l.length → l.length < k + n → cur l M → (∀ i, i < k → M.1 27 i = nI (l.getD i 0)) → ∃ M', fX0_offer_27 (nI l.length) (fun M5 => some M5) n (nI k) M = some M' ∧ (∀ q, q ≠ 27 → M'.1 q = M.1 q) ∧ M'.2 = M.2 ∧ (∀ i, i < l.length → M'.1 27 i = nI (l.getD i 0))
  | 0, k, M, h1, h2, _, _ => by omega
  | n + 1, k, M, h1, h2, hc, h3 => by
    unfold fX0_offer_27
    by_cases e : k = l.length
    · subst e
      exact ⟨M, if_pos (Int32.le_refl _), fun _ _ => rfl, rfl, h3⟩
    have hk : k < l.length := by omega
    rw [if_neg (nI_ge hk (by omega)), ld_at (by omega) (by omega), hc k hk, bnd, sta_at (by omega) (by omega), bnd, nI_1]
    obtain ⟨M', a1, a2, a3, a4⟩ := off_27 hl n (k + 1) (ms M 27 k (nI (l.getD k 0))) (by omega) (by omega) (fun i hi => by rw [ms_ne (by omega)]; exact hc i hi) (fun i hi => by
      by_cases z : i = k
      · rw [z, ms_eq]
      · rw [ms_ne (Or.inr z)]; exact h3 i (by omega))
    exact ⟨M', a1, fun q hq => by rw [a2 q hq, ms_row hq], a3, a4⟩
theorem c_offer {l : List Nat} {s : BSt} {M : Mem} (hl : l.length ≤ 6) (hc : cur l M) (hs : BSc s M) (v : Int32) : ∃ M', fX0_offer (nI l.length) v M = some M' ∧ BSc (if v ≤ s.1 then s else (v, l)) M' ∧ frb 6 M M' := by
  unfold fX0_offer
  rw [hs.1]
  by_cases c : v ≤ s.1
  · rw [if_pos c, if_pos c]
    exact ⟨M, rfl, hs, frb.refl 6 M⟩
  · rw [if_neg c, if_neg c, if_pos (show nI l.length ≤ 6 from nI_le (b := 6) hl (by omega)), bnd, bnd]
    obtain ⟨M', a1, a2, a3, a4⟩ := off_27 hl mF 0 (ms (ms M 25 3 v) 25 2 (nI l.length)) (by omega) (fuel (by omega)) (fun i hi => by rw [ms_ne (by omega), ms_ne (by omega)]; exact hc i hi) (fun i hi => absurd hi (Nat.not_lt_zero i))
    rw [nI_0] at a1
    refine ⟨M', a1, ⟨?_, ?_, hl, a4⟩, ⟨fun q h1 h2 h3 => ?_, fun i hi => ?_, a3⟩⟩
    · rw [a2 25 (by omega), ms_ne (by omega), ms_eq]
    · rw [a2 25 (by omega), ms_eq]
    · rw [a2 q h3, ms_row h1, ms_row h1]
    · rw [a2 26 (by omega), ms_row (by omega), ms_row (by omega)]
section EXT
variable {L : Lnd} {b : Nat}
theorem ext_lp (hL : Lok L) (hb : b + 10 ≤ 24) {t0 : Nat} {ts : List Nat} {x : Nat × Nat × Int32} (hx : run0 L t0 ts = some x) (h1 : x.1 < lT L) (h2 : x.2.1 < 64) {k : Nat} (hk : ts.length + 1 + (k + 1) = 6) (rec : Nat → Int32 → Int32 → Int32 → Mem → Option Mem)
    (hrec : ∀ (t : Nat) (y : Nat × Nat × Int32) (M : Mem) (s : BSt), t < lT L → run0 L t0 (ts ++ [t]) = some y → LC b L M.1 → LCm b L M.1 → cur (t0 :: (ts ++ [t])) M → BSc s M → NOi ≤ s.1 → ∃ M', rec b (nI (ts.length + 2)) (nI y.2.1) y.2.2 M = some M' ∧ BSc (Fb L t0 k (ts ++ [t]) s) M' ∧ frb (ts.length + 2) M M') : ∀ (n t : Nat) (M : Mem) (s : BSt), t ≤ lT L → lT L < t + n → LC b L M.1 → LCm b L M.1 → cur (t0 :: ts) M → BSc s M → NOi ≤ s.1 → ∃ M', fX0_extend_52 b rec (nI (ts.length + 1)) (nI x.2.1) x.2.2 (nI x.1) (fun M8 => some M8) n (nI t) M = some M' ∧ BSc (((List.range (lT L)).drop t).foldl (fun s t => Fb L t0 k (ts ++ [t]) s) s) M' ∧ frb (ts.length + 1) M M'
  | 0, t, M, s, g1, g2, _, _, _, _, _ => by omega
  | n + 1, t, M, s, g1, g2, hC, hm, hc, hs, ho => by
    have hT := hL.1
    unfold fX0_extend_52
    rw [hC.1]
    by_cases e : t = lT L
    · rw [if_pos (by rw [e]; exact Int32.le_refl _), e, List.drop_eq_nil_of_le (by rw [List.length_range]; exact Nat.le_refl _)]
      exact ⟨M, rfl, hs, frb.refl _ M⟩
    have ht : t < lT L := by omega
    have ht2 : t < (List.range (lT L)).length := by rw [List.length_range]; exact ht
    rw [if_neg (nI_ge ht (by omega)), c_distance hL hC hm h1 ht, bnd, List.drop_eq_getElem_cons ht2, List.getElem_range, List.foldl_cons, nI_1]
    have hsn : run0 L t0 (ts ++ [t]) = stp1 L x t := by
      show run L t0 _ _ (ts ++ [t]) = _
      rw [run_snoc, show run L t0 (2 ^ t0) (nI (L 1 t0)) ts = some x from hx]; rfl
    have skip : stp1 L x t = none → ∃ M', fX0_extend_52 b rec (nI (ts.length + 1)) (nI x.2.1) x.2.2 (nI x.1) (fun M8 => some M8) n (nI (t + 1)) M = some M' ∧ BSc (((List.range (lT L)).drop (t + 1)).foldl (fun s t => Fb L t0 k (ts ++ [t]) s) (Fb L t0 k (ts ++ [t]) s)) M' ∧ frb (ts.length + 1) M M' := by
      intro hn
      rw [Fb_cut k (ts ++ [t]) s (by rw [hsn]; exact hn) ho]
      exact ext_lp hL hb hx h1 h2 hk rec hrec n (t + 1) M s (by omega) (by omega) hC hm hc hs ho
    have bc := bit_c ⟨x.2.1, h2⟩ ⟨t, by omega⟩
    have bo := bit_o ⟨x.2.1, h2⟩ ⟨t, by omega⟩
    simp only at bc bo
    by_cases c : x.2.1.testBit t = true
    · rw [if_neg (fun z => by rw [bc.mp z] at c; cases c)]
      exact skip (by unfold stp1; rw [if_pos c])
    · rw [if_pos (bc.mpr (Bool.eq_false_iff.mpr c))]
      cases ed : dist L x.1 t with
      | none =>
        rw [encC_none, if_pos rfl]
        exact skip (by unfold stp1; rw [if_neg c, ed])
      | some d =>
        have hd := dist_le hL ed
        have es : stp1 L x t = some (t, x.2.1 ||| 2 ^ t, (x.2.2 + nI (L 1 t)) - nI d) := by unfold stp1; rw [if_neg c, ed]
        have f0 : frb (ts.length + 1) M (ms M 26 (ts.length + 1) (nI t)) := ⟨fun q a b c => ms_row b, fun i hi => ms_ne (Or.inr (by omega)), rfl⟩
        have hc1 : cur (t0 :: (ts ++ [t])) (ms M 26 (ts.length + 1) (nI t)) := by
          intro i hi
          have hi' : i < ts.length + 1 + 1 := by simpa using hi
          by_cases z : i = ts.length + 1
          · subst z
            rw [ms_eq]; simp [List.getD]
          · rw [ms_ne (Or.inr z), hc i (by show i < ts.length + 1; omega)]
            congr 1
            simp only [List.getD]
            rw [← List.cons_append, List.getElem?_append_left (by show i < ts.length + 1; omega)]
        have hs1 : BSc s (ms M 26 (ts.length + 1) (nI t)) := ⟨by rw [ms_ne (by omega)]; exact hs.1, by rw [ms_ne (by omega)]; exact hs.2.1, hs.2.2.1, fun i hi => by rw [ms_ne (by omega)]; exact hs.2.2.2 i hi⟩
        obtain ⟨M1, r1, r2, r3⟩ := hrec t _ _ s ht (hsn.trans es) (hC.frb hb f0) (hm.frb hb f0) hc1 hs1 ho
        have f1 : frb (ts.length + 1) M M1 := f0.trans (r3.le (by omega))
        obtain ⟨M2, p1, p2, p3⟩ := ext_lp hL hb hx h1 h2 hk rec hrec n (t + 1) M1 _ (by omega) (by omega) (hC.frb hb f1) (hm.frb hb f1) (hc.frb f1 (Nat.le_refl _)) r2 (Fb_ok k _ s ho)
        refine ⟨M2, ?_, p2, f1.trans p3⟩
        rw [encC_some, if_neg (nI_m9 (by omega)), sta_at (by omega) (by omega), bnd, c_bidOf hL (hC.frb hb f0) ht, bnd, bo, nI_1, r1, bnd]
        exact p1
theorem c_ext (hL : Lok L) (hb : b + 10 ≤ 24) {t0 : Nat} (ht0 : t0 < lT L) : ∀ (d k : Nat) (ts : List Nat) (x : Nat × Nat × Int32) (M : Mem) (s : BSt), k < d → ts.length + 1 + k = 6 → (∀ t, t ∈ ts → t < lT L) → run0 L t0 ts = some x → LC b L M.1 → LCm b L M.1 → cur (t0 :: ts) M → BSc s M → NOi ≤ s.1 → ∃ M', fX0_extend d b (nI (ts.length + 1)) (nI x.2.1) x.2.2 M = some M' ∧ BSc (Fb L t0 k ts s) M' ∧ frb (ts.length + 1) M M'
  | 0, k, ts, x, M, s, h0, _, _, _, _, _, _, _, _ => by omega
  | d + 1, k, ts, x, M, s, h0, hk, hts, hx, hC, hm, hc, hs, ho => by
    have hT := hL.1
    have hd0 : (dist L t0 t0).isSome = true := by rw [dist_diag hL]; rfl
    obtain ⟨x1, x2, x3⟩ := run_ok ht0 hT ts t0 (2 ^ t0) (nI (L 1 t0)) x ht0 (by have := bit_lt (m := 0) (by omega) (show t0 < 6 by omega); rwa [Nat.zero_or] at this) hd0 hts hx
    unfold fX0_extend
    have hlast : M.1 26 ts.length = nI x.1 := by
      rw [hc ts.length (by show ts.length < ts.length + 1; omega), run_last ts _ _ _ _ hx]
    have hfirst : M.1 26 0 = nI t0 := hc 0 (by show 0 < ts.length + 1; omega)
    rw [if_neg (show ¬ nI (ts.length + 1) < 1 from nI_nlt (b := 1) (by omega) (by omega)), if_pos (show nI (ts.length + 1) ≤ 6 from nI_le (b := 6) (by omega) (by omega)), nI_pred, ld_at (by omega) (by omega), hlast, bnd, ld_0 (by omega) (by omega), hfirst, bnd, c_distance hL hC hm x1 ht0, bnd]
    obtain ⟨M1, o1, o2, o3⟩ := c_offer (l := t0 :: ts) (by show ts.length + 1 ≤ 6; omega) hc hs (x.2.2 - encC (dist L x.1 t0))
    have ev : x.2.2 - encC (dist L x.1 t0) = wof L t0 ts := by
      unfold wof
      rw [hx]
      dsimp only
      cases e : dist L x.1 t0 with
      | none => rw [dist_sym, e] at x3; cases x3
      | some v => rfl
    rw [ev] at o1 o2
    have o1' : fX0_offer (nI (ts.length + 1)) (x.2.2 - encC (dist L x.1 t0)) M = some M1 := by rw [ev]; exact o1
    rw [o1', bnd]
    have hb1 : BSc (bstep L t0 s ts) M1 := o2
    have hC1 := hC.frb hb o3
    have hm1 := hm.frb hb o3
    have hc1 := hc.frb o3 (by show ts.length + 1 ≤ 6; omega)
    cases k with
    | zero =>
      rw [if_neg (show ¬ nI (ts.length + 1) < 6 from nI_nlt (b := 6) (by omega) (by omega))]
      exact ⟨M1, rfl, hb1, o3.le (by omega)⟩
    | succ k =>
      rw [if_pos (show nI (ts.length + 1) < 6 from nI_lt (b := 6) (by omega) (by omega))]
      obtain ⟨M2, p1, p2, p3⟩ := ext_lp hL hb hx x1 x2 (k := k) (by omega) (fX0_extend d) (fun t y M s ht hy hC hm hc hs ho => by
        have := c_ext hL hb ht0 d k (ts ++ [t]) y M s (by omega) (by rw [List.length_append]; show ts.length + 1 + 1 + k = 6; omega) (fun u hu => by
          rcases List.mem_append.mp hu with h | h
          · exact hts u h
          · have : u = t := by simpa using h
            omega) hy hC hm hc hs ho
        rw [List.length_append] at this
        exact this) mF 0 M1 _ (by omega) (fuel (by omega)) hC1 hm1 hc1 hb1 (bstep_ok ho)
      rw [List.drop_zero] at p2
      exact ⟨M2, p1, p2, (o3.le (by omega)).trans p3⟩
end EXT
