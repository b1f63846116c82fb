/-! the best closed way -/
theorem bit_c : ∀ (m : Fin 64) (t : Fin 6), ((nI m.val &&& ((1 : Int32) <<< (nI t.val &&& 31))) = 0) ↔ m.val.testBit t.val = false := by decide +kernel
theorem bit_o : ∀ (m : Fin 64) (t : Fin 6), nI m.val ||| ((1 : Int32) <<< (nI t.val &&& 31)) = nI (m.val ||| 2 ^ t.val) := by decide +kernel
theorem bit_r : ∀ (m : Fin 64) (t : Fin 6), (((nI m.val >>> (nI t.val &&& 31)) &&& (1 : Int32)) = 1) ↔ m.val.testBit t.val = true := by decide +kernel
theorem bit_1 : ∀ t : Fin 6, ((1 : Int32) <<< (nI t.val &&& 31)) = nI (2 ^ t.val) := by decide +kernel
theorem bit_lt {m t : Nat} (hm : m < 64) (ht : t < 6) : m ||| 2 ^ t < 64 := by
  have h : 2 ^ t < 2 ^ 6 := Nat.pow_lt_pow_right (by omega) ht
  exact Nat.or_lt_two_pow (n := 6) hm h
abbrev NOi : Int32 := -1000000
/-- on from the town l, seen the towns m, with w so far -/
def run (L : Lnd) : Nat → Nat → Int32 → List Nat → Option (Nat × Nat × Int32)
  | l, m, w, [] => some (l, m, w)
  | l, m, w, t :: ts => if m.testBit t = true then none else match dist L l t with
    | none => none
    | some d => run L t (m ||| 2 ^ t) ((w + nI (L 1 t)) - nI d) ts
abbrev run0 (L : Lnd) (t0 : Nat) (ts : List Nat) : Option (Nat × Nat × Int32) := run L t0 (2 ^ t0) (nI (L 1 t0)) ts
def stp1 (L : Lnd) (x : Nat × Nat × Int32) (t : Nat) : Option (Nat × Nat × Int32) := if x.2.1.testBit t = true then none else match dist L x.1 t with
    | none => none
    | some d => some (t, x.2.1 ||| 2 ^ t, (x.2.2 + nI (L 1 t)) - nI d)
theorem run_snoc (L : Lnd) : ∀ (ts : List Nat) (l m : Nat) (w : Int32) (t : Nat), run L l m w (ts ++ [t]) = (run L l m w ts).bind (fun x => stp1 L x t)
  | [], l, m, w, t => by
    show (if m.testBit t = true then none else match dist L l t with | none => none | some d => run L t (m ||| 2 ^ t) ((w + nI (L 1 t)) - nI d) []) = stp1 L (l, m, w) t
    rfl
  | y :: ys, l, m, w, t => by
    show (if m.testBit y = true then none else match dist L l y with | none => none | some d => run L y (m ||| 2 ^ y) ((w + nI (L 1 y)) - nI d) (ys ++ [t])) = Option.bind (if m.testBit y = true then none else match dist L l y with | none => none | some d => run L y (m ||| 2 ^ y) ((w + nI (L 1 y)) - nI d) ys) _
    by_cases c : m.testBit y = true
    · rw [if_pos c, if_pos c]; rfl
    · rw [if_neg c, if_neg c]
      cases dist L l y with
      | none => rfl
      | some d => exact run_snoc L ys _ _ _ t
/-- what the closed way t0, ts is worth -/
def wof (L : Lnd) (t0 : Nat) (ts : List Nat) : Int32 := match run0 L t0 ts with
  | none => NOi
  | some x => match dist L x.1 t0 with
    | none => NOi
    | some d => x.2.2 - nI d
abbrev BSt : Type := Int32 × List Nat
def bstep (L : Lnd) (t0 : Nat) (s : BSt) (ts : List Nat) : BSt := if wof L t0 ts ≤ s.1 then s else (wof L t0 ts, t0 :: ts)
def Fb (L : Lnd) (t0 : Nat) : Nat → List Nat → BSt → BSt
  | 0, ts, s => bstep L t0 s ts
  | k + 1, ts, s => (List.range (lT L)).foldl (fun s t => Fb L t0 k (ts ++ [t]) s) (bstep L t0 s ts)
theorem foldl_same {α β : Type} (f : β → α → β) (s : β) : ∀ l : List α, (∀ t, f s t = s) → l.foldl f s = s
  | [], _ => rfl
  | a :: l, h => by rw [List.foldl_cons, h a]; exact foldl_same f s l h
theorem foldl_inv {α β : Type} (f : β → α → β) (P : β → Prop) (h : ∀ s t, P s → P (f s t)) : ∀ (l : List α) (s : β), P s → P (l.foldl f s)
  | [], _, hs => hs
  | a :: l, s, hs => by rw [List.foldl_cons]; exact foldl_inv f P h l _ (h s a hs)
theorem bstep_ok {L : Lnd} {t0 : Nat} {s : BSt} {ts : List Nat} (h : NOi ≤ s.1) : NOi ≤ (bstep L t0 s ts).1 := by
  unfold bstep
  by_cases c : wof L t0 ts ≤ s.1
  · rw [if_pos c]; exact h
  · rw [if_neg c]; exact Int32.le_trans h (Int32.le_of_lt (lt_of_nle c))
theorem Fb_ok {L : Lnd} {t0 : Nat} : ∀ (k : Nat) (ts : List Nat) (s : BSt), NOi ≤ s.1 → NOi ≤ (Fb L t0 k ts s).1
  | 0, ts, s, h => bstep_ok h
  | k + 1, ts, s, h => by
    show NOi ≤ ((List.range (lT L)).foldl (fun s t => Fb L t0 k (ts ++ [t]) s) (bstep L t0 s ts)).1
    refine foldl_inv (fun s t => Fb L t0 k (ts ++ [t]) s) (fun s : BSt => NOi ≤ s.1) (fun s t hs => ?_) _ _ (bstep_ok h)
    exact Fb_ok k (ts ++ [t]) s hs
theorem bstep_ne {L : Lnd} {t0 : Nat} {s : BSt} {ts : List Nat} (h : s.2 ≠ []) : (bstep L t0 s ts).2 ≠ [] := by
  unfold bstep
  by_cases c : wof L t0 ts ≤ s.1
  · rw [if_pos c]; exact h
  · rw [if_neg c]; simp
theorem Fb_ne {L : Lnd} {t0 : Nat} : ∀ (k : Nat) (ts : List Nat) (s : BSt), s.2 ≠ [] → (Fb L t0 k ts s).2 ≠ []
  | 0, ts, s, h => bstep_ne h
  | k + 1, ts, s, h => by
    show ((List.range (lT L)).foldl (fun s t => Fb L t0 k (ts ++ [t]) s) (bstep L t0 s ts)).2 ≠ []
    refine foldl_inv (fun s t => Fb L t0 k (ts ++ [t]) s) (fun s : BSt => s.2 ≠ []) (fun s t hs => ?_) _ _ (bstep_ne h)
    exact Fb_ne k (ts ++ [t]) s hs
theorem wof_none {L : Lnd} {t0 : Nat} {ts : List Nat} (h : run0 L t0 ts = none) : wof L t0 ts = NOi := by unfold wof; rw [h]
/-- a way that can't be begun so is worth nothing, nor any that goes on from it -/
theorem Fb_cut {L : Lnd} {t0 : Nat} : ∀ (k : Nat) (ts : List Nat) (s : BSt), run0 L t0 ts = none → NOi ≤ s.1 → Fb L t0 k ts s = s
  | 0, ts, s, h, hs => by
    show bstep L t0 s ts = s
    unfold bstep
    rw [wof_none h, if_pos hs]
  | k + 1, ts, s, h, hs => by
    show (List.range (lT L)).foldl (fun s t => Fb L t0 k (ts ++ [t]) s) (bstep L t0 s ts) = s
    have e : bstep L t0 s ts = s := by unfold bstep; rw [wof_none h, if_pos hs]
    rw [e]
    refine foldl_same _ s _ (fun t => ?_)
    exact Fb_cut k (ts ++ [t]) s (by show run L t0 _ _ (ts ++ [t]) = none; rw [run_snoc, show run L t0 (2 ^ t0) (nI (L 1 t0)) ts = none from h]; rfl) hs
/-- what a run keeps: town, mask, that it is reached -/
theorem run_ok {L : Lnd} {t0 : Nat} (ht0 : t0 < lT L) (hT : lT L ≤ 6) : ∀ (ts : List Nat) (l m : Nat) (w : Int32) (x : Nat × Nat × Int32), l < lT L → m < 64 → (dist L t0 l).isSome = true → (∀ t, t ∈ ts → t < lT L) → run L l m w ts = some x → x.1 < lT L ∧ x.2.1 < 64 ∧ (dist L t0 x.1).isSome = true
  | [], l, m, w, x, h1, h2, h3, _, h => by cases h; exact ⟨h1, h2, h3⟩
  | t :: ts, l, m, w, x, h1, h2, h3, h4, h => by
    unfold run at h
    by_cases c : m.testBit t = true
    · rw [if_pos c] at h; cases h
    rw [if_neg c] at h
    have ht := h4 t (List.mem_cons_self ..)
    cases e : dist L l t with
    | none => rw [e] at h; cases h
    | some d =>
      rw [e] at h
      exact run_ok ht0 hT ts t _ _ x ht (bit_lt h2 (by omega)) (dist_tr h1 h3 (by rw [e]; rfl)) (fun t ht => h4 t (List.mem_cons_of_mem _ ht)) h
theorem run_last {L : Lnd} : ∀ (ts : List Nat) (l m : Nat) (w : Int32) (x : Nat × Nat × Int32), run L l m w ts = some x → (l :: ts).getD ts.length 0 = x.1
  | [], l, m, w, x, h => by cases h; rfl
  | t :: ts, l, m, w, x, h => by
    unfold run at h
    by_cases c : m.testBit t = true
    · rw [if_pos c] at h; cases h
    rw [if_neg c] at h
    cases e : dist L l t with
    | none => rw [e] at h; cases h
    | some d =>
      rw [e] at h
      exact run_last ts t _ _ x h
/-! the class's search -/
/-- the class's best so far -/
def BSc (s : BSt) (M : Mem) : Prop := M.1 25 3 = s.1 ∧ M.1 25 2 = nI s.2.length ∧ s.2.length ≤ 6 ∧ ∀ i, i < s.2.length → M.1 27 i = nI (s.2.getD i 0)
def cur (l : List Nat) (M : Mem) : Prop := ∀ i, i < l.length → M.1 26 i = nI (l.getD i 0)
def frb (n : Nat) (M M' : Mem) : Prop := (∀ q, q ≠ 25 → q ≠ 26 → q ≠ 27 → M'.1 q = M.1 q) ∧ (∀ i, i < n → M'.1 26 i = M.1 26 i) ∧ M'.2 = M.2
theorem frb.refl (n : Nat) (M : Mem) : frb n M M := ⟨fun _ _ _ _ => rfl, fun _ _ => rfl, rfl⟩
theorem frb.trans {n : Nat} {M M1 M2 : Mem} (h : frb n M M1) (g : frb n M1 M2) : frb n M M2 := ⟨fun q a b c => (g.1 q a b c).trans (h.1 q a b c), fun i hi => (g.2.1 i hi).trans (h.2.1 i hi), g.2.2.trans h.2.2⟩
theorem frb.le {n n' : Nat} {M M' : Mem} (h : frb n M M') (hn : n' ≤ n) : frb n' M M' := ⟨h.1, fun i hi => h.2.1 i (by omega), h.2.2⟩
theorem cur.frb {l : List Nat} {n : Nat} {M M' : Mem} (h : cur l M) (g : frb n M M') (hn : l.length ≤ n) : cur l M' := fun i hi => (g.2.1 i (by omega)).trans (h i hi)
theorem LC.frb {b : Nat} (hb : b + 10 ≤ 24) {L : Lnd} {n : Nat} {M M' : Mem} (h : LC b L M.1) (g : frb n M M') : LC b L M'.1 := h.congr (fun i hi => g.1 _ (by omega) (by omega) (by omega))
theorem LCm.frb {b : Nat} (hb : b + 10 ≤ 24) {L : Lnd} {n : Nat} {M M' : Mem} (h : LCm b L M.1) (g : frb n M M') : LCm b L M'.1 := h.congr (fun i hi => g.1 _ (by omega) (by omega) (by omega))
theorem off_27 {l : List Nat} (hl : l.length ≤ 6) : ∀ (n k : Nat) (M : Mem), k ≤ l.length → l.length < k + n → cur l M → (∀ i, i < k → M.1 27 i = nI (l.getD i 0)) → ∃ M', fX0_offer_27 (nI l.length) (fun M5 => some M5) n (nI k) M = some M' ∧ (∀ q, q ≠ 27 → M'.1 q = M.1 q) ∧ M'.2 = M.2 ∧ (∀ i, i < l.length → M'.1 27 i = nI (l.getD i 0))
  | 0, k, M, h1, h2, _, _ => by omega
  | n + 1, k, M, h1, h2, hc, h3 => by
    unfold fX0_offer_27
    by_cases e : k = l.length
    · subst e
      exact ⟨M, if_pos (Int32.le_refl _), fun _ _ => rfl, rfl, h3⟩
    have hk : k < l.length := by omega
    rw [if_neg (nI_ge hk (by omega)), ld_at (by omega) (by omega), hc k hk, bnd, sta_at (by omega) (by omega), bnd, nI_1]
    obtain ⟨M', a1, a2, a3, a4⟩ := off_27 hl n (k + 1) (ms M 27 k (nI (l.getD k 0))) (by omega) (by omega) (fun i hi => by rw [ms_ne (by omega)]; exact hc i hi) (fun i hi => by
      by_cases z : i = k
      · rw [z, ms_eq]
      · rw [ms_ne (Or.inr z)]; exact h3 i (by omega))
    exact ⟨M', a1, fun q hq => by rw [a2 q hq, ms_row hq], a3, a4⟩
theorem c_offer {l : List Nat} {s : BSt} {M : Mem} (hl : l.length ≤ 6) (hc : cur l M) (hs : BSc s M) (v : Int32) : ∃ M', fX0_offer (nI l.length) v M = some M' ∧ BSc (if v ≤ s.1 then s else (v, l)) M' ∧ frb 6 M M' := by
  unfold fX0_offer
  rw [hs.1]
  by_cases c : v ≤ s.1
  · rw [if_pos c, if_pos c]
    exact ⟨M, rfl, hs, frb.refl 6 M⟩
  · rw [if_neg c, if_neg c, if_pos (show nI l.length ≤ 6 from nI_le (b := 6) hl (by omega)), bnd, bnd]
    obtain ⟨M', a1, a2, a3, a4⟩ := off_27 hl mF 0 (ms (ms M 25 3 v) 25 2 (nI l.length)) (by omega) (fuel (by omega)) (fun i hi => by rw [ms_ne (by omega), ms_ne (by omega)]; exact hc i hi) (fun i hi => absurd hi (Nat.not_lt_zero i))
    rw [nI_0] at a1
    refine ⟨M', a1, ⟨?_, ?_, hl, a4⟩, ⟨fun q h1 h2 h3 => ?_, fun i hi => ?_, a3⟩⟩
    · rw [a2 25 (by omega), ms_ne (by omega), ms_eq]
    · rw [a2 25 (by omega), ms_eq]
    · rw [a2 q h3, ms_row h1, ms_row h1]
    · rw [a2 26 (by omega), ms_row (by omega), ms_row (by omega)]
section EXT
variable {L : Lnd} {b : Nat}
theorem ext_lp (hL : Lok L) (hb : b + 10 ≤ 24) {t0 : Nat} {ts : List Nat} {x : Nat × Nat × Int32} (hx : run0 L t0 ts = some x) (h1 : x.1 < lT L) (h2 : x.2.1 < 64) {k : Nat} (hk : ts.length + 1 + (k + 1) = 6) (rec : Nat → Int32 → Int32 → Int32 → Mem → Option Mem)
    (hrec : ∀ (t : Nat) (y : Nat × Nat × Int32) (M : Mem) (s : BSt), t < lT L → run0 L t0 (ts ++ [t]) = some y → LC b L M.1 → LCm b L M.1 → cur (t0 :: (ts ++ [t])) M → BSc s M → NOi ≤ s.1 → ∃ M', rec b (nI (ts.length + 2)) (nI y.2.1) y.2.2 M = some M' ∧ BSc (Fb L t0 k (ts ++ [t]) s) M' ∧ frb (ts.length + 2) M M') : ∀ (n t : Nat) (M : Mem) (s : BSt), t ≤ lT L → lT L < t + n → LC b L M.1 → LCm b L M.1 → cur (t0 :: ts) M → BSc s M → NOi ≤ s.1 → ∃ M', fX0_extend_52 b rec (nI (ts.length + 1)) (nI x.2.1) x.2.2 (nI x.1) (fun M8 => some M8) n (nI t) M = some M' ∧ BSc (((List.range (lT L)).drop t).foldl (fun s t => Fb L t0 k (ts ++ [t]) s) s) M' ∧ frb (ts.length + 1) M M'
  | 0, t, M, s, g1, g2, _, _, _, _, _ => by omega
  | n + 1, t, M, s, g1, g2, hC, hm, hc, hs, ho => by
    have hT := hL.1
    unfold fX0_extend_52
    rw [hC.1]
    by_cases e : t = lT L
    · rw [if_pos (by rw [e]; exact Int32.le_refl _), e, List.drop_eq_nil_of_le (by rw [List.length_range]; exact Nat.le_refl _)]
      exact ⟨M, rfl, hs, frb.refl _ M⟩
    have ht : t < lT L := by omega
    have ht2 : t < (List.range (lT L)).length := by rw [List.length_range]; exact ht
    rw [if_neg (nI_ge ht (by omega)), c_distance hL hC hm h1 ht, bnd, List.drop_eq_getElem_cons ht2, List.getElem_range, List.foldl_cons, nI_1]
    have hsn : run0 L t0 (ts ++ [t]) = stp1 L x t := by
      show run L t0 _ _ (ts ++ [t]) = _
      rw [run_snoc, show run L t0 (2 ^ t0) (nI (L 1 t0)) ts = some x from hx]; rfl
    have skip : stp1 L x t = none → ∃ M', fX0_extend_52 b rec (nI (ts.length + 1)) (nI x.2.1) x.2.2 (nI x.1) (fun M8 => some M8) n (nI (t + 1)) M = some M' ∧ BSc (((List.range (lT L)).drop (t + 1)).foldl (fun s t => Fb L t0 k (ts ++ [t]) s) (Fb L t0 k (ts ++ [t]) s)) M' ∧ frb (ts.length + 1) M M' := by
      intro hn
      rw [Fb_cut k (ts ++ [t]) s (by rw [hsn]; exact hn) ho]
      exact ext_lp hL hb hx h1 h2 hk rec hrec n (t + 1) M s (by omega) (by omega) hC hm hc hs ho
    have bc := bit_c ⟨x.2.1, h2⟩ ⟨t, by omega⟩
    have bo := bit_o ⟨x.2.1, h2⟩ ⟨t, by omega⟩
    simp only at bc bo
    by_cases c : x.2.1.testBit t = true
    · rw [if_neg (fun z => by rw [bc.mp z] at c; cases c)]
      exact skip (by unfold stp1; rw [if_pos c])
    · rw [if_pos (bc.mpr (Bool.eq_false_iff.mpr c))]
      cases ed : dist L x.1 t with
      | none =>
        rw [encC_none, if_pos rfl]
        exact skip (by unfold stp1; rw [if_neg c, ed])
      | some d =>
        have hd := dist_le hL ed
        have es : stp1 L x t = some (t, x.2.1 ||| 2 ^ t, (x.2.2 + nI (L 1 t)) - nI d) := by unfold stp1; rw [if_neg c, ed]
        have f0 : frb (ts.length + 1) M (ms M 26 (ts.length + 1) (nI t)) := ⟨fun q a b c => ms_row b, fun i hi => ms_ne (Or.inr (by omega)), rfl⟩
        have hc1 : cur (t0 :: (ts ++ [t])) (ms M 26 (ts.length + 1) (nI t)) := by
          intro i hi
          have hi' : i < ts.length + 1 + 1 := by simpa using hi
          by_cases z : i = ts.length + 1
          · subst z
            rw [ms_eq]; simp [List.getD]
          · rw [ms_ne (Or.inr z), hc i (by show i < ts.length + 1; omega)]
            congr 1
            simp only [List.getD]
            rw [← List.cons_append, List.getElem?_append_left (by show i < ts.length + 1; omega)]
        have hs1 : BSc s (ms M 26 (ts.length + 1) (nI t)) := ⟨by rw [ms_ne (by omega)]; exact hs.1, by rw [ms_ne (by omega)]; exact hs.2.1, hs.2.2.1, fun i hi => by rw [ms_ne (by omega)]; exact hs.2.2.2 i hi⟩
        obtain ⟨M1, r1, r2, r3⟩ := hrec t _ _ s ht (hsn.trans es) (hC.frb hb f0) (hm.frb hb f0) hc1 hs1 ho
        have f1 : frb (ts.length + 1) M M1 := f0.trans (r3.le (by omega))
        obtain ⟨M2, p1, p2, p3⟩ := ext_lp hL hb hx h1 h2 hk rec hrec n (t + 1) M1 _ (by omega) (by omega) (hC.frb hb f1) (hm.frb hb f1) (hc.frb f1 (Nat.le_refl _)) r2 (Fb_ok k _ s ho)
        refine ⟨M2, ?_, p2, f1.trans p3⟩
        rw [encC_some, if_neg (nI_m9 (by omega)), sta_at (by omega) (by omega), bnd, c_bidOf hL (hC.frb hb f0) ht, bnd, bo, nI_1, r1, bnd]
        exact p1
theorem c_ext (hL : Lok L) (hb : b + 10 ≤ 24) {t0 : Nat} (ht0 : t0 < lT L) : ∀ (d k : Nat) (ts : List Nat) (x : Nat × Nat × Int32) (M : Mem) (s : BSt), k < d → ts.length + 1 + k = 6 → (∀ t, t ∈ ts → t < lT L) → run0 L t0 ts = some x → LC b L M.1 → LCm b L M.1 → cur (t0 :: ts) M → BSc s M → NOi ≤ s.1 → ∃ M', fX0_extend d b (nI (ts.length + 1)) (nI x.2.1) x.2.2 M = some M' ∧ BSc (Fb L t0 k ts s) M' ∧ frb (ts.length + 1) M M'
  | 0, k, ts, x, M, s, h0, _, _, _, _, _, _, _, _ => by omega
  | d + 1, k, ts, x, M, s, h0, hk, hts, hx, hC, hm, hc, hs, ho => by
    have hT := hL.1
    have hd0 : (dist L t0 t0).isSome = true := by rw [dist_diag hL]; rfl
    obtain ⟨x1, x2, x3⟩ := run_ok ht0 hT ts t0 (2 ^ t0) (nI (L 1 t0)) x ht0 (by have := bit_lt (m := 0) (by omega) (show t0 < 6 by omega); rwa [Nat.zero_or] at this) hd0 hts hx
    unfold fX0_extend
    have hlast : M.1 26 ts.length = nI x.1 := by
      rw [hc ts.length (by show ts.length < ts.length + 1; omega), run_last ts _ _ _ _ hx]
    have hfirst : M.1 26 0 = nI t0 := hc 0 (by show 0 < ts.length + 1; omega)
    rw [if_neg (show ¬ nI (ts.length + 1) < 1 from nI_nlt (b := 1) (by omega) (by omega)), if_pos (show nI (ts.length + 1) ≤ 6 from nI_le (b := 6) (by omega) (by omega)), nI_pred, ld_at (by omega) (by omega), hlast, bnd, ld_0 (by omega) (by omega), hfirst, bnd, c_distance hL hC hm x1 ht0, bnd]
    obtain ⟨M1, o1, o2, o3⟩ := c_offer (l := t0 :: ts) (by show ts.length + 1 ≤ 6; omega) hc hs (x.2.2 - encC (dist L x.1 t0))
    have ev : x.2.2 - encC (dist L x.1 t0) = wof L t0 ts := by
      unfold wof
      rw [hx]
      dsimp only
      cases e : dist L x.1 t0 with
      | none => rw [dist_sym, e] at x3; cases x3
      | some v => rfl
    rw [ev] at o1 o2
    have o1' : fX0_offer (nI (ts.length + 1)) (x.2.2 - encC (dist L x.1 t0)) M = some M1 := by rw [ev]; exact o1
    rw [o1', bnd]
    have hb1 : BSc (bstep L t0 s ts) M1 := o2
    have hC1 := hC.frb hb o3
    have hm1 := hm.frb hb o3
    have hc1 := hc.frb o3 (by show ts.length + 1 ≤ 6; omega)
    cases k with
    | zero =>
      rw [if_neg (show ¬ nI (ts.length + 1) < 6 from nI_nlt (b := 6) (by omega) (by omega))]
      exact ⟨M1, rfl, hb1, o3.le (by omega)⟩
    | succ k =>
      rw [if_pos (show nI (ts.length + 1) < 6 from nI_lt (b := 6) (by omega) (by omega))]
      obtain ⟨M2, p1, p2, p3⟩ := ext_lp hL hb hx x1 x2 (k := k) (by omega) (fX0_extend d) (fun t y M s ht hy hC hm hc hs ho => by
        have := c_ext hL hb ht0 d k (ts ++ [t]) y M s (by omega) (by rw [List.length_append]; show ts.length + 1 + 1 + k = 6; omega) (fun u hu => by
          rcases List.mem_append.mp hu with h | h
          · exact hts u h
          · have : u = t := by simpa using h
            omega) hy hC hm hc hs ho
        rw [List.length_append] at this
        exact this) mF 0 M1 _ (by omega) (fuel (by omega)) hC1 hm1 hc1 hb1 (bstep_ok ho)
      rw [List.drop_zero] at p2
      exact ⟨M2, p1, p2, (o3.le (by omega)).trans p3⟩
end EXT
theorem c_find {L : Lnd} {b : Nat} (hL : Lok L) (hb : b + 10 ≤ 24) {t0 : Nat} (ht0 : t0 < lT L) {M : Mem} (hC : LC b L M.1) (hm : LCm b L M.1) : ∃ M', fX0_find b (nI t0) M = some M' ∧ BSc (Fb L t0 5 [] (NOi, [])) M' ∧ frb 0 M M' := by
  have hT := hL.1
  unfold fX0_find
  have f0 : frb 0 M (ms (ms (ms M 25 3 (-1000000)) 25 2 0) 26 0 (nI t0)) := ⟨fun q a b c => by rw [ms_row b, ms_row a, ms_row a], fun i hi => absurd hi (Nat.not_lt_zero i), rfl⟩
  rw [bnd, bnd, sta_0 (by omega) (by omega), bnd, c_bidOf hL (hC.frb hb f0) ht0, bnd]
  have b1 := bit_1 ⟨t0, by omega⟩
  simp only at b1
  rw [b1]
  obtain ⟨M', e1, e2, e3⟩ := c_ext hL hb ht0 8 5 [] (t0, 2 ^ t0, nI (L 1 t0)) (ms (ms (ms M 25 3 (-1000000)) 25 2 0) 26 0 (nI t0)) (NOi, []) (by omega) rfl (fun t ht => by cases ht) rfl (hC.frb hb f0) (hm.frb hb f0) (fun i hi => by
    have : i = 0 := by have : i < 1 := hi; omega
    subst this; rw [ms_eq]; rfl) ⟨by rw [ms_ne (by omega), ms_ne (by omega), ms_eq], by rw [ms_ne (by omega), ms_eq]; rfl, by decide, fun i hi => absurd hi (Nat.not_lt_zero i)⟩ (Int32.le_refl _)
  have e1' : fX0_extend 8 b 1 (nI (2 ^ t0)) (nI (L 1 t0)) (ms (ms (ms M 25 3 (-1000000)) 25 2 0) 26 0 (nI t0)) = some M' := e1
  rw [e1', bnd]
  exact ⟨M', rfl, e2, f0.trans (e3.le (by omega))⟩
/-! the reference's count through all ways -/
def wrun (L : Lnd) (t0 x m : Nat) (acc : Int32) (rest : List Nat) : Int32 := if m.testBit x = true then NOi else match run L x (m ||| 2 ^ x) (acc + nI (L 1 x)) rest with
  | none => NOi
  | some y => match dist L y.1 t0 with
    | none => NOi
    | some d => y.2.2 - nI d
section RB
variable {L : Lnd} {J : Mem}
theorem r_worth_lp (hL : Lok L) (hR : LR L J.1) (hm : LRm L J.1) {t0 N : Nat} (ht0 : t0 < lT L) (hN : N ≤ 6) (h0 : J.1 12 0 = nI t0) : ∀ (rest : List Nat) (i x m n : Nat) (acc : Int32), i + 1 + rest.length = N → rest.length + 1 < n → x < lT L → (∀ t, t ∈ rest → t < lT L) → m < 64 → J.1 12 i = nI x → (∀ j, j < rest.length → J.1 12 (i + 1 + j) = nI (rest.getD j 0)) → fX5_worthOf_7 (nI N) J (fun y => some y) n acc (nI m) (nI i) = some (wrun L t0 x m acc rest)
  | rest, i, x, m, 0, acc, _, h2, _, _, _, _, _ => by omega
  | rest, i, x, m, n + 1, acc, h1, h2, hx, hr, hm6, hi, hrr => by
    have hT := hL.1
    unfold fX5_worthOf_7
    have br := bit_r ⟨m, hm6⟩ ⟨x, by omega⟩
    have bo := bit_o ⟨m, hm6⟩ ⟨x, by omega⟩
    simp only at br bo
    have lx : ld (J.1 12) 6 (nI i) = some (nI x) := by rw [ld_at (by omega) (by omega), hi]
    have lb : ld (J.1 2) 12 (nI x) = some (nI (L 1 x)) := by rw [ld_at (by omega) (by omega), hR.2.2.2.1 x hx]
    rw [if_neg (nI_ge (show i < N by omega) (by omega)), nI_1]
    cases rest with
    | nil =>
      have h1' : i + 1 = N := h1
      rw [if_pos (by rw [h1']), ld_0 (by omega) (by omega), h0, bnd, lx]
      simp only [bndp]
      rw [r_farOf hL hm hx ht0]
      simp only [bndp]
      rw [lb]
      simp only [bndp]
      unfold wrun
      by_cases c : m.testBit x = true
      · rw [if_pos (br.mpr c), if_pos c]
      · rw [if_neg (fun z => c (br.mp z)), if_neg c]
        show _ = some (match dist L x t0 with | none => NOi | some d => acc + nI (L 1 x) - nI d)
        cases e : dist L x t0 with
        | none => rw [encC_none, if_pos rfl]
        | some d =>
          have hd := dist_le hL e
          rw [encC_some, if_neg (nI_m9 (by omega))]
          obtain ⟨n', rfl⟩ : ∃ n', n = n' + 1 := ⟨n - 1, by have : 0 + 1 < n + 1 := h2; omega⟩
          unfold fX5_worthOf_7
          rw [if_pos (by rw [h1']; exact Int32.le_refl _)]
          show some (acc + (nI (L 1 x) - nI d)) = some (acc + nI (L 1 x) - nI d)
          rw [Int32.sub_eq_add_neg, Int32.sub_eq_add_neg, Int32.add_assoc]
    | cons y ys =>
      have h1' : i + 1 + (ys.length + 1) = N := h1
      have h2' : ys.length + 1 + 1 < n + 1 := h2
      have hy := hr y (List.mem_cons_self ..)
      have hi2 : J.1 12 (i + 1) = nI y := hrr 0 (by show 0 < ys.length + 1; omega)
      rw [if_neg (fun z => by have := nIe z (by omega) (by omega); omega), ld_at (show i + 1 < 6 by omega) (by omega), hi2, bnd, lx]
      simp only [bndp]
      rw [r_farOf hL hm hx hy]
      simp only [bndp]
      rw [lb]
      simp only [bndp]
      unfold wrun
      by_cases c : m.testBit x = true
      · rw [if_pos (br.mpr c), if_pos c]
      · rw [if_neg (fun z => c (br.mp z)), if_neg c]
        have ih := fun acc => r_worth_lp hL hR hm ht0 hN h0 ys (i + 1) y (m ||| 2 ^ x) n acc (by omega) (by omega) hy (fun t ht => hr t (List.mem_cons_of_mem _ ht)) (bit_lt hm6 (by omega)) hi2 (fun j hj => by
          have := hrr (j + 1) (by show j + 1 < ys.length + 1; omega)
          rw [show i + 1 + 1 + j = i + 1 + (j + 1) by omega, this]; rfl)
        show _ = some (match (if (m ||| 2 ^ x).testBit y = true then none else match dist L x y with | none => none | some d => run L y (m ||| 2 ^ x ||| 2 ^ y) ((acc + nI (L 1 x) + nI (L 1 y)) - nI d) ys) with | none => NOi | some y => match dist L y.1 t0 with | none => NOi | some d => y.2.2 - nI d)
        cases e : dist L x y with
        | none =>
          rw [encC_none, if_pos rfl]
          by_cases c2 : (m ||| 2 ^ x).testBit y = true
          · rw [if_pos c2]
          · rw [if_neg c2]
        | some d =>
          have hd := dist_le hL e
          rw [encC_some, if_neg (nI_m9 (by omega)), bo, ih]
          unfold wrun
          by_cases c2 : (m ||| 2 ^ x).testBit y = true
          · rw [if_pos c2, if_pos c2]
          · rw [if_neg c2, if_neg c2]
            have ea : acc + (nI (L 1 x) - nI d) + nI (L 1 y) = acc + nI (L 1 x) + nI (L 1 y) - nI d := by
              simp only [Int32.sub_eq_add_neg]; ac_rfl
            rw [ea]
theorem r_worth (hL : Lok L) (hR : LR L J.1) (hm : LRm L J.1) {t0 : Nat} {ts : List Nat} (ht0 : t0 < lT L) (hN : ts.length + 1 ≤ 6) (hts : ∀ t, t ∈ ts → t < lT L) (h0 : ∀ i, i < ts.length + 1 → J.1 12 i = nI ((t0 :: ts).getD i 0)) : fX5_worthOf (nI (ts.length + 1)) J = some (wof L t0 ts) := by
  have hT := hL.1
  unfold fX5_worthOf
  have := r_worth_lp hL hR hm ht0 hN (h0 0 (by omega)) ts 0 t0 0 mF 0 (by omega) (by unfold mF; omega) ht0 hts (by omega) (h0 0 (by omega)) (fun j hj => by
    have := h0 (j + 1) (by omega)
    rw [show 0 + 1 + j = j + 1 by omega, this]; rfl)
  rw [nI_0] at this
  rw [this]
  unfold wrun wof
  rw [if_neg (by rw [Nat.zero_testBit]; decide), Nat.zero_or, Int32.zero_add]
end RB
/-! digits -/
def dl (B : Nat) : Nat → Nat → List Nat
  | 0, _ => []
  | k + 1, v => (v / B ^ k % B) :: dl B k v
def fm : List Nat → List Nat → Option (List Nat)
  | ts, [] => some ts
  | ts, 0 :: ds => if ds.all (fun d => d == 0) = true then some ts else none
  | ts, (t + 1) :: ds => fm (ts ++ [t]) ds
theorem dl_len (B : Nat) : ∀ k v, (dl B k v).length = k
  | 0, _ => rfl
  | k + 1, v => by show (dl B k v).length + 1 = k + 1; rw [dl_len B k v]
theorem dl_lt {B : Nat} (hB : 0 < B) : ∀ k v d, d ∈ dl B k v → d < B
  | 0, _, d, h => by cases h
  | k + 1, v, d, h => by
    rcases List.mem_cons.mp h with h | h
    · rw [h]; exact Nat.mod_lt _ hB
    · exact dl_lt hB k v d h
theorem dl_at (B : Nat) : ∀ k v i, i < k → (dl B k v).getD i 0 = v / B ^ (k - 1 - i) % B
  | 0, _, i, h => absurd h (Nat.not_lt_zero i)
  | k + 1, v, 0, h => by show v / B ^ k % B = _; rw [Nat.add_sub_cancel, Nat.sub_zero]
  | k + 1, v, i + 1, h => by
    show (dl B k v).getD i 0 = _
    rw [dl_at B k v i (by omega), show k + 1 - 1 - (i + 1) = k - 1 - i by omega]
/-- the digits below don't see what is above -/
theorem dl_add {B : Nat} (hB : 0 < B) : ∀ k j d c, k ≤ j → dl B k (d * B ^ j + c) = dl B k c
  | 0, _, _, _, _ => rfl
  | k + 1, j, d, c, h => by
    show ((d * B ^ j + c) / B ^ k % B) :: dl B k (d * B ^ j + c) = (c / B ^ k % B) :: dl B k c
    rw [dl_add hB k j d c (by omega)]
    congr 1
    have e : d * B ^ j = B ^ k * (B * (d * B ^ (j - k - 1))) := by
      have : B ^ j = B ^ k * (B * B ^ (j - k - 1)) := by
        rw [← Nat.pow_succ', ← Nat.pow_add]; congr 1; omega
      rw [this]; ac_rfl
    rw [e, Nat.add_comm, Nat.add_mul_div_left _ _ (Nat.pow_pos hB), Nat.add_mul_mod_self_left]
theorem dl_top {B : Nat} {k d c : Nat} (hd : d < B) (hc : c < B ^ k) : (d * B ^ k + c) / B ^ k % B = d := by
  rw [Nat.add_comm, Nat.add_mul_div_right _ _ (by omega), Nat.div_eq_of_lt hc, Nat.zero_add, Nat.mod_eq_of_lt hd]
theorem foldl_blocks {α : Type} (f : α → Nat → α) (P : Nat) : ∀ (n : Nat) (s : α), (List.range (n * P)).foldl f s = (List.range n).foldl (fun s d => (List.range P).foldl (fun s c => f s (d * P + c)) s) s
  | 0, s => by simp
  | n + 1, s => by
    rw [Nat.succ_mul, List.range_add, List.foldl_append, foldl_blocks f P n s, List.range_succ, List.foldl_append, List.foldl_map]
    rfl
theorem foldl_congr {α : Type} {f g : α → Nat → α} : ∀ (l : List Nat) (s : α), (∀ s c, c ∈ l → f s c = g s c) → l.foldl f s = l.foldl g s
  | [], _, _ => rfl
  | a :: l, s, h => by
    rw [List.foldl_cons, List.foldl_cons, h s a (List.mem_cons_self ..)]
    exact foldl_congr l _ (fun s c hc => h s c (List.mem_cons_of_mem _ hc))
def cst (L : Lnd) (t0 k : Nat) (ts : List Nat) (s : BSt) (c : Nat) : BSt := match fm ts (dl (lT L + 1) k c) with
  | none => s
  | some q => bstep L t0 s q
theorem zeros_iff {B : Nat} (hB : 0 < B) : ∀ k c, c < B ^ k → ((dl B k c).all (fun d => d == 0) = true ↔ c = 0)
  | 0, c, h => by
    have : c = 0 := by simpa using h
    simp [dl, this]
  | k + 1, c, h => by
    have hp : 0 < B ^ k := Nat.pow_pos hB
    have hq : c / B ^ k < B := by
      rw [Nat.div_lt_iff_lt_mul hp, Nat.mul_comm, ← Nat.pow_succ]; exact h
    have hr : c % B ^ k < B ^ k := Nat.mod_lt _ hp
    have hdm : (c / B ^ k) * B ^ k + c % B ^ k = c := by rw [Nat.mul_comm]; exact Nat.div_add_mod c _
    have e1 : dl B k c = dl B k (c % B ^ k) := by
      have := dl_add hB k k (c / B ^ k) (c % B ^ k) (Nat.le_refl _)
      rw [hdm] at this; exact this
    show ((c / B ^ k % B == 0) && (dl B k c).all (fun d => d == 0)) = true ↔ c = 0
    rw [Bool.and_eq_true, e1, zeros_iff hB k _ hr, beq_iff_eq, Nat.mod_eq_of_lt hq]
    constructor
    · rintro ⟨h1, h2⟩
      rw [h1, h2] at hdm
      simpa using hdm.symm
    · intro h
      rw [h]; simp
theorem cst_all (L : Lnd) (t0 : Nat) : ∀ (k : Nat) (ts : List Nat) (s : BSt), (List.range ((lT L + 1) ^ k)).foldl (cst L t0 k ts) s = Fb L t0 k ts s
  | 0, ts, s => by rfl
  | k + 1, ts, s => by
    have hB : 0 < lT L + 1 := by omega
    have hp : 0 < (lT L + 1) ^ k := Nat.pow_pos hB
    rw [Nat.pow_succ', foldl_blocks, List.range_succ_eq_map, List.foldl_cons, List.foldl_map]
    have first : (List.range ((lT L + 1) ^ k)).foldl (fun s c => cst L t0 (k + 1) ts s (0 * (lT L + 1) ^ k + c)) s = bstep L t0 s ts := by
      obtain ⟨P, hP⟩ : ∃ P, (lT L + 1) ^ k = P + 1 := ⟨(lT L + 1) ^ k - 1, by omega⟩
      have each : ∀ (s : BSt) (c : Nat), c < (lT L + 1) ^ k → cst L t0 (k + 1) ts s (0 * (lT L + 1) ^ k + c) = if c = 0 then bstep L t0 s ts else s := by
        intro s c hc
        unfold cst
        have e : dl (lT L + 1) (k + 1) (0 * (lT L + 1) ^ k + c) = 0 :: dl (lT L + 1) k c := by
          show ((0 * (lT L + 1) ^ k + c) / (lT L + 1) ^ k % (lT L + 1)) :: dl (lT L + 1) k (0 * (lT L + 1) ^ k + c) = _
          rw [dl_top hB hc, dl_add hB k k 0 c (Nat.le_refl _)]
        rw [e]
        have z := zeros_iff hB k c hc
        by_cases h : c = 0
        · have : fm ts (0 :: dl (lT L + 1) k c) = some ts := by
            unfold fm; rw [if_pos (z.mpr h)]
          rw [this, if_pos h]
        · have : fm ts (0 :: dl (lT L + 1) k c) = none := by
            unfold fm; rw [if_neg (fun q => h (z.mp q))]
          rw [this, if_neg h]
      rw [foldl_congr (g := fun s c => if c = 0 then bstep L t0 s ts else s) _ _ (fun s c hc => each s c (List.mem_range.mp hc)), hP, List.range_succ_eq_map, List.foldl_cons, List.foldl_map, if_pos rfl]
      refine foldl_same _ _ _ (fun t => ?_)
      rw [if_neg (by omega)]
    rw [first]
    show _ = (List.range (lT L)).foldl (fun s t => Fb L t0 k (ts ++ [t]) s) (bstep L t0 s ts)
    refine foldl_congr _ _ (fun s t ht => ?_)
    rw [← cst_all L t0 k (ts ++ [t]) s]
    refine foldl_congr _ _ (fun s c hc => ?_)
    have hc' := List.mem_range.mp hc
    have ht' := List.mem_range.mp ht
    unfold cst
    have e : dl (lT L + 1) (k + 1) (Nat.succ t * (lT L + 1) ^ k + c) = (t + 1) :: dl (lT L + 1) k c := by
      show ((Nat.succ t * (lT L + 1) ^ k + c) / (lT L + 1) ^ k % (lT L + 1)) :: dl (lT L + 1) k (Nat.succ t * (lT L + 1) ^ k + c) = _
      rw [dl_top (by omega) hc', dl_add hB k k _ c (Nat.le_refl _)]
    rw [e]
    rfl
