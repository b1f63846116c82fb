/-! THE PURE PART. Tools on Int32 and on memories, and the relation between the two memories. -/
theorem ld_at {f : Nat → Int32} {n k : Nat} (h : k < n) (hn : n < 2 ^ 31) : ld f n (nI k) = some (f k) := by
  unfold ld
  have h1 := nI_in h hn
  rw [if_pos h1, nI_clamp (by omega)]
theorem sta_at {M : Mem} {q n k : Nat} {x : Int32} (h : k < n) (hn : n < 2 ^ 31) : sta M q n (nI k) x = some (ms M q k x) := by
  unfold sta
  have h1 := nI_in h hn
  rw [if_pos h1, nI_clamp (by omega)]
theorem ms_g (M : Mem) (q j : Nat) (x : Int32) (q' j' : Nat) : (ms M q j x).1 q' j' = if q' = q ∧ j' = j then x else M.1 q' j' := by
  unfold ms va_up upd
  by_cases h1 : q' = q
  · subst h1
    by_cases h2 : j' = j
    · subst h2; simp
    · simp [h2]
  · simp [h1]
theorem ms_2 (M : Mem) (q j : Nat) (x : Int32) : (ms M q j x).2 = M.2 := rfl
theorem ml_1 (M : Mem) (x : Int64) : (ml M x).1 = M.1 := rfl
theorem ml_2 (M : Mem) (x : Int64) : (ml M x).2 = x := rfl
theorem ms_eq (M : Mem) (q j : Nat) (x : Int32) : (ms M q j x).1 q j = x := by rw [ms_g]; simp
theorem ms_ne {M : Mem} {q j : Nat} {x : Int32} {q' j' : Nat} (h : q' ≠ q ∨ j' ≠ j) : (ms M q j x).1 q' j' = M.1 q' j' := by
  rw [ms_g, if_neg]
  intro hh
  rcases h with h | h
  · exact h hh.1
  · exact h hh.2
theorem nIe {a b : Nat} (h : nI a = nI b) (ha : a < 2 ^ 31) (hb : b < 2 ^ 31) : a = b := (nI_eq ha hb).mp h
theorem nI_m {n : Nat} (k : Int32) (hk : k < 0) (h : n < 2 ^ 31) : ¬ nI n = k := by
  intro e
  rw [← e] at hk
  exact nI_pos h hk
theorem nI_m9 {n : Nat} (h : n < 2 ^ 31) : ¬ nI n = (-9 : Int32) := nI_m _ (by decide) h
theorem nI_mM {n : Nat} (h : n < 2 ^ 31) : ¬ nI n = (-1000000 : Int32) := nI_m _ (by decide) h
/-- an int is a place of n, or not -/
theorem ixs (x : Int32) (n : Nat) (hn : n < 2 ^ 31) : (∃ j : Nat, j < n ∧ x = nI j) ∨ (x < 0 ∨ nI n ≤ x) := by
  rcases pk_ix x hn with h | h | h
  · exact Or.inr (Or.inl h)
  · exact Or.inr (Or.inr h)
  · exact Or.inl h
theorem nlt_of_le {x y : Int32} (h : x ≤ y) : ¬ y < x := Int32.not_lt.mpr h
theorem le_of_nlt {x y : Int32} (h : ¬ y < x) : x ≤ y := Int32.not_lt.mp h
theorem lt_of_nle {x y : Int32} (h : ¬ x ≤ y) : y < x := Int32.not_le.mp h
theorem nle_of_lt {x y : Int32} (h : x < y) : ¬ y ≤ x := Int32.not_le.mpr h
theorem pred_lt {x : Int32} {n : Nat} (hn : n < 2 ^ 30) (h : nI n ≤ x) : nI n - 1 < x := by
  refine Int32.lt_iff_toInt_lt.mpr ?_
  have h1 := Int32.le_iff_toInt_le.mp h
  rw [nI_toInt (by omega)] at h1
  rw [show (1 : Int32) = nI 1 from rfl, pk_sub_toInt (by omega) (by omega)]
  omega
theorem pred_ge {j n : Nat} (hn : n < 2 ^ 30) (h : j < n) : ¬ nI n - 1 < nI j := by
  rw [show (1 : Int32) = nI 1 from rfl, pk_sub (by omega)]
  exact nI_nlt (by omega) (by omega)
theorem fX5_in_yes {a lo hi : Int32} (h1 : ¬ a < lo) (h2 : ¬ hi < a) : fX5_in a lo hi = some 1 := by unfold fX5_in; rw [if_neg h1, if_neg h2]
theorem fX5_in_no {a lo hi : Int32} (h : a < lo ∨ hi < a) : fX5_in a lo hi = some 0 := by
  unfold fX5_in
  by_cases h1 : a < lo
  · rw [if_pos h1]
  · rw [if_neg h1, if_pos (h.resolve_left h1)]
theorem zb0 : zb 0 = some 0 := by decide
theorem zb1 : zb 1 = some 1 := by decide
/-- the land in numbers: row 0: how many towns, roads, stops; 1 bids; 2, 3 a road's towns; 4 its miles; 5 a stop's town; 6 its rest; 7 the hour in which he comes; 8 the road by which he comes -/
abbrev Lnd : Type := Nat → Nat → Nat
abbrev lT (L : Lnd) : Nat := L 0 0
abbrev lR (L : Lnd) : Nat := L 0 1
abbrev lS (L : Lnd) : Nat := L 0 2
def omin (a b : Option Nat) : Option Nat := match a, b with
  | none, b => b
  | some x, none => some x
  | some x, some y => some (if y < x then y else x)
def oadd (a b : Option Nat) : Option Nat := match a, b with
  | some x, some y => some (x + y)
  | _, _ => none
/-- direct ways: by the roads r < n -/
def fwE (L : Lnd) : Nat → Nat → Nat → Option Nat
  | 0, a, b => if a = b then some 0 else none
  | r + 1, a, b => if (a = L 2 r ∧ b = L 3 r) ∨ (a = L 3 r ∧ b = L 2 r) then omin (fwE L r a b) (some (L 4 r)) else fwE L r a b
/-- ways by the towns k < n -/
def fwP (L : Lnd) : Nat → Nat → Nat → Option Nat
  | 0, a, b => fwE L (lR L) a b
  | k + 1, a, b => omin (fwP L k a b) (oadd (fwP L k a k) (fwP L k k b))
def dist (L : Lnd) (a b : Nat) : Option Nat := fwP L (lT L) a b
def encC (o : Option Nat) : Int32 := match o with
  | none => -9
  | some v => nI v
def encM (o : Option Nat) : Int32 := match o with
  | none => -1000000
  | some v => nI v
/-- the land is well told -/
def Lok (L : Lnd) : Prop :=
  lT L ≤ 6 ∧ lR L ≤ 10 ∧ lS L ≤ 10 ∧ (∀ i, i < lT L → L 1 i ≤ 99) ∧
  (∀ r, r < lR L → L 2 r < lT L ∧ L 3 r < lT L ∧ L 2 r ≠ L 3 r ∧ 1 ≤ L 4 r ∧ L 4 r ≤ 30) ∧
  (∀ k, k < lS L → L 5 k < lT L ∧ L 6 k ≤ 9 ∧ L 7 k ≤ 39 * k) ∧
  (∀ k, k + 1 < lS L → L 8 (k + 1) < lR L ∧ ((L 2 (L 8 (k + 1)) = L 5 k ∧ L 3 (L 8 (k + 1)) = L 5 (k + 1)) ∨ (L 2 (L 8 (k + 1)) = L 5 (k + 1) ∧ L 3 (L 8 (k + 1)) = L 5 k)) ∧ L 7 (k + 1) = L 7 k + L 6 k + L 4 (L 8 (k + 1)))
/-- the places' numbers: towns, then each road's miles -/
def plR (L : Lnd) : Nat → List Nat
  | 0 => []
  | r + 1 => plR L r ++ (List.range (L 4 r - 1)).map (fun i => 100 * (r + 1) + (i + 1))
def places (L : Lnd) : List Nat := List.range (lT L) ++ plR L (lR L)
/-- the class's land at the cell b -/
def LC (b : Nat) (L : Lnd) (f : Nat → Nat → Int32) : Prop :=
  f b 0 = nI (lT L) ∧ f b 2 = nI (lR L) ∧ f b 6 = nI (lS L) ∧
  (∀ i, i < lT L → f (b + 1) i = nI (L 1 i)) ∧
  (∀ r, r < lR L → f (b + 2) r = nI (L 2 r) ∧ f (b + 3) r = nI (L 3 r) ∧ f (b + 4) r = nI (L 4 r)) ∧
  (∀ k, k < lS L → f (b + 5) k = nI (L 5 k) ∧ f (b + 6) k = nI (L 6 k) ∧ f (b + 7) k = nI (L 7 k)) ∧
  (∀ k, k + 1 < lS L → f (b + 8) (k + 1) = nI (L 8 (k + 1)))
/-- what the class measures of it -/
def LCm (b : Nat) (L : Lnd) (f : Nat → Nat → Int32) : Prop :=
  (∀ a, a < lT L → ∀ c, c < lT L → f (b + 9) (a * 6 + c) = encC (dist L a c)) ∧
  f b 12 = nI (places L).length ∧ (∀ i, i < (places L).length → f (b + 10) i = nI ((places L).getD i 0))
/-- the reference's land -/
def LR (L : Lnd) (g : Nat → Nat → Int32) : Prop :=
  g 0 13 = nI (lT L) ∧ g 0 14 = nI (lR L) ∧ g 0 15 = nI (lS L) ∧
  (∀ i, i < lT L → g 2 i = nI (L 1 i)) ∧
  (∀ r, r < lR L → g 3 (3 * r) = nI (L 2 r) ∧ g 3 (3 * r + 1) = nI (L 3 r) ∧ g 3 (3 * r + 2) = nI (L 4 r)) ∧
  (∀ k, k < lS L → g 4 k = nI (L 5 k) ∧ g 5 k = nI (L 6 k) ∧ g 8 k = nI (L 7 k)) ∧
  (∀ k, k + 1 < lS L → g 7 (k + 1) = nI (L 8 (k + 1)))
def LRm (L : Lnd) (g : Nat → Nat → Int32) : Prop := ∀ a, a < lT L → ∀ c, c < lT L → g 6 (6 * a + c) = encM (dist L a c)
/-- the text -/
def TX (f g : Nat → Nat → Int32) : Prop := ∃ n : Nat, n ≤ 300 ∧ f 1 1 = nI n ∧ g 0 3 = nI n ∧ ∀ i, i < n → ∃ c : Nat, c < 256 ∧ f 2 i = nI c ∧ g 1 i = nI c
/-- the hour that is now and what was seen: the class's cell p (28, 32, 36), the reference's row q from o on -/
def SEq (T p q o : Nat) (f g : Nat → Nat → Int32) : Prop :=
  ∃ now cnt : Nat, now ≤ 999 ∧ cnt ≤ 8 ∧ f p 0 = nI now ∧ g q o = nI now ∧ f p 1 = nI cnt ∧ g q (o + 1) = nI cnt ∧
    ∀ k, k < cnt → ∃ t c h : Nat, t < T ∧ c < 24 ∧ h ≤ 999 ∧ f (p + 1) k = nI t ∧ f (p + 2) k = nI c ∧ f (p + 3) k = nI h ∧ g q (o + 2 + 3 * k) = nI t ∧ g q (o + 2 + 3 * k + 1) = nI c ∧ g q (o + 2 + 3 * k + 2) = nI h
/-- an image -/
def IM (T p o i : Nat) (f g : Nat → Nat → Int32) : Prop := (f p 5 = 0 ∧ g 11 i = 0) ∨ (f p 5 = 1 ∧ g 11 i = 1 ∧ SEq T p 10 o f g)
def PT (f : Nat → Nat → Int32) : Prop := (f 0 1 = 0 ∧ f 0 2 = 1) ∨ (f 0 1 = 1 ∧ f 0 2 = 0)
abbrev tl (f : Nat → Nat → Int32) : Nat := lp (f 0 1)
abbrev dr (f : Nat → Nat → Int32) : Nat := lp (f 0 2)
def InvL (L : Lnd) (M J : Mem) : Prop :=
  Lok L ∧ PT M.1 ∧ (LC (tl M.1) L M.1 ∧ LCm (tl M.1) L M.1) ∧ (LR L J.1 ∧ LRm L J.1) ∧ TX M.1 J.1 ∧ SEq (lT L) 28 9 0 M.1 J.1 ∧ IM (lT L) 32 0 0 M.1 J.1 ∧ IM (lT L) 36 26 1 M.1 J.1 ∧ M.2 = J.2
def Inv (M J : Mem) : Prop := ∃ L : Lnd, InvL L M J
