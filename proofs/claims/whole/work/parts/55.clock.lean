/-! where he is, how far off, what the town's clock says -/
/-- at how many of the stops < r he has come, at hour h -/
def camN (L : Lnd) (h : Nat) : Nat → Nat
  | 0 => 0
  | r + 1 => if h < L 7 r then camN L h r else r + 1
abbrev cam (L : Lnd) (h : Nat) : Nat := camN L h (lS L)
theorem camN_le (L : Lnd) (h : Nat) : ∀ r, camN L h r ≤ r
  | 0 => Nat.le_refl _
  | r + 1 => by
    unfold camN
    have := camN_le L h r
    by_cases c : h < L 7 r
    · rw [if_pos c]; omega
    · rw [if_neg c]; omega
theorem cam_le (L : Lnd) (h : Nat) : cam L h ≤ lS L := camN_le L h (lS L)
theorem camN_y {L : Lnd} {h r : Nat} (c : h < L 7 r) : camN L h (r + 1) = camN L h r := if_pos c
theorem camN_n {L : Lnd} {h r : Nat} (c : ¬ h < L 7 r) : camN L h (r + 1) = r + 1 := if_neg c
theorem com_mono {L : Lnd} (hL : Lok L) {k : Nat} (h : k + 1 < lS L) : L 7 k + 1 ≤ L 7 (k + 1) := by
  have h1 := hL.2.2.2.2.2.2 k h
  have h2 := hL.2.2.2.2.1 _ h1.1
  omega
theorem camN_full {L : Lnd} (hL : Lok L) {h : Nat} : ∀ k, k < lS L → ¬ h < L 7 k → camN L h k = k
  | 0, _, _ => rfl
  | k + 1, hk, c => by
    have := com_mono hL hk
    unfold camN
    rw [if_neg (by omega)]
theorem camN_pos {L : Lnd} {h : Nat} : ∀ r, 0 < camN L h r → L 7 (camN L h r - 1) ≤ h
  | 0, c => absurd c (Nat.lt_irrefl 0)
  | r + 1, c => by
    unfold camN at c ⊢
    by_cases d : h < L 7 r
    · rw [if_pos d] at c ⊢; exact camN_pos r c
    · rw [if_neg d]; simp only [Nat.add_sub_cancel]; omega
theorem camN_lt {L : Lnd} (hL : Lok L) {h : Nat} : ∀ r, r ≤ lS L → camN L h r < r → h < L 7 (camN L h r)
  | 0, _, c => absurd c (Nat.not_lt_zero _)
  | r + 1, hr, c => by
    unfold camN at c ⊢
    by_cases d : h < L 7 r
    · rw [if_pos d] at c ⊢
      by_cases e : camN L h r < r
      · exact camN_lt hL r (by omega) e
      · have := camN_le L h r
        have e2 : camN L h r = r := by omega
        rw [e2]; exact d
    · rw [if_neg d] at c; omega
theorem LR.sJ {L : Lnd} {J J' : Mem} (h4 : LR L J.1) (g : sJ J J') : LR L J'.1 := by
  obtain ⟨g1, ⟨g2, g3, g4, g5⟩, g6⟩ := g
  unfold LR at h4 ⊢
  rw [g3, g4, g5, g1 2 (by omega) (by omega), g1 3 (by omega) (by omega), g1 4 (by omega) (by omega), g1 5 (by omega) (by omega), g1 7 (by omega) (by omega), g1 8 (by omega) (by omega)]
  exact h4
theorem LRm.sJ {L : Lnd} {J J' : Mem} (h5 : LRm L J.1) (g : sJ J J') : LRm L J'.1 := by
  obtain ⟨g1, -, -⟩ := g
  unfold LRm at h5 ⊢
  rw [g1 6 (by omega) (by omega)]
  exact h5
theorem sub_le0 {a b : Nat} (h : a ≤ b) (hb : b < 2 ^ 30) : nI a - nI b ≤ 0 := by
  refine Int32.le_iff_toInt_le.mpr ?_
  rw [pk_sub_toInt (by omega) hb]
  show (a : Int) - b ≤ 0
  omega
theorem i100 : (100 : Int32) = nI 100 := rfl
theorem i24 : (24 : Int32) = nI 24 := rfl
theorem i12 : (12 : Int32) = nI 12 := rfl
theorem i6 : (6 : Int32) = nI 6 := rfl
theorem rmi_at {a d : Nat} (ha : a < 2 ^ 31) (h0 : 0 < d) (hd : d < 2 ^ 31) : rmi (nI a) (nI d) = some (nI (a % d)) := by
  unfold rmi
  rw [if_neg (nI_ne0 h0 hd), pk_rem ha h0 hd]
theorem dvi_at {a d : Nat} (ha : a < 2 ^ 31) (h0 : 0 < d) (hd : d < 2 ^ 31) : dvi (nI a) (nI d) = some (nI (a / d)) := by
  unfold dvi
  rw [if_neg (nI_ne0 h0 hd), pk_div ha h0 hd]
/-- a place on a road, m miles from its first town -/
def offP (L : Lnd) (t r m : Nat) : Option Nat := match dist L (L 2 r) t, dist L (L 3 r) t with
  | some x, some y => some (if L 4 r - m + y < m + x then L 4 r - m + y else m + x)
  | _, _ => none
/-- the miles from the first town, of one who left the town f and has gone m -/
abbrev mil (L : Lnd) (r f m : Nat) : Nat := if L 2 r = f then m else L 4 r - m
abbrev stp (L : Lnd) (h : Nat) : Nat := cam L h - 1
abbrev gon (L : Lnd) (h : Nat) : Nat := h - (L 7 (stp L h) + L 6 (stp L h))
abbrev atT (L : Lnd) (h : Nat) : Prop := h ≤ L 7 (stp L h) + L 6 (stp L h) ∨ cam L h = lS L
abbrev wayR (L : Lnd) (h : Nat) : Nat := L 8 (cam L h)
def offS (L : Lnd) (t h : Nat) : Option Nat :=
  if cam L h = 0 then none else if atT L h then dist L (L 5 (stp L h)) t else offP L t (wayR L h) (mil L (wayR L h) (L 5 (stp L h)) (gon L h))
def clk (L : Lnd) (t h : Nat) : Option Nat := (offS L t h).map (fun v => (12 + v) % 24)
def plV (L : Lnd) (h : Nat) : Int32 :=
  if cam L h = 0 then -9 else if atT L h then nI (L 5 (stp L h)) else nI (100 * (wayR L h + 1) + mil L (wayR L h) (L 5 (stp L h)) (gon L h))
/-- on the way: which road, and how far gone -/
theorem on_way {L : Lnd} (hL : Lok L) {h : Nat} (c : ¬ cam L h = 0) (d : ¬ atT L h) : wayR L h < lR L ∧ stp L h + 1 = cam L h ∧ cam L h < lS L ∧ 1 ≤ gon L h ∧ gon L h < L 4 (wayR L h) ∧ ((L 2 (wayR L h) = L 5 (stp L h) ∧ L 3 (wayR L h) = L 5 (cam L h)) ∨ (L 2 (wayR L h) = L 5 (cam L h) ∧ L 3 (wayR L h) = L 5 (stp L h))) := by
  have h1 := cam_le L h
  have h2 : ¬ cam L h = lS L := fun e => d (Or.inr e)
  have h3 : ¬ h ≤ L 7 (stp L h) + L 6 (stp L h) := fun e => d (Or.inl e)
  have e : stp L h + 1 = cam L h := by unfold stp; omega
  have hk : stp L h + 1 < lS L := by omega
  have h4 := hL.2.2.2.2.2.2 (stp L h) hk
  rw [e] at h4
  have hc : cam L h < lS L := by omega
  have h5 : h < L 7 (cam L h) := camN_lt hL (h := h) (lS L) (Nat.le_refl _) hc
  have h6 := h4.2.2
  refine ⟨h4.1, e, hc, ?_, ?_, h4.2.1⟩
  · show 1 ≤ h - (L 7 (stp L h) + L 6 (stp L h)); omega
  · show h - (L 7 (stp L h) + L 6 (stp L h)) < L 4 (L 8 (cam L h)); omega
theorem offP_le {L : Lnd} (hL : Lok L) {t r m v : Nat} (hr : r < lR L) (hm : m ≤ L 4 r) (h : offP L t r m = some v) : v ≤ 1950 := by
  have hR := lRT hL hr
  unfold offP at h
  cases h1 : dist L (L 2 r) t with
  | none => rw [h1] at h; cases h
  | some x =>
    cases h2 : dist L (L 3 r) t with
    | none => rw [h1, h2] at h; cases h
    | some y =>
      rw [h1, h2] at h
      have g1 := dist_le hL h1
      have g2 := dist_le hL h2
      simp only [Option.some.injEq] at h
      by_cases c : L 4 r - m + y < m + x
      · rw [if_pos c] at h; omega
      · rw [if_neg c] at h; omega
theorem mil_le {L : Lnd} {r f m : Nat} (h : m ≤ L 4 r) : mil L r f m ≤ L 4 r := by
  unfold mil
  by_cases c : L 2 r = f
  · rw [if_pos c]; exact h
  · rw [if_neg c]; omega
theorem offS_le {L : Lnd} (hL : Lok L) {t h v : Nat} (g : offS L t h = some v) : v ≤ 1950 := by
  unfold offS at g
  by_cases c : cam L h = 0
  · rw [if_pos c] at g; cases g
  rw [if_neg c] at g
  by_cases d : atT L h
  · rw [if_pos d] at g; have := dist_le hL g; omega
  · rw [if_neg d] at g
    obtain ⟨w1, -, -, w2, w3, -⟩ := on_way hL c d
    exact offP_le hL w1 (mil_le (by omega)) g
theorem encC_9 {o : Option Nat} (h : ∀ v, o = some v → v < 2 ^ 31) : encC o = -9 ↔ o = none := by
  cases o with
  | none => exact ⟨fun _ => rfl, fun _ => rfl⟩
  | some v => exact ⟨fun e => absurd e (nI_m9 (h v rfl)), fun e => by cases e⟩
theorem encC_none : encC none = -9 := rfl
theorem encC_some (v : Nat) : encC (some v) = nI v := rfl
theorem way_eq (L : Lnd) (h : Nat) : L 8 (cam L h) = wayR L h := rfl
theorem gon_eq (L : Lnd) (h : Nat) : h - (L 7 (stp L h) + L 6 (stp L h)) = gon L h := rfl
section PURE2
variable {L : Lnd} {M J : Mem} {b : Nat}
theorem c_lastCome_lp (hL : Lok L) (hC : LC b L M.1) {h : Nat} (hh : h < 2 ^ 31) (K : Int32 → Option Int32) : ∀ (n r : Nat), r ≤ lS L → lS L < r + n → fX1_lastCome_4 b (nI h) M K n (nI (camN L h r) - 1) (nI r) = K (nI (cam L h) - 1)
  | 0, r, h1, h2 => by omega
  | n + 1, r, h1, h2 => by
    have hR := hL.2.2.1
    unfold fX1_lastCome_4
    rw [hC.2.2.1]
    by_cases e : r = lS L
    · rw [if_pos (by rw [e]; exact Int32.le_refl _), e]
    · have hr : r < lS L := by omega
      have q := hL.2.2.2.2.2.1 r hr
      have hq := hC.2.2.2.2.2.1 r hr
      have ih := c_lastCome_lp hL hC hh K n (r + 1) hr (by omega)
      simp only [nI_1]
      rw [if_neg (nI_ge hr (by omega)), ld_at (by omega) (by omega), bnd, hq.2.2]
      by_cases c : h < L 7 r
      · rw [if_pos (nI_lt c (by omega))]
        rw [camN_y c] at ih
        exact ih
      · rw [if_neg (nI_nlt (by omega) hh)]
        rw [camN_n c, nI_pred] at ih
        exact ih
theorem c_lastCome (hL : Lok L) (hC : LC b L M.1) {h : Nat} (hh : h < 2 ^ 31) : fX1_lastCome b (nI h) M = some (nI (cam L h) - 1) := by
  unfold fX1_lastCome
  exact c_lastCome_lp hL hC hh (fun y => some y) mF 0 (Nat.zero_le _) (fuel (by have := hL.2.2.1; omega))
theorem r_cameTo_lp (hL : Lok L) (hR : LR L J.1) {h : Nat} (hh : h < 2 ^ 31) (K : Int32 → Option Int32) : ∀ (n r : Nat), r ≤ lS L → lS L < r + n → fX5_cameTo_4 (nI h) J K n (nI (camN L h r)) (nI r) = K (nI (cam L h))
  | 0, r, h1, h2 => by omega
  | n + 1, r, h1, h2 => by
    have hS := hL.2.2.1
    unfold fX5_cameTo_4
    rw [hR.2.2.1]
    by_cases e : r = lS L
    · rw [if_pos (by rw [e]; exact Int32.le_refl _), e]
    · have hr : r < lS L := by omega
      have q := hL.2.2.2.2.2.1 r hr
      have hq := hR.2.2.2.2.2.1 r hr
      have ih := r_cameTo_lp hL hR hh K n (r + 1) hr (by omega)
      simp only [nI_1, Int32.add_zero]
      rw [if_neg (nI_ge hr (by omega)), ld_at (by omega) (by omega), bnd, hq.2.2]
      have e2 := @camN_full L hL h r hr
      by_cases c : h < L 7 r
      · rw [if_pos (nI_lt c (by omega))]
        rw [camN_y c] at ih
        exact ih
      · rw [if_neg (nI_nlt (by omega) hh), e2 c]
        rw [camN_n c] at ih
        exact ih
theorem r_cameTo (hL : Lok L) (hR : LR L J.1) {h : Nat} (hh : h < 2 ^ 31) : fX5_cameTo (nI h) J = some (nI (cam L h)) := by
  unfold fX5_cameTo
  exact r_cameTo_lp hL hR hh (fun y => some y) mF 0 (Nat.zero_le _) (fuel (by have := hL.2.2.1; omega))
theorem bad_m1 {n : Nat} (hn : n < 2 ^ 30) (h : n = 0) (N : Nat) : bad N (nI n - 1) := by
  subst h; exact Or.inl (by decide)
theorem bad_m9 (N : Nat) : bad N (-9 : Int32) := Or.inl (by decide)
theorem c_placeAt (hL : Lok L) (hC : LC b L M.1) {h : Nat} (hh : h ≤ 9999) : fX1_placeAt b (nI h) M = some (plV L h) := by
  have hT := hL.1
  have hS := hL.2.2.1
  have hRn := hL.2.1
  have hcl := cam_le L h
  unfold fX1_placeAt plV
  rw [c_lastCome hL hC (by omega), bnd, c_isStop hC.2.2.1, bnd]
  by_cases c : cam L h = 0
  · rw [if_pos (show bad (lS L) (nI (cam L h) - 1) from bad_m1 (by omega) c _), if_pos rfl, if_pos c]
  have hs1 : stp L h + 1 = cam L h := by unfold stp; omega
  have hs2 : stp L h < lS L := by omega
  have e1 : nI (cam L h) - 1 = nI (stp L h) := by rw [← hs1, nI_pred]
  have hq := hC.2.2.2.2.2.1 _ hs2
  have hb := hL.2.2.2.2.2.1 _ hs2
  rw [if_neg c, e1, if_neg (nbad_j (by omega) hs2), if_neg (by decide), c_leaves hL hC hs2, bnd, c_isStop hC.2.2.1, bnd, nI_1, hs1]
  have l5 : ld (M.1 (b + 5)) 10 (nI (stp L h)) = some (nI (L 5 (stp L h))) := by rw [ld_at (by omega) (by omega), hq.1]
  rw [l5, bnd]
  by_cases d : cam L h = lS L
  · rw [if_pos (show bad (lS L) (nI (cam L h)) from Or.inr (by rw [d]; exact Int32.le_refl _)), if_pos rfl, if_pos (show atT L h from Or.inr d)]
    by_cases e : nI h - nI (L 7 (stp L h) + L 6 (stp L h)) ≤ 0
    · rw [if_pos e]
    · rw [if_neg e, c_isRoad hC.2.1, if_pos (bad_m9 _), bnd, if_pos rfl]
  · have hd : cam L h < lS L := by omega
    rw [if_neg (nbad_j (by omega) hd), if_neg (by decide)]
    have hw := hC.2.2.2.2.2.2 (stp L h) (by omega)
    rw [hs1] at hw
    rw [ld_at (by omega) (by omega), hw, bnd]
    by_cases e : h ≤ L 7 (stp L h) + L 6 (stp L h)
    · rw [if_pos (sub_le0 e (by omega)), if_pos (show atT L h from Or.inl e)]
    · have nt : ¬ atT L h := fun q => q.elim e d
      obtain ⟨w1, -, -, w2, w3, w4⟩ := on_way hL c nt
      have hrr := hC.2.2.2.2.1 _ w1
      have hrb := lRT hL w1
      have hb5 := hb.1
      rw [way_eq L h, if_neg nt, pk_sub (by omega), gon_eq L h, if_neg (nI_nle (by omega) (by omega)), c_isRoad hC.2.1, if_neg (nbad_j (by omega) w1), bnd, if_neg (by decide), ld_at (by omega) (by omega), hrr.1, bnd, bnd, ld_at (by omega) (by omega), hrr.2.2, bnd, pk_sub (by omega), nI_1, i100, pk_mul, nI_add, nI_add]
      unfold mil
      by_cases z : L 2 (wayR L h) = L 5 (stp L h)
      · rw [if_pos (by rw [z]), if_pos z]
      · rw [if_neg (fun q => z (nIe q (by omega) (by omega))), if_neg z]
theorem c_dfp_town (hL : Lok L) (hC : LC b L M.1) (hm : LCm b L M.1) {t0 t : Nat} (h0 : t0 < lT L) (ht : t < lT L) : fX1_distanceFromPlace b (nI t0) (nI t) M = some (encC (dist L t0 t)) := by
  have hT := hL.1
  unfold fX1_distanceFromPlace
  rw [if_neg (show ¬ (100 : Int32) ≤ nI t0 from nI_ge (b := 100) (by omega) (by omega)), c_distance hL hC hm h0 ht, bnd]
theorem c_dfp_none (hC : LC b L M.1) (x : Int32) : fX1_distanceFromPlace b (-9) x M = some (-9) := by
  unfold fX1_distanceFromPlace fX1_distance
  rw [if_neg (by decide), c_isTown hC.1, if_pos (bad_m9 _), bnd, if_pos rfl, bnd]
theorem c_dfp_road (hL : Lok L) (hC : LC b L M.1) (hm : LCm b L M.1) {t r m : Nat} (ht : t < lT L) (hr : r < lR L) (h1 : m ≤ L 4 r) : fX1_distanceFromPlace b (nI (100 * (r + 1) + m)) (nI t) M = some (encC (offP L t r m)) := by
  have hT := hL.1
  have hRn := hL.2.1
  have hR := lRT hL hr
  have hq := hC.2.2.2.2.1 r hr
  unfold fX1_distanceFromPlace
  rw [if_pos (show (100 : Int32) ≤ nI (100 * (r + 1) + m) from nI_le (a := 100) (by omega) (by omega)), i100, dvi_at (by omega) (by omega) (by omega), bnd, rmi_at (by omega) (by omega) (by omega), show (100 * (r + 1) + m) / 100 = r + 1 by omega, show (100 * (r + 1) + m) % 100 = m by omega, nI_pred, c_isRoad hC.2.1, if_neg (nbad_j (by omega) hr), bnd, if_neg (by decide), bnd, ld_at (by omega) (by omega), hq.1, bnd, c_distance hL hC hm hR.1 ht, bnd, ld_at (by omega) (by omega), hq.2.1, bnd, c_distance hL hC hm hR.2.1 ht, bnd]
  unfold offP
  cases g1 : dist L (L 2 r) t with
  | none => rw [encC_none, if_pos rfl]
  | some x =>
    have b1 := dist_le hL g1
    rw [encC_some, if_neg (nI_m9 (show x < 2 ^ 31 by omega))]
    cases g2 : dist L (L 3 r) t with
    | none => rw [encC_none, if_pos rfl]
    | some y =>
      have b2 := dist_le hL g2
      rw [encC_some, if_neg (nI_m9 (show y < 2 ^ 31 by omega)), ld_at (by omega) (by omega), hq.2.2, bnd]
      show some (if nI (L 4 r) - nI m + nI y < nI m + nI x then nI (L 4 r) - nI m + nI y else nI m + nI x) = some (nI (if L 4 r - m + y < m + x then L 4 r - m + y else m + x))
      rw [pk_sub h1, nI_add, nI_add]
      by_cases z : L 4 r - m + y < m + x
      · rw [if_pos (nI_lt z (by omega)), if_pos z]
      · rw [if_neg (nI_nlt (by omega) (by omega)), if_neg z]
theorem c_distanceAt (hL : Lok L) (hC : LC b L M.1) (hm : LCm b L M.1) {t h : Nat} (ht : t < lT L) (hh : h ≤ 9999) : fX1_distanceAt b (nI t) (nI h) M = some (encC (offS L t h)) := by
  unfold fX1_distanceAt
  rw [c_placeAt hL hC hh, bnd]
  unfold plV offS
  by_cases c : cam L h = 0
  · rw [if_pos c, if_pos c, c_dfp_none hC, bnd]; rfl
  rw [if_neg c, if_neg c]
  by_cases d : atT L h
  · have hcl := cam_le L h
    have hb := hL.2.2.2.2.2.1 (stp L h) (by unfold stp; omega)
    rw [if_pos d, if_pos d, c_dfp_town hL hC hm hb.1 ht, bnd]
  · obtain ⟨w1, -, -, w2, w3, w4⟩ := on_way hL c d
    rw [if_neg d, if_neg d, c_dfp_road hL hC hm ht w1 (mil_le (by omega)), bnd]
theorem clk_24 {L : Lnd} {t h v : Nat} (g : clk L t h = some v) : v < 24 := by
  unfold clk at g
  cases e : offS L t h with
  | none => rw [e] at g; cases g
  | some x =>
    rw [e] at g
    have : (12 + x) % 24 = v := by simpa using g
    omega
theorem c_clockAt (hL : Lok L) (hC : LC b L M.1) (hm : LCm b L M.1) {t h : Nat} (ht : t < lT L) (hh : h ≤ 9999) : fX1_clockAt b (nI t) (nI h) M = some (encC (clk L t h)) := by
  unfold fX1_clockAt fX4_clockFor
  rw [c_distanceAt hL hC hm ht hh, bnd]
  unfold clk
  cases e : offS L t h with
  | none => rfl
  | some x =>
    have := offS_le hL e
    rw [encC_some, if_neg (nI_m9 (by omega)), i12, i24, nI_add, rmi_at (by omega) (by omega) (by omega), bnd, bnd]
    rfl
/-- what the reference's search leaves -/
def skd (L : Lnd) (h : Nat) (J : Mem) : Prop :=
  if cam L h = 0 then J.1 0 25 = -9 ∧ J.1 0 26 = -9 ∧ J.1 0 27 = 0
  else if atT L h then J.1 0 25 = nI (L 5 (stp L h)) ∧ J.1 0 26 = -9 ∧ J.1 0 27 = 0
  else J.1 0 25 = -9 ∧ J.1 0 26 = nI (wayR L h) ∧ J.1 0 27 = nI (gon L h) ∧ J.1 0 28 = nI (L 5 (stp L h))
theorem r_seeks (hL : Lok L) (hR : LR L J.1) {h : Nat} (hh : h ≤ 9999) : ∃ J' : Mem, fX5_seeks (nI h) J = some J' ∧ sJ J J' ∧ skd L h J' := by
  have hT := hL.1
  have hS := hL.2.2.1
  have hRn := hL.2.1
  have hcl := cam_le L h
  unfold fX5_seeks
  rw [bnd, bnd, bnd, bnd]
  have s0 : sJ J (ms (ms (ms (ms J 0 25 (-9)) 0 26 (-9)) 0 27 0) 0 28 (-9)) := (((sJ.put _ _ (by omega)).trans (sJ.put _ _ (by omega))).trans (sJ.put _ _ (by omega))).trans (sJ.put _ _ (by omega))
  have z25 : (ms (ms (ms (ms J 0 25 (-9)) 0 26 (-9)) 0 27 0) 0 28 (-9)).1 0 25 = -9 := by rw [ms_ne (by omega), ms_ne (by omega), ms_ne (by omega), ms_eq]
  have z26 : (ms (ms (ms (ms J 0 25 (-9)) 0 26 (-9)) 0 27 0) 0 28 (-9)).1 0 26 = -9 := by rw [ms_ne (by omega), ms_ne (by omega), ms_eq]
  have z27 : (ms (ms (ms (ms J 0 25 (-9)) 0 26 (-9)) 0 27 0) 0 28 (-9)).1 0 27 = 0 := by rw [ms_ne (by omega), ms_eq]
  have hR4 := hR.sJ s0
  generalize ms (ms (ms (ms J 0 25 (-9)) 0 26 (-9)) 0 27 0) 0 28 (-9) = J4 at s0 z25 z26 z27 hR4 ⊢
  rw [r_cameTo hL hR4 (by omega), bnd]
  by_cases c : cam L h = 0
  · rw [if_neg (show ¬ 0 ≤ nI (cam L h) - 1 by rw [c]; decide)]
    refine ⟨J4, rfl, s0, ?_⟩
    unfold skd
    rw [if_pos c]
    exact ⟨z25, z26, z27⟩
  have hs1 : stp L h + 1 = cam L h := by unfold stp; omega
  have hs2 : stp L h < lS L := by omega
  have e1 : nI (cam L h) - 1 = nI (stp L h) := by rw [← hs1, nI_pred]
  have hq := hR4.2.2.2.2.2.1 _ hs2
  have hb := hL.2.2.2.2.2.1 _ hs2
  have l5 : ld (J4.1 4) 20 (nI (stp L h)) = some (nI (L 5 (stp L h))) := by rw [ld_at (by omega) (by omega), hq.1]
  rw [e1, if_pos (nI_pos' (by omega)), ld_at (by omega) (by omega), hq.2.2, bnd, ld_at (by omega) (by omega), hq.2.1, bnd, nI_add, l5]
  simp only [bnd]
  have fin : atT L h → ∃ J' : Mem, some (ms J4 0 25 (nI (L 5 (stp L h)))) = some J' ∧ sJ J J' ∧ skd L h J' := by
    intro d
    refine ⟨_, rfl, s0.trans (sJ.put _ _ (by omega)), ?_⟩
    unfold skd
    rw [if_neg c, if_pos d, ms_eq, ms_ne (by omega), ms_ne (by omega)]
    exact ⟨rfl, z26, z27⟩
  by_cases e : h ≤ L 7 (stp L h) + L 6 (stp L h)
  · rw [if_pos (nI_le e (by omega))]
    exact fin (Or.inl e)
  rw [if_neg (nI_ge (by omega) (by omega)), hR4.2.2.1]
  by_cases d : cam L h = lS L
  · rw [if_pos (show nI (stp L h) = nI (lS L) - 1 by rw [← d, e1])]
    exact fin (Or.inr d)
  have hd : cam L h < lS L := by omega
  have nt : ¬ atT L h := fun q => q.elim e d
  have hw := hR4.2.2.2.2.2.2 (stp L h) (by omega)
  rw [hs1] at hw
  rw [if_neg (show ¬ nI (stp L h) = nI (lS L) - 1 by rw [show lS L = lS L - 1 + 1 by omega, nI_pred]; exact fun q => d (by have := nIe q (by omega) (by omega); omega)), nI_1, hs1, ld_at (by omega) (by omega), hw, pk_sub (by omega)]
  simp only [bnd]
  have e4 : (ms (ms J4 0 26 (nI (L 8 (cam L h)))) 0 27 (nI (h - (L 7 (stp L h) + L 6 (stp L h))))).1 4 = J4.1 4 := by rw [ms_row (by omega), ms_row (by omega)]
  rw [e4, l5, bnd]
  refine ⟨_, rfl, s0.trans (((sJ.put _ _ (by omega)).trans (sJ.put _ _ (by omega))).trans (sJ.put _ _ (by omega))), ?_⟩
  unfold skd
  rw [if_neg c, if_neg nt]
  refine ⟨?_, ?_, ?_, ?_⟩
  · rw [ms_ne (by omega), ms_ne (by omega), ms_ne (by omega)]; exact z25
  · rw [ms_ne (by omega), ms_ne (by omega), ms_eq]
  · rw [ms_ne (by omega), ms_eq]
  · rw [ms_eq]
theorem r_lesser {x y : Nat} (hx : x < 2 ^ 31) (hy : y < 2 ^ 31) : fX5_lesser (nI x) (nI y) = some (nI (if y ≤ x then y else x)) := by
  unfold fX5_lesser
  by_cases c : y ≤ x
  · rw [if_pos (nI_le c hx), if_pos c]
  · rw [if_neg (nI_ge (by omega) hy), if_neg c]
theorem r_farOn (hL : Lok L) (hR : LR L J.1) (hm : LRm L J.1) {t r f m : Nat} (ht : t < lT L) (hr : r < lR L) (hf : L 2 r = f ∨ L 3 r = f) (h1 : m ≤ L 4 r) : fX5_farOn (nI t) (nI r) (nI m) (nI f) J = some (encC (offP L t r (mil L r f m))) := by
  have hT := hL.1
  have hRn := hL.2.1
  have hRr := lRT hL hr
  have hq := hR.2.2.2.2.1 r hr
  unfold fX5_farOn
  simp only [i2, i3, pk_mul, nI_1, nI_add]
  rw [ld_at (by omega) (by omega), hq.1, bnd, bnd, ld_at (by omega) (by omega), hq.2.1, bnd, ld_at (by omega) (by omega), hq.2.2]
  simp only [bnd]
  unfold mil offP
  have es := dist_ends hL hr t
  rw [dist_sym L (L 2 r) t, dist_sym L (L 3 r) t]
  by_cases c : L 2 r = f
  · rw [if_pos (by rw [c]), if_pos c, ← c, r_farOf hL hm ht hRr.1, bnd, r_farOf hL hm ht hRr.2.1, bnd]
    cases g1 : dist L t (L 2 r) with
    | none => rw [encC_none, if_pos rfl]
    | some x =>
      have b1 := dist_le hL g1
      rw [encC_some, if_neg (nI_m9 (show x < 2 ^ 31 by omega))]
      cases g2 : dist L t (L 3 r) with
      | none => rw [g1, g2] at es; cases es
      | some y =>
        have b2 := dist_le hL g2
        show (fX5_lesser (nI x + nI m) (nI y + nI (L 4 r) - nI m)).bind _ = _
        rw [nI_add, nI_add, pk_sub (by omega), r_lesser (by omega) (by omega), bnd]
        show some (nI _) = some (nI _)
        congr 2
        by_cases z : L 4 r - m + y < m + x
        · rw [if_pos z, if_pos (by omega)]; omega
        · rw [if_neg z]
          by_cases z2 : y + L 4 r - m ≤ x + m
          · rw [if_pos z2]; omega
          · rw [if_neg z2]; omega
  · have hf2 : L 3 r = f := hf.resolve_left c
    rw [if_neg (fun q => c (nIe q (by omega) (by omega))), if_neg c, ← hf2, r_farOf hL hm ht hRr.2.1, bnd, r_farOf hL hm ht hRr.1, bnd]
    cases g1 : dist L t (L 3 r) with
    | none =>
      rw [encC_none, if_pos rfl]
      cases dist L t (L 2 r) <;> rfl
    | some x =>
      have b1 := dist_le hL g1
      rw [encC_some, if_neg (nI_m9 (show x < 2 ^ 31 by omega))]
      cases g2 : dist L t (L 2 r) with
      | none => rw [g1, g2] at es; cases es
      | some y =>
        have b2 := dist_le hL g2
        show (fX5_lesser (nI x + nI m) (nI y + nI (L 4 r) - nI m)).bind _ = _
        rw [nI_add, nI_add, pk_sub (by omega), r_lesser (by omega) (by omega), bnd]
        show some (nI _) = some (nI _)
        congr 2
        by_cases z : L 4 r - (L 4 r - m) + x < L 4 r - m + y
        · rw [if_pos z, if_neg (by omega)]; omega
        · rw [if_neg z]
          by_cases z2 : y + L 4 r - m ≤ x + m
          · rw [if_pos z2]; omega
          · rw [if_neg z2]; omega
theorem r_offIn (hL : Lok L) (hR : LR L J.1) (hm : LRm L J.1) {t h : Nat} (ht : t < lT L) (hh : h ≤ 9999) : ∃ J' : Mem, fX5_offIn (nI t) (nI h) J = some (encC (offS L t h), J') ∧ sJ J J' := by
  obtain ⟨J1, e1, s1, k1⟩ := r_seeks hL hR hh
  have hR1 := hR.sJ s1
  have hm1 := hm.sJ s1
  have hT := hL.1
  have hRn := hL.2.1
  refine ⟨J1, ?_, s1⟩
  unfold fX5_offIn
  rw [e1, bnd]
  unfold skd at k1
  unfold offS
  by_cases c : cam L h = 0
  · rw [if_pos c] at k1
    rw [k1.1, k1.2.1, if_pos rfl, if_pos rfl, if_pos c]; rfl
  rw [if_neg c] at k1
  rw [if_neg c]
  by_cases d : atT L h
  · rw [if_pos d] at k1
    have hcl := cam_le L h
    have hb := hL.2.2.2.2.2.1 (stp L h) (by unfold stp; omega)
    rw [if_pos d, k1.1, if_neg (nI_m9 (by omega)), r_farOf hL hm1 ht hb.1, bnd, dist_sym]
  · rw [if_neg d] at k1
    obtain ⟨w1, -, -, w2, w3, w4⟩ := on_way hL c d
    have hRr := lRT hL w1
    rw [if_neg d, k1.1, k1.2.1, k1.2.2.1, k1.2.2.2, if_pos rfl, if_neg (nI_m9 (by omega)), r_farOn hL hR1 hm1 ht w1 (by omega) (by omega), bnd]
theorem r_clockIn (hL : Lok L) (hR : LR L J.1) (hm : LRm L J.1) {t h : Nat} (ht : t < lT L) (hh : h ≤ 9999) : ∃ J' : Mem, fX5_clockIn (nI t) (nI h) J = some (encC (clk L t h), J') ∧ sJ J J' := by
  obtain ⟨J1, e1, s1⟩ := r_offIn hL hR hm ht hh
  refine ⟨J1, ?_, s1⟩
  unfold fX5_clockIn clk
  rw [e1, bnd]
  cases e : offS L t h with
  | none => rfl
  | some x =>
    have := offS_le hL e
    rw [if_neg (show ¬ (encC (some x), J1).1 = -9 from nI_m9 (by omega))]
    show (rmi (12 + nI x) 24).bind _ = _
    rw [i12, i24, nI_add, rmi_at (by omega) (by omega) (by omega), bnd]
    rfl
end PURE2
theorem pu_off (a1 : Int32) (a2 : Int32) {M J : Mem} (hI : Inv M J) : ∃ (r : Int32) (J1 : Mem), fX4_off a1 a2 M = some r ∧ fX5_off a1 a2 J = some (r, J1) ∧ Inv M J1 := by
  obtain ⟨L, hI⟩ := hI
  have hJ := inv_th hI
  unfold fX4_off fX5_off
  rw [bnd]
  generalize ms J 0 0 0 = J1 at hJ ⊢
  have hK := hJ
  have hk : Inv M J1 := ⟨L, hK⟩
  obtain ⟨hL, h2, ⟨hC, hCm⟩, ⟨hR, hRm⟩, -⟩ := hJ
  have hT := hL.1
  by_cases q : bad (lT L) a1
  · refine ⟨-1, J1, ?_, ?_, hk⟩ <;> simp only [c_isTown hC.1, r_isTown hL hR.1, q, bnd, ↓reduceIte]
  by_cases q2 : bad 1000 a2
  · refine ⟨-1, J1, ?_, ?_, hk⟩ <;> simp only [c_isTown hC.1, r_isTown hL hR.1, c_isHour, r_isHour, q, q2, n10, bnd, ↓reduceIte]
  obtain ⟨t, ht, rfl⟩ := nbad (by omega) q
  obtain ⟨h, hh, rfl⟩ := nbad (by omega) q2
  obtain ⟨J2, e2, s2⟩ := r_offIn hL hR hRm ht (h := h) (by omega)
  refine ⟨encC (offS L t h), J2, ?_, ?_, L, inv_sJ hK s2⟩
  · simp only [c_isTown hC.1, c_isHour, q, q2, n10, bnd, c_distanceAt hL hC hCm ht (show h ≤ 9999 by omega), ↓reduceIte]
  · simp only [r_isTown hL hR.1, r_isHour, q, q2, n10, bnd, e2, ↓reduceIte]
theorem pu_clock (a1 : Int32) (a2 : Int32) {M J : Mem} (hI : Inv M J) : ∃ (r : Int32) (J1 : Mem), fX4_clock a1 a2 M = some r ∧ fX5_clock a1 a2 J = some (r, J1) ∧ Inv M J1 := by
  obtain ⟨L, hI⟩ := hI
  have hJ := inv_th hI
  unfold fX4_clock fX5_clock
  rw [bnd]
  generalize ms J 0 0 0 = J1 at hJ ⊢
  have hK := hJ
  have hk : Inv M J1 := ⟨L, hK⟩
  obtain ⟨hL, h2, ⟨hC, hCm⟩, ⟨hR, hRm⟩, -⟩ := hJ
  have hT := hL.1
  by_cases q : bad (lT L) a1
  · refine ⟨-1, J1, ?_, ?_, hk⟩ <;> simp only [c_isTown hC.1, r_isTown hL hR.1, q, bnd, ↓reduceIte]
  by_cases q2 : bad 1000 a2
  · refine ⟨-1, J1, ?_, ?_, hk⟩ <;> simp only [c_isTown hC.1, r_isTown hL hR.1, c_isHour, r_isHour, q, q2, n10, bnd, ↓reduceIte]
  obtain ⟨t, ht, rfl⟩ := nbad (by omega) q
  obtain ⟨h, hh, rfl⟩ := nbad (by omega) q2
  obtain ⟨J2, e2, s2⟩ := r_clockIn hL hR hRm ht (h := h) (by omega)
  refine ⟨encC (clk L t h), J2, ?_, ?_, L, inv_sJ hK s2⟩
  · simp only [c_isTown hC.1, c_isHour, q, q2, n10, bnd, c_clockAt hL hC hCm ht (show h ≤ 9999 by omega), ↓reduceIte]
  · simp only [r_isTown hL hR.1, r_isHour, q, q2, n10, bnd, e2, ↓reduceIte]
theorem pu_where (a1 : Int32) (a2 : Int32) {M J : Mem} (hI : Inv M J) : ∃ (r : Int32) (J1 : Mem), fX4_where a1 a2 M = some r ∧ fX5_where a1 a2 J = some (r, J1) ∧ Inv M J1 := by
  obtain ⟨L, hI⟩ := hI
  have hJ := inv_th hI
  unfold fX4_where fX5_where
  rw [bnd]
  generalize ms J 0 0 0 = J1 at hJ ⊢
  have hK := hJ
  have hk : Inv M J1 := ⟨L, hK⟩
  obtain ⟨hL, h2, ⟨hC, hCm⟩, ⟨hR, hRm⟩, -⟩ := hJ
  have hT := hL.1
  have hRn := hL.2.1
  have hS := hL.2.2.1
  by_cases q : bad 1000 a1
  · refine ⟨-1, J1, ?_, ?_, hk⟩ <;> simp only [c_isHour, r_isHour, q, bnd, ↓reduceIte]
  have e7 : fX5_in a2 0 3 = some (if bad 4 a2 then (0 : Int32) else 1) := r_in2 4 3 rfl (by omega) a2
  by_cases q2 : bad 4 a2
  · have g0 : ¬ a2 = 0 := bne q2 0 (by omega) (by omega)
    have g1 : ¬ a2 = 1 := bne q2 1 (by omega) (by omega)
    have g2 : ¬ a2 = 2 := bne q2 2 (by omega) (by omega)
    have g3 : ¬ a2 = 3 := bne q2 3 (by omega) (by omega)
    refine ⟨-1, J1, ?_, ?_, hk⟩ <;> simp only [c_isHour, r_isHour, e7, q, q2, g0, g1, g2, g3, n10, bnd, ↓reduceIte]
  obtain ⟨h, hh, rfl⟩ := nbad (by omega) q
  obtain ⟨J2, e2, s2, k2⟩ := r_seeks hL hR (h := h) (by omega)
  have hK2 : Inv M J2 := ⟨L, inv_sJ hK s2⟩
  have hR2 := hR.sJ s2
  have cp := c_placeAt hL hC (h := h) (by omega)
  have hcl := cam_le L h
  have cl := c_lastCome hL hC (h := h) (by omega)
  have key : fX1_townAt (lp (M.1 0 1)) (nI h) M = some (J2.1 0 25) ∧ fX1_roadAt (lp (M.1 0 1)) (nI h) M = some (J2.1 0 26) ∧ fX1_goneAt (lp (M.1 0 1)) (nI h) M = some (J2.1 0 27) := by
    unfold fX1_townAt fX1_roadAt fX1_goneAt
    rw [cp, bnd, bnd, bnd]
    unfold plV
    unfold skd at k2
    by_cases c : cam L h = 0
    · rw [if_pos c] at k2 ⊢
      rw [k2.1, k2.2.1, k2.2.2, if_neg (by decide), if_neg (by decide), if_neg (by decide)]
      exact ⟨rfl, rfl, rfl⟩
    rw [if_neg c] at k2 ⊢
    by_cases d : atT L h
    · rw [if_pos d] at k2 ⊢
      have hb := (hL.2.2.2.2.2.1 (stp L h) (by unfold stp; omega)).1
      have z : ¬ (100 : Int32) ≤ nI (L 5 (stp L h)) := nI_ge (b := 100) (by omega) (by omega)
      rw [k2.1, k2.2.1, k2.2.2, if_neg z, if_neg z, if_neg z]
      exact ⟨rfl, rfl, rfl⟩
    · rw [if_neg d] at k2 ⊢
      obtain ⟨w1, w5, w6, w2, w3, w4⟩ := on_way hL c d
      have hRr := lRT hL w1
      have hm : mil L (wayR L h) (L 5 (stp L h)) (gon L h) ≤ 30 := Nat.le_trans (mil_le (by omega)) hRr.2.2.2.2
      have z : (100 : Int32) ≤ nI (100 * (wayR L h + 1) + mil L (wayR L h) (L 5 (stp L h)) (gon L h)) := nI_le (a := 100) (by omega) (by omega)
      rw [k2.1, k2.2.1, k2.2.2.1, if_pos z, if_pos z, if_pos z, i100, dvi_at (by omega) (by omega) (by omega), bnd, show (100 * (wayR L h + 1) + mil L (wayR L h) (L 5 (stp L h)) (gon L h)) / 100 = wayR L h + 1 by omega, nI_pred, cl, bnd, ← w5, nI_pred, c_leaves hL hC (by omega), bnd, pk_sub (by unfold gon at w2; omega)]
      exact ⟨rfl, rfl, rfl⟩
  rcases nb4 q2 with rfl | rfl | rfl | rfl
  · refine ⟨J2.1 0 25, J2, ?_, ?_, hK2⟩
    · simp only [c_isHour, q, n10, bnd, key.1, ↓reduceIte]
    · simp only [r_isHour, q, n10, bnd, e7, q2, e2, ↓reduceIte]
  · refine ⟨J2.1 0 26, J2, ?_, ?_, hK2⟩
    · simp only [c_isHour, q, n10, bnd, key.2.1, ↓reduceIte]
    · simp only [r_isHour, q, n10, bnd, e7, q2, e2, ↓reduceIte]
  · refine ⟨J2.1 0 27, J2, ?_, ?_, hK2⟩
    · simp only [c_isHour, q, n10, n20, n21, bnd, key.2.2, ↓reduceIte]
    · simp only [r_isHour, q, n10, n20, n21, bnd, e7, q2, e2, ↓reduceIte]
  · refine ⟨nI (cam L h), J2, ?_, ?_, hK2⟩
    · simp only [c_isHour, q, n10, n30, n31, n32, bnd, cl, Int32.sub_add_cancel, ↓reduceIte]
    · simp only [r_isHour, q, n10, n30, n31, n32, bnd, e7, q2, e2, r_cameTo hL hR2 (show h < 2 ^ 31 by omega), ↓reduceIte]
