/-! what is seen: sorts, ways; pins -/
def fel (k w : Nat) : Nat := if k = 1 then 2 else if k = 2 then 1 - w else if k = 3 then 0 else if k = 4 then 3 else 1 + w
def mt (w f : Nat) : Nat := trB (fun k => decide (fel k w = f)) 5
set_option maxRecDepth 100000 in
theorem stf_ok : ∀ w, w < 2 → ∀ f, f < 4 → f_X5_sortsThatFell 1000 (nI w) (nI f) = some (nI (mt w f)) := by decide +kernel
set_option maxRecDepth 100000 in
theorem fby_ok : ∀ k, k < 5 → ∀ w, w < 2 → f_X8_fellBy 1000 (nI k) (nI w) = some (nI (fel k w)) ∧ fel k w < 4 := by decide +kernel
theorem mt_bit {w f k : Nat} (hk : k < 5) : (mt w f).testBit k = decide (fel k w = f) := by
  unfold mt
  rw [trB_bit, decide_eq_true hk, Bool.true_and]
def srt (pe : Nat → Bool) (W F : Nat → Nat) : Nat → Nat
  | 0 => 31
  | i + 1 => if pe i = true then srt pe W F i &&& mt (W i) (F i) else srt pe W F i
theorem srt_lt (pe : Nat → Bool) (W F : Nat → Nat) : ∀ i, srt pe W F i < 32
  | 0 => by rw [srt]; omega
  | i + 1 => by
    rw [srt]
    by_cases h : pe i = true
    · rw [if_pos h]; exact and_lt (srt_lt pe W F i)
    · rw [if_neg h]; exact srt_lt pe W F i
def SeenF (z : Nat) (W F : Nat → Nat) (pins ways fell sights : Nat → Int32) : Prop := z ≤ 6 ∧ ∀ i, i < z → W i < 2 ∧ F i < 4 ∧ ways i = nI (W i) ∧ fell i = nI (F i) ∧ sights (3 * i) = pins i ∧ sights (3 * i + 1) = nI (W i) ∧ sights (3 * i + 2) = nI (F i)
theorem SeenR.f {size many : Int32} {pins ways fell sights : Nat → Int32} (h : SeenR size pins ways fell many sights) : ∃ (z : Nat) (W F : Nat → Nat), size = nI z ∧ many = nI z ∧ SeenF z W F pins ways fell sights := by
  obtain ⟨z, h1, h2, h3, h4⟩ := h
  refine ⟨z, fun i => (ways i).toNatClampNeg, fun i => (fell i).toNatClampNeg, h2, h3, h1, fun i hi => ?_⟩
  obtain ⟨p, w, f, g1, g2, g3, g4, g5, g6, g7, g8, g9⟩ := h4 i hi
  show (ways i).toNatClampNeg < 2 ∧ (fell i).toNatClampNeg < 4 ∧ ways i = nI (ways i).toNatClampNeg ∧ fell i = nI (fell i).toNatClampNeg ∧ sights (3 * i) = pins i ∧ sights (3 * i + 1) = nI (ways i).toNatClampNeg ∧ sights (3 * i + 2) = nI (fell i).toNatClampNeg
  rw [g5, g6, nI_clamp (show w < 2 ^ 31 by omega), nI_clamp (show f < 2 ^ 31 by omega)]
  exact ⟨by omega, by omega, rfl, rfl, by rw [g7, g4], g8, g9⟩
theorem cSort_L {z : Nat} {W F : Nat → Nat} {pins ways fell sights : Nat → Int32} (h : SeenF z W F pins ways fell sights) (x : Int32) :
    ∀ (d n i : Nat), i + d = z → d < n → f_X5_sortsOf_L5 1000 x (nI z) pins ways fell n (nI (srt (fun i => decide (pins i = x)) W F i)) (nI i) = some (nI (srt (fun i => decide (pins i = x)) W F z)) := by
  obtain ⟨h1, h2⟩ := h
  intro d
  induction d with
  | zero =>
    intro n i g1 g2
    obtain ⟨n, rfl⟩ : ∃ k, n = k + 1 := ⟨n - 1, by omega⟩
    obtain rfl : i = z := by omega
    rw [f_X5_sortsOf_L5, if_pos (nI_le (Nat.le_refl _) (by omega))]
  | succ d ih =>
    intro n i g1 g2
    obtain ⟨n, rfl⟩ : ∃ k, n = k + 1 := ⟨n - 1, by omega⟩
    obtain ⟨a1, a2, a3, a4, a5, a6, a7⟩ := h2 i (by omega)
    have go := ih n (i + 1) (by omega) (by omega)
    rw [srt] at go
    rw [f_X5_sortsOf_L5, if_neg (nI_ge (by omega) (by omega)), if_neg (show ¬ (6 : Int32) ≤ nI i from nI_ge (b := 6) (by omega) (by omega))]
    simp only [jm_s, gd_i (show i < 6 by omega) (show 6 < 2 ^ 31 by omega), nI_clamp (show i < 2 ^ 31 by omega)]
    rw [nI_1]
    by_cases e : pins i = x
    · rw [if_pos (decide_eq_true e)] at go
      rw [if_pos e, a3, a4, stf_ok _ a1 _ a2, ob1_s, nx_and]
      exact go
    · rw [if_neg (by rw [decide_eq_false e]; decide)] at go
      rw [if_neg e]
      exact go
theorem cSort_ok {z : Nat} {W F : Nat → Nat} {pins ways fell sights : Nat → Int32} (h : SeenF z W F pins ways fell sights) (x : Int32) : f_X5_sortsOf 1000 (nI z) pins ways fell x = some (nI (srt (fun i => decide (pins i = x)) W F z)) :=
  cSort_L h x z 1000 0 (by omega) (by have := h.1; omega)
theorem mSort_in {z k : Nat} {W F : Nat → Nat} {pins ways fell sights : Nat → Int32} (h : SeenF z W F pins ways fell sights) (hk : k < 5) (x : Int32) (kk : Int32 → Option Int32) :
    ∀ (d n i : Nat), i + d = z → d < n → f_X8_sortsOf_L15 1000 x (nI k) (nI z) sights kk n (nI (if (srt (fun i => decide (pins i = x)) W F i).testBit k = true then 1 else 0)) (nI (3 * i)) = kk (nI (if (srt (fun i => decide (pins i = x)) W F z).testBit k = true then 1 else 0)) := by
  obtain ⟨h1, h2⟩ := h
  intro d
  induction d with
  | zero =>
    intro n i g1 g2
    obtain ⟨n, rfl⟩ : ∃ k, n = k + 1 := ⟨n - 1, by omega⟩
    obtain rfl : i = z := by omega
    rw [f_X8_sortsOf_L15, mul3, if_pos (nI_le (Nat.le_refl _) (by omega))]
  | succ d ih =>
    intro n i g1 g2
    obtain ⟨n, rfl⟩ : ∃ k, n = k + 1 := ⟨n - 1, by omega⟩
    obtain ⟨a1, a2, a3, a4, a5, a6, a7⟩ := h2 i (by omega)
    obtain ⟨b1, b2⟩ := fby_ok k hk (W i) a1
    have go := ih n (i + 1) (by omega) (by omega)
    rw [srt, show 3 * (i + 1) = 3 * i + 3 by omega] at go
    rw [f_X8_sortsOf_L15, mul3, if_neg (nI_ge (by omega) (by omega)), show nI (3 * i) + 3 = nI (3 * i + 3) from nI_add _ _, show nI (3 * i) + 1 = nI (3 * i + 1) from nI_add _ _, show nI (3 * i) + 2 = nI (3 * i + 2) from nI_add _ _]
    simp only [jm_s, gd_i (show 3 * i < 18 by omega) (show 18 < 2 ^ 31 by omega), gd_i (show 3 * i + 1 < 18 by omega) (show 18 < 2 ^ 31 by omega), gd_i (show 3 * i + 2 < 18 by omega) (show 18 < 2 ^ 31 by omega), nI_clamp (show 3 * i < 2 ^ 31 by omega), nI_clamp (show 3 * i + 1 < 2 ^ 31 by omega), nI_clamp (show 3 * i + 2 < 2 ^ 31 by omega)]
    rw [a5, a6, a7, b1]
    simp only [ob1_s]
    by_cases s : (srt (fun i => decide (pins i = x)) W F i).testBit k = true
    · rw [if_pos s, if_neg (show ¬ nI 1 = (0 : Int32) from n10)]
      by_cases e : pins i = x
      · rw [if_pos (decide_eq_true e), Nat.testBit_and, s, mt_bit hk, Bool.true_and] at go
        rw [if_pos e]
        by_cases g : fel k (W i) = F i
        · rw [decide_eq_true g, if_pos rfl] at go
          rw [if_pos (by rw [g])]
          exact go
        · rw [decide_eq_false g, if_neg (by decide)] at go
          rw [if_neg (fun e2 => g ((nI_eq (by omega) (by omega)).mp e2))]
          exact go
      · rw [if_neg (show ¬ decide (pins i = x) = true by rw [decide_eq_false e]; decide), if_pos s] at go
        rw [if_neg e]
        exact go
    · rw [if_neg s, if_pos (show nI 0 = (0 : Int32) from rfl)]
      by_cases e : pins i = x
      · rw [if_pos (decide_eq_true e), Nat.testBit_and, Bool.not_eq_true _ |>.mp s, Bool.false_and, if_neg (by decide)] at go
        exact go
      · rw [if_neg (show ¬ decide (pins i = x) = true by rw [decide_eq_false e]; decide), if_neg s] at go
        exact go
theorem mSort_L {z : Nat} {W F : Nat → Nat} {pins ways fell sights : Nat → Int32} (h : SeenF z W F pins ways fell sights) (x : Int32) :
    ∀ (d n k : Nat), k + d = 5 → d < n → f_X8_sortsOf_L4 1000 x (nI z) sights n (nI (trB (fun k => (srt (fun i => decide (pins i = x)) W F z).testBit k) k)) (nI k) = some (nI (trB (fun k => (srt (fun i => decide (pins i = x)) W F z).testBit k) 5)) := by
  intro d
  induction d with
  | zero =>
    intro n k g1 g2
    obtain ⟨n, rfl⟩ : ∃ k, n = k + 1 := ⟨n - 1, by omega⟩
    obtain rfl : k = 5 := by omega
    rw [f_X8_sortsOf_L4, if_pos (by decide)]
  | succ d ih =>
    intro n k g1 g2
    obtain ⟨n, rfl⟩ : ∃ k, n = k + 1 := ⟨n - 1, by omega⟩
    have go := ih n (k + 1) (by omega) (by omega)
    have hz := h.1
    have hin := mSort_in h (show k < 5 by omega) x (fun a9 => jm (fun (a10 : Int32) => f_X8_sortsOf_L4 1000 x (nI z) sights n (nI (trB (fun k => (srt (fun i => decide (pins i = x)) W F z).testBit k) k) ||| a10) (nI k + (1 : Int32))) (fun j11 => if a9 = (0 : Int32) then (j11 (0 : Int32)) else (j11 ((1 : Int32) <<< (nI k &&& 31))))) z 1000 0 (by omega) (by omega)
    have e31 : (srt (fun i => decide (pins i = x)) W F 0).testBit k = true := by
      have : ∀ k, k < 5 → Nat.testBit 31 k = true := by decide
      exact this k (by omega)
    rw [if_pos e31] at hin
    rw [f_X8_sortsOf_L4, if_neg (show ¬ (5 : Int32) ≤ nI k from nI_ge (b := 5) (by omega) (by omega))]
    refine Eq.trans hin ?_
    rw [trB] at go
    simp only [jm_s]
    by_cases s : (srt (fun i => decide (pins i = x)) W F z).testBit k = true
    · rw [if_pos s] at go
      rw [if_pos s, if_neg (show ¬ nI 1 = (0 : Int32) from n10), sh1 k (by omega), fa_or, nI_1]
      exact go
    · rw [if_neg s, Nat.or_zero] at go
      rw [if_neg s, if_pos (show nI 0 = (0 : Int32) from rfl), show (0 : Int32) = nI 0 from rfl, fa_or, Nat.or_zero, nI_1]
      exact go
theorem trB_all {M : Nat} (h : M < 32) : trB (fun k => M.testBit k) 5 = M := by
  refine Nat.eq_of_testBit_eq (fun i => ?_)
  rw [trB_bit]
  by_cases hi : i < 5
  · rw [decide_eq_true hi, Bool.true_and]
  · rw [decide_eq_false hi, Bool.false_and, Nat.testBit_lt_two_pow (Nat.lt_of_lt_of_le h (Nat.pow_le_pow_right (n := 2) (by omega) (show 5 ≤ i by omega)))]
theorem mSort_ok {z : Nat} {W F : Nat → Nat} {pins ways fell sights : Nat → Int32} (h : SeenF z W F pins ways fell sights) (x : Int32) : f_X8_sortsOf 1000 (nI z) sights x = some (nI (srt (fun i => decide (pins i = x)) W F z)) := by
  have := mSort_L h x 5 1000 0 (by omega) (by omega)
  rw [trB_all (srt_lt _ W F z)] at this
  exact this
def wayV (M : Nat) : Int32 := (f_X5_wayFor 1000 (nI M)).getD 0
set_option maxRecDepth 100000 in
theorem wayC7 : ∀ M, M < 32 → f_X5_wayFor 1000 (nI M) = some (wayV M) := by decide +kernel
set_option maxRecDepth 100000 in
theorem wayC8 : ∀ M, M < 32 → (if nI M = (0 : Int32) then (some ((-1 : Int32))) else (ob1 (f_X8_worstBy 1000 (nI M) (1 : Int32)) (fun a2 => ob1 (f_X8_worstBy 1000 (nI M) (0 : Int32)) (fun a3 => if a3 ≤ a2 then (some ((0 : Int32))) else (some ((1 : Int32))))))) = some (wayV M) := by decide +kernel
theorem mWay_ok {z : Nat} {W F : Nat → Nat} {pins ways fell sights : Nat → Int32} (h : SeenF z W F pins ways fell sights) (x : Int32) : f_X8_wayOf 1000 (nI z) sights x = some (wayV (srt (fun i => decide (pins i = x)) W F z)) := by
  unfold f_X8_wayOf
  rw [mSort_ok h, ob1_s]
  exact wayC8 _ (srt_lt _ W F z)
/-- what is told of a pin -/
def pnV (P b : Nat) (K La : Nat → Nat) (S p M : Nat) (x : Int32) : Int32 := if x = 0 then nI (K p) else if x = 1 then nI (La p) else if x = 2 then nI (if S.testBit p then 1 else 0) else if x = 3 then nI (if canM S P b K La p 1 = true then fall P K La S p 1 else 0) else if x = 4 then nI M else if x = 5 then wayV M else -102
theorem mPin_ok {P b S p z : Nat} {K La W F : Nat → Nat} {kinds laneOf pins ways fell sights : Nat → Int32} (hG : GWf P K La kinds laneOf) (hb : b ≤ 3) (hS : S < 512) (hp : p < P) (h : SeenF z W F pins ways fell sights) (x : Int32) :
    f_X8_tellPin 1000 (nI P) (nI S) (nI b) (nI z) sights laneOf kinds (nI p) x = some (pnV P b K La S p (srt (fun i => decide (pins i = nI p)) W F z) x) := by
  have hP := hG.1
  obtain ⟨a1, a2, a3, a4⟩ := hG.2 p hp
  unfold f_X8_tellPin pnV
  by_cases e0 : x = 0
  · rw [if_pos e0, if_pos e0, gd_i (by omega) (by omega), nI_clamp (by omega), a1]
  rw [if_neg e0, if_neg e0]
  by_cases e1 : x = 1
  · rw [if_pos e1, if_pos e1, gd_i (by omega) (by omega), nI_clamp (by omega), a3]
  rw [if_neg e1, if_neg e1]
  by_cases e2 : x = 2
  · rw [if_pos e2, if_pos e2, bit9 S hS p (by omega)]
  rw [if_neg e2, if_neg e2]
  by_cases e3 : x = 3
  · rw [if_pos e3, if_pos e3, show (1 : Int32) = nI 1 from rfl, canBe_ok hG hS hb (by omega) (by omega) (by omega), ob1_s]
    by_cases hv : canM S P b K La p 1 = true
    · rw [if_pos hv, if_pos hv, if_neg (show ¬ nI 1 = (0 : Int32) from n10), fallsOf_ok hG hS (by omega) (by omega) (by omega), ob1_s]
    · rw [if_neg hv, if_neg hv, if_pos (show nI 0 = (0 : Int32) from rfl)]
      rfl
  rw [if_neg e3, if_neg e3]
  by_cases e4 : x = 4
  · rw [if_pos e4, if_pos e4, mSort_ok h, ob1_s]
  rw [if_neg e4, if_neg e4]
  by_cases e5 : x = 5
  · rw [if_pos e5, if_pos e5, mWay_ok h, ob1_s]
  rw [if_neg e5, if_neg e5]
theorem cPin_ok {P b S p z : Nat} {K La W F : Nat → Nat} {kinds laneOf pins ways fell sights : Nat → Int32} {size tr tl : Int32} {fi co ta : Nat → Int32} (hG : GWf P K La kinds laneOf) (hmo : mono P La) (hb : b ≤ 3) (hS : S < 512) (hR : StrR P b K La size tr tl fi co ta) (hp : p < P) (h : SeenF z W F pins ways fell sights) (x : Int32) :
    f_X7_pin 1000 (nI P) (nI S) (nI z) pins ways fell size tr tl fi co ta laneOf kinds (nI p) x = some (pnV P b K La S p (srt (fun i => decide (pins i = nI p)) W F z) x) := by
  have hP := hG.1
  obtain ⟨a1, a2, a3, a4⟩ := hG.2 p hp
  unfold f_X7_pin pnV
  rw [hasPin_x, ob1_s, if_neg (show ¬ (nI p < 0 ∨ nI P ≤ nI p) from fun g => g.elim (nI_pos (by omega)) (nI_ge (by omega) (by omega))), if_neg n10]
  by_cases e0 : x = 0
  · rw [if_pos e0, if_pos e0, gd_i (by omega) (by omega), nI_clamp (by omega), a1]
  rw [if_neg e0, if_neg e0]
  by_cases e1 : x = 1
  · rw [if_pos e1, if_pos e1, gd_i (by omega) (by omega), nI_clamp (by omega), a3]
  rw [if_neg e1, if_neg e1]
  by_cases e2 : x = 2
  · rw [if_pos e2, if_pos e2, bit9 S hS p (by omega)]
  rw [if_neg e2, if_neg e2]
  by_cases e3 : x = 3
  · obtain ⟨i, q1, q2⟩ := one_ok hP hmo hb hR hS hp (show 1 ≤ 1 by omega) (by omega)
    rw [if_pos e3, if_pos e3, show (1 : Int32) = nI 1 from rfl, q1, ob1_s, q2, ob1_s]
  rw [if_neg e3, if_neg e3]
  by_cases e4 : x = 4
  · rw [if_pos e4, if_pos e4, cSort_ok h, ob1_s]
  rw [if_neg e4, if_neg e4]
  by_cases e5 : x = 5
  · rw [if_pos e5, if_pos e5, cSort_ok h, ob1_s, wayC7 _ (srt_lt _ W F z), ob1_s]
  rw [if_neg e5, if_neg e5]
theorem k_pin {P b S : Nat} {K La : Nat → Nat} {kinds laneOf mk ml pins ways fell sights : Nat → Int32} {size tr tl zs zm : Int32} {fi co ta : Nat → Int32} (hG : GWf P K La kinds laneOf) (hM : GWf P K La mk ml) (hmo : mono P La) (hb : b ≤ 3) (hS : S < 512) (hR : StrR P b K La size tr tl fi co ta) (h : SeenR zs pins ways fell zm sights) (x1 x2 : Int32) :
    ∃ a0 : Int32, f_X7_pin 1000 (nI P) (nI S) zs pins ways fell size tr tl fi co ta laneOf kinds x1 x2 = some a0 ∧ f_X8_pin 1000 (nI P) (nI S) (nI b) zm sights ml mk x1 x2 = some a0 := by
  have hP := hG.1
  obtain ⟨z, W, F, rfl, rfl, hF⟩ := h.f
  by_cases hx : x1 < 0 ∨ nI P ≤ x1
  · refine ⟨-101, ?_, ?_⟩
    · unfold f_X7_pin
      rw [hasPin_x, ob1_s, if_pos hx, if_pos rfl]
    · unfold f_X8_pin
      rw [isPin_ok hP, ob1_s, if_pos hx, if_pos rfl]
  · obtain ⟨p, hp, rfl⟩ := pin_x hP hx
    refine ⟨_, cPin_ok hG hmo hb hS hR hp hF x2, ?_⟩
    unfold f_X8_pin
    rw [isPin_ok hP, ob1_s, if_neg hx, if_neg n10, mPin_ok hM hb hS hp hF x2]
    rfl
