theorem firstOf_L {P Ln l : Nat} {K La F Le : Nat → Nat} {kinds laneOf : Nat → Int32} (hG : GWf P K La kinds laneOf) (hL : LnW P Ln La F Le) (hl : l < Ln) :
    ∀ (d n p : Nat), p + d = F l → d < n → f_X8_firstOf_L2 1000 (nI l) laneOf n (nI p) = some (nI (F l)) := by
  have hP := hG.1
  obtain ⟨h1, h2, h3, h4⟩ := hL
  obtain ⟨a1, a2, a3⟩ := h2 l hl
  intro d
  induction d with
  | zero =>
    intro n p g1 g2
    obtain ⟨n, rfl⟩ : ∃ k, n = k + 1 := ⟨n - 1, by omega⟩
    obtain rfl : p = F l := by omega
    rw [f_X8_firstOf_L2, gd_i (by omega) (by omega), nI_clamp (by omega), (hG.2 (F l) (by omega)).2.2.1, h4 l hl (F l) (by omega) (by omega), if_pos rfl]
  | succ d ih =>
    intro n p g1 g2
    obtain ⟨n, rfl⟩ : ∃ k, n = k + 1 := ⟨n - 1, by omega⟩
    have hp : p < P := by omega
    obtain ⟨b1, b2, b3, b4⟩ := hG.2 p hp
    have hne : ¬ nI (La p) = nI l := fun e => by
      have e2 := (nI_eq (by omega) (by omega)).mp e
      have := (h3 p hp).2.1
      rw [e2] at this
      omega
    rw [f_X8_firstOf_L2, gd_i (by omega) (by omega), nI_clamp (by omega), b3, if_neg hne, nI_1]
    exact ih n (p + 1) (by omega) (by omega)
theorem firstOf_ok {P Ln l : Nat} {K La F Le : Nat → Nat} {kinds laneOf : Nat → Int32} (hG : GWf P K La kinds laneOf) (hL : LnW P Ln La F Le) (hl : l < Ln) : f_X8_firstOf 1000 laneOf (nI l) = some (nI (F l)) := by
  have hP := hG.1
  obtain ⟨a1, a2, a3⟩ := hL.2.1 l hl
  exact firstOf_L hG hL hl (F l) 1000 0 (by omega) (by omega)
/-- what is told of a lane -/
def lnV (P b : Nat) (K La F Le : Nat → Nat) (S l : Nat) (x : Int32) : Int32 := if x = 0 then nI (Le l) else if x = 1 then nI (F l) else if x = 2 then nI (pc9 (S &&& lnM P La l)) else if x = 3 then nI (spN P b K La (S &&& lnM P La l)) else if x = 4 then alV b (spN P b K La (S &&& lnM P La l)) else -102
theorem mLane_ok {P Ln b S l : Nat} {K La F Le : Nat → Nat} {kinds laneOf : Nat → Int32} (hG : GWf P K La kinds laneOf) (hb1 : 1 ≤ b) (hb : b ≤ 3) (hS : S < 512) (hL : LnW P Ln La F Le) (hl : l < Ln) (R nu : Nat → Int32) (x : Int32) :
    ∃ R' nu' : Nat → Int32, f_X8_tellLane 1000 (nI P) (nI S) (nI b) R laneOf kinds nu (nI l) x = some (lnV P b K La F Le S l x, R', nu') := by
  have hP := hG.1
  have h3 := hL.1
  obtain ⟨a1, a2, a3⟩ := hL.2.1 l hl
  have hm := lnM_lt (La := La) (l := l) hP
  have hn := spN_le (b := b) (K := K) (La := La) hP (S &&& lnM P La l)
  have h9 := pc9_le (S &&& lnM P La l)
  unfold f_X8_tellLane lnV
  by_cases e0 : x = 0
  · rw [if_pos e0, if_pos e0, pinsOf_ok hG (by omega), ob1_s, ones_ok _ hm, ob1_s, ← ln_run hP hL hl, run6c _ (by omega) _ (by omega) a2 (by omega)]
    exact ⟨R, nu, rfl⟩
  rw [if_neg e0, if_neg e0]
  by_cases e1 : x = 1
  · rw [if_pos e1, if_pos e1, firstOf_ok hG hL hl, ob1_s]
    exact ⟨R, nu, rfl⟩
  rw [if_neg e1, if_neg e1]
  by_cases e2 : x = 2
  · rw [if_pos e2, if_pos e2, pinsOf_ok hG (by omega), ob1_s, nx_and, ones_ok _ (and_lt hm), ob1_s, Nat.and_comm]
    exact ⟨R, nu, rfl⟩
  rw [if_neg e2, if_neg e2]
  obtain ⟨nu', q1⟩ := numberOf_ok hG hb hS (show l < 3 by omega) nu
  by_cases e3 : x = 3
  · rw [if_pos e3, if_pos e3, q1, ob2_s]
    exact ⟨R, nu', rfl⟩
  rw [if_neg e3, if_neg e3]
  by_cases e4 : x = 4
  · obtain ⟨R', q2, q3⟩ := layRows_ok (show b < 4 by omega) hb1 R
    unfold f_X8_alikeOf
    rw [if_pos e4, if_pos e4, q3, ob1_s, q1, ob2_s, alikeOf_ok (by omega) hb1 q2 (by omega), ob3_s]
    exact ⟨R', nu', rfl⟩
  rw [if_neg e4, if_neg e4]
  exact ⟨R, nu, rfl⟩
theorem hasLane_x {P : Nat} (x : Int32) : f_X1_hasLane 1000 (nI P) x = some (if x < 0 ∨ nI P ≤ x then 0 else 1) := by
  unfold f_X1_hasLane
  by_cases h1 : x < 0
  · rw [if_pos h1, if_pos (Or.inl h1)]
  · rw [if_neg h1]
    by_cases h2 : nI P ≤ x
    · rw [if_pos h2, if_pos (Or.inr h2)]
    · rw [if_neg h2, if_neg (fun h => h.elim h1 h2)]
theorem isLane_ok {P : Nat} (hP : P ≤ 9) (x : Int32) : f_X8_isLane 1000 (nI P) x = some (if x < 0 ∨ nI P ≤ x then 0 else 1) := by
  unfold f_X8_isLane
  rw [in_pin 1000 x hP, ob1_s]
  by_cases h : x < 0 ∨ nI P ≤ x
  · rw [if_pos h]; rfl
  · rw [if_neg h]; rfl
theorem cLane_ok {P Ln b law S l : Nat} {K La F Le : Nat → Nat} {firsts lengths : Nat → Int32} {size tr tl : Int32} {fi co ta : Nat → Int32} (hP : P ≤ 9) (hmo : mono P La) (hb1 : 1 ≤ b) (hb : b ≤ 3) (hlaw : law ≤ 1) (hS : S < 2 ^ P) (hL : LnW P Ln La F Le) (hA : LnA Ln F Le firsts lengths) (hl : l < Ln) (hR : StrR P b K La size tr tl fi co ta) {f old : Int32} {R nu wi fe mo li : Nat → Int32} (hW : RowR f R) (hO : OutR P b law K La old nu wi fe mo li) (x : Int32) :
    ∃ (o f' : Int32) (R' nu' wi' fe' mo' li' : Nat → Int32), RowR f' R' ∧ OutR P b law K La o nu' wi' fe' mo' li' ∧ f_X7_lane 1000 old (nI P) (nI Ln) (nI b) (nI law) (nI S) f R size tr tl ta fi co nu wi fe mo li firsts lengths (nI l) x = some (lnV P b K La F Le S l x, o, f', R', nu', wi', fe', mo', li') := by
  have h3 := hL.1
  obtain ⟨a1, a2, a3⟩ := hL.2.1 l hl
  have h5 := pow9 hP hS
  have hn := spN_le (b := b) (K := K) (La := La) hP (S &&& lnM P La l)
  have h9 := pc9_le (S &&& lnM P La l)
  unfold f_X7_lane lnV
  rw [hasLane_x, ob1_s, if_neg (show ¬ (nI l < 0 ∨ nI Ln ≤ nI l) from fun g => g.elim (nI_pos (by omega)) (nI_ge (by omega) (by omega))), if_neg n10]
  by_cases e0 : x = 0
  · rw [if_pos e0, if_pos e0, gd_i (by omega) (by omega), nI_clamp (by omega), (hA l hl).2]
    exact ⟨_, _, _, _, _, _, _, _, hW, hO, rfl⟩
  rw [if_neg e0, if_neg e0]
  by_cases e1 : x = 1
  · rw [if_pos e1, if_pos e1, gd_i (by omega) (by omega), nI_clamp (by omega), (hA l hl).1]
    exact ⟨_, _, _, _, _, _, _, _, hW, hO, rfl⟩
  rw [if_neg e1, if_neg e1]
  by_cases e2 : x = 2
  · rw [if_pos e2, if_pos e2, standingIn_ok hP hL hA hl, ob1_s, bitCount_ok _ (and_lt h5), ob1_s]
    exact ⟨_, _, _, _, _, _, _, _, hW, hO, rfl⟩
  rw [if_neg e2, if_neg e2]
  obtain ⟨nu', wi', fe', mo', li', q1, q2⟩ := cNol_ok hP (by omega) hmo hb hlaw hS hL hA hl hR hO
  by_cases e3 : x = 3
  · rw [if_pos e3, if_pos e3, q2, ob7_s]
    exact ⟨_, _, _, _, _, _, _, _, hW, q1, rfl⟩
  rw [if_neg e3, if_neg e3]
  by_cases e4 : x = 4
  · obtain ⟨R', q3, q4⟩ := rowsNow_ok (show b < 4 by omega) hb1 hW
    rw [if_pos e4, if_pos e4, q4, ob2_s, q2, ob7_s, alike_ok (by omega) hb1 q3 (by omega), ob1_s]
    exact ⟨_, _, _, _, _, _, _, _, q3.r (by omega) hb1, q1, rfl⟩
  rw [if_neg e4, if_neg e4]
  exact ⟨_, _, _, _, _, _, _, _, hW, hO, rfl⟩
theorem k_lane {P Ln b law S : Nat} {K La F Le : Nat → Nat} {kinds laneOf firsts lengths : Nat → Int32} {size tr tl : Int32} {fi co ta : Nat → Int32} (hG : GWf P K La kinds laneOf) (hmo : mono P La) (hb1 : 0 < P → 1 ≤ b) (hb : b ≤ 3) (hlaw : law ≤ 1) (hS : S < 2 ^ P) (hL : LnW P Ln La F Le) (hA : LnA Ln F Le firsts lengths) (hR : StrR P b K La size tr tl fi co ta) {f old : Int32} {R nu wi fe mo li : Nat → Int32} (hW : RowR f R) (hO : OutR P b law K La old nu wi fe mo li) (M mn : Nat → Int32) (x1 x2 : Int32) :
    ∃ (a0 o f' : Int32) (R' nu' wi' fe' mo' li' M' mn' : Nat → Int32), RowR f' R' ∧ OutR P b law K La o nu' wi' fe' mo' li' ∧ f_X7_lane 1000 old (nI P) (nI Ln) (nI b) (nI law) (nI S) f R size tr tl ta fi co nu wi fe mo li firsts lengths x1 x2 = some (a0, o, f', R', nu', wi', fe', mo', li') ∧ f_X8_lane 1000 (nI P) (nI Ln) (nI S) (nI b) M laneOf kinds mn x1 x2 = some (a0, M', mn') := by
  have hP := hG.1
  have h3 := hL.1
  have h5 := pow9 hP hS
  by_cases hx : x1 < 0 ∨ nI Ln ≤ x1
  · refine ⟨-101, old, f, R, nu, wi, fe, mo, li, M, mn, hW, hO, ?_, ?_⟩
    · unfold f_X7_lane
      rw [hasLane_x, ob1_s, if_pos hx, if_pos rfl]
    · unfold f_X8_lane
      rw [isLane_ok (by omega), ob1_s, if_pos hx, if_pos rfl]
  · obtain ⟨l, hl, rfl⟩ := pin_x (show Ln ≤ 9 by omega) hx
    have hp : 0 < P := by have := hL.2.1 l hl; omega
    obtain ⟨o, f', R', nu', wi', fe', mo', li', q1, q2, q3⟩ := cLane_ok hP hmo (hb1 hp) hb hlaw hS hL hA hl hR hW hO x2
    obtain ⟨M', mn', q4⟩ := mLane_ok hG (hb1 hp) hb h5 hL hl M mn x2
    refine ⟨_, o, f', R', nu', wi', fe', mo', li', M', mn', q1, q2, q3, ?_⟩
    unfold f_X8_lane
    rw [isLane_ok (by omega), ob1_s, if_neg hx, if_neg n10, q4]
    rfl
