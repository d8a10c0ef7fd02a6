/-! the outlook: who wins, how likely, the numbers -/
theorem OutR.of {P b law : Nat} {K La : Nat → Nat} {nu wi fe mo li : Nat → Int32} (h : Tabs P b law K La (fun t => t < 2 ^ P) nu wi fe mo li) : OutR P b law K La 0 nu wi fe mo li := ⟨Or.inl rfl, fun _ _ => h⟩
theorem outNow_ok {P b law : Nat} {K La : Nat → Nat} {size tr tl : Int32} {fi co ta : Nat → Int32} (hP : P ≤ 9) (h0 : 0 < P) (hmo : mono P La) (hb : b ≤ 3) (hlaw : law ≤ 1) (hR : StrR P b K La size tr tl fi co ta) {old : Int32} {nu wi fe mo li : Nat → Int32} (hO : OutR P b law K La old nu wi fe mo li) :
    ∃ nu' wi' fe' mo' li' : Nat → Int32, Tabs P b law K La (fun t => t < 2 ^ P) nu' wi' fe' mo' li' ∧ f_X7_outlookNow 1000 old (nI P) (nI law) size tr tl ta fi co nu wi fe mo li = some (0, nu', wi', fe', mo', li') := by
  unfold f_X7_outlookNow
  by_cases e : old = 0
  · rw [if_pos e, e]
    exact ⟨nu, wi, fe, mo, li, hO.2 e h0, rfl⟩
  · obtain ⟨nu', wi', fe', mo', li', q1, q2⟩ := fill_ok hP hmo hb hlaw hR nu wi fe mo li
    rw [if_neg e, q2, ob5_s]
    exact ⟨nu', wi', fe', mo', li', q1, rfl⟩
theorem cWins_ok {P b law S : Nat} {K La : Nat → Nat} {size tr tl : Int32} {fi co ta : Nat → Int32} (hP : P ≤ 9) (h0 : 0 < P) (hmo : mono P La) (hb : b ≤ 3) (hlaw : law ≤ 1) (hS : S < 2 ^ P) (hR : StrR P b K La size tr tl fi co ta) {old : Int32} {nu wi fe mo li : Nat → Int32} (hO : OutR P b law K La old nu wi fe mo li) :
    ∃ nu' wi' fe' mo' li' : Nat → Int32, OutR P b law K La 0 nu' wi' fe' mo' li' ∧ f_X7_wins 1000 old (nI P) (nI law) (nI S) size tr tl ta fi co nu wi fe mo li = some (nI (spW P b law K La S), 0, nu', wi', fe', mo', li') := by
  have h5 := pow9 hP hS
  obtain ⟨nu', wi', fe', mo', li', q1, q2⟩ := outNow_ok hP h0 hmo hb hlaw hR hO
  refine ⟨nu', wi', fe', mo', li', OutR.of q1, ?_⟩
  unfold f_X7_wins
  rw [hasGreen_ok hP, ob1_s, if_neg (show ¬ P = 0 by omega), if_neg n10, q2, ob6_s, gd_i h5 (by omega), nI_clamp (by omega), (q1 S hS).2.1]
theorem cLik_ok {P b law S : Nat} {K La : Nat → Nat} {size tr tl : Int32} {fi co ta : Nat → Int32} (hP : P ≤ 9) (h0 : 0 < P) (hmo : mono P La) (hb : b ≤ 3) (hlaw : law ≤ 1) (hS : S < 2 ^ P) (hR : StrR P b K La size tr tl fi co ta) {old : Int32} {nu wi fe mo li : Nat → Int32} (hO : OutR P b law K La old nu wi fe mo li) :
    ∃ nu' wi' fe' mo' li' : Nat → Int32, OutR P b law K La 0 nu' wi' fe' mo' li' ∧ f_X7_likely 1000 old (nI P) (nI law) (nI S) size tr tl ta fi co nu wi fe mo li = some (nI (spL P b law K La S), 0, nu', wi', fe', mo', li') := by
  have h5 := pow9 hP hS
  obtain ⟨nu', wi', fe', mo', li', q1, q2⟩ := outNow_ok hP h0 hmo hb hlaw hR hO
  refine ⟨nu', wi', fe', mo', li', OutR.of q1, ?_⟩
  unfold f_X7_likely
  rw [hasGreen_ok hP, ob1_s, if_neg (show ¬ P = 0 by omega), if_neg n10, q2, ob6_s, gd_i h5 (by omega), nI_clamp (by omega), (q1 S hS).2.2.2.2]
theorem sb_refl (S : Nat) : sb S S := fun _ h => h
theorem mWins_ok {P b law S : Nat} {K La : Nat → Nat} {kinds laneOf : Nat → Int32} (hG : GWf P K La kinds laneOf) (hb : b ≤ 3) (hlaw : law ≤ 1) (hS : S < 512) (wi sh lo ch : Nat → Int32) : ∃ wi' sh' lo' ch' : Nat → Int32, f_X8_winsOf 1000 (nI P) (nI S) (nI b) (nI law) wi sh lo laneOf kinds ch = some (nI (spW P b law K La S), wi', sh', lo', ch') := by
  obtain ⟨wi', sh', lo', ch', q1, q2⟩ := layAll_ok hG hb hlaw hS wi sh lo ch
  refine ⟨wi', sh', lo', ch', ?_⟩
  unfold f_X8_winsOf
  rw [q2, ob4_s, gd_i hS (by omega), nI_clamp (by omega), (q1 S (sb_refl S)).1]
theorem mLik_ok {P b law S : Nat} {K La : Nat → Nat} {kinds laneOf : Nat → Int32} (hG : GWf P K La kinds laneOf) (hb : b ≤ 3) (hlaw : law ≤ 1) (hS : S < 512) (wi sh lo ch : Nat → Int32) : ∃ wi' sh' lo' ch' : Nat → Int32, f_X8_likelyOf 1000 (nI P) (nI S) (nI b) (nI law) wi sh lo laneOf kinds ch = some (nI (spL P b law K La S), wi', sh', lo', ch') := by
  obtain ⟨wi', sh', lo', ch', q1, q2⟩ := layAll_ok hG hb hlaw hS wi sh lo ch
  refine ⟨wi', sh', lo', ch', ?_⟩
  unfold f_X8_likelyOf
  rw [q2, ob4_s, gd_i hS (by omega), nI_clamp (by omega), (q1 S (sb_refl S)).2.2.2]
theorem k_wins {P b law S : Nat} {K La : Nat → Nat} {kinds laneOf : Nat → Int32} {size tr tl : Int32} {fi co ta : Nat → Int32} (hG : GWf P K La kinds laneOf) (hmo : mono P La) (hb : b ≤ 3) (hlaw : law ≤ 1) (hS : S < 2 ^ P) (hR : StrR P b K La size tr tl fi co ta) {old : Int32} {nu wi fe mo li : Nat → Int32} (hO : OutR P b law K La old nu wi fe mo li) (w1 w2 w3 w4 : Nat → Int32) :
    ∃ (a0 o : Int32) (nu' wi' fe' mo' li' w1' w2' w3' w4' : Nat → Int32), OutR P b law K La o nu' wi' fe' mo' li' ∧ f_X7_wins 1000 old (nI P) (nI law) (nI S) size tr tl ta fi co nu wi fe mo li = some (a0, o, nu', wi', fe', mo', li') ∧ f_X8_wins 1000 (nI P) (nI S) (nI b) (nI law) w1 w2 w3 laneOf kinds w4 = some (a0, w1', w2', w3', w4') := by
  have hP := hG.1
  have h5 := pow9 hP hS
  by_cases e : P = 0
  · refine ⟨-103, old, nu, wi, fe, mo, li, w1, w2, w3, w4, hO, ?_, ?_⟩
    · unfold f_X7_wins
      rw [hasGreen_ok hP, ob1_s, if_pos e, if_pos rfl]
    · unfold f_X8_wins
      rw [lacks_ok hP, ob1_s, if_pos e, if_neg n10]
  · obtain ⟨nu', wi', fe', mo', li', q1, q2⟩ := cWins_ok hP (by omega) hmo hb hlaw hS hR hO
    obtain ⟨w1', w2', w3', w4', q3⟩ := mWins_ok hG hb hlaw h5 w1 w2 w3 w4
    refine ⟨_, 0, nu', wi', fe', mo', li', w1', w2', w3', w4', q1, q2, ?_⟩
    unfold f_X8_wins
    rw [lacks_ok hP, ob1_s, if_neg e, if_pos rfl, q3]
    rfl
theorem k_likely {P b law S : Nat} {K La : Nat → Nat} {kinds laneOf : Nat → Int32} {size tr tl : Int32} {fi co ta : Nat → Int32} (hG : GWf P K La kinds laneOf) (hmo : mono P La) (hb : b ≤ 3) (hlaw : law ≤ 1) (hS : S < 2 ^ P) (hR : StrR P b K La size tr tl fi co ta) {old : Int32} {nu wi fe mo li : Nat → Int32} (hO : OutR P b law K La old nu wi fe mo li) (w1 w2 w3 w4 : Nat → Int32) :
    ∃ (a0 o : Int32) (nu' wi' fe' mo' li' w1' w2' w3' w4' : Nat → Int32), OutR P b law K La o nu' wi' fe' mo' li' ∧ f_X7_likely 1000 old (nI P) (nI law) (nI S) size tr tl ta fi co nu wi fe mo li = some (a0, o, nu', wi', fe', mo', li') ∧ f_X8_likely 1000 (nI P) (nI S) (nI b) (nI law) w1 w2 w3 laneOf kinds w4 = some (a0, w1', w2', w3', w4') := by
  have hP := hG.1
  have h5 := pow9 hP hS
  by_cases e : P = 0
  · refine ⟨-103, old, nu, wi, fe, mo, li, w1, w2, w3, w4, hO, ?_, ?_⟩
    · unfold f_X7_likely
      rw [hasGreen_ok hP, ob1_s, if_pos e, if_pos rfl]
    · unfold f_X8_likely
      rw [lacks_ok hP, ob1_s, if_pos e, if_neg n10]
  · obtain ⟨nu', wi', fe', mo', li', q1, q2⟩ := cLik_ok hP (by omega) hmo hb hlaw hS hR hO
    obtain ⟨w1', w2', w3', w4', q3⟩ := mLik_ok hG hb hlaw h5 w1 w2 w3 w4
    refine ⟨_, 0, nu', wi', fe', mo', li', w1', w2', w3', w4', q1, q2, ?_⟩
    unfold f_X8_likely
    rw [lacks_ok hP, ob1_s, if_neg e, if_pos rfl, q3]
    rfl
/-! lanes -/
set_option maxRecDepth 100000 in
theorem run6 : ∀ f, f < 9 → ∀ m, m < 7 → 1 ≤ m → f + m ≤ 9 → ((((1 : Int32) <<< (nI m &&& 31)) - (1 : Int32)) <<< (nI f &&& 31)) = nI (rn f (f + m - 1)) := by decide +kernel
set_option maxRecDepth 100000 in
theorem run6c : ∀ f, f < 9 → ∀ m, m < 7 → 1 ≤ m → f + m ≤ 9 → pc9 (rn f (f + m - 1)) = m := by decide +kernel
/-- lanes as the class holds them -/
def LnW (P Ln : Nat) (La F Le : Nat → Nat) : Prop := Ln ≤ 3 ∧ (∀ l, l < Ln → F l + Le l ≤ P ∧ 1 ≤ Le l ∧ Le l ≤ 6) ∧ (∀ i, i < P → La i < Ln ∧ F (La i) ≤ i ∧ i < F (La i) + Le (La i)) ∧ (∀ l, l < Ln → ∀ i, F l ≤ i → i < F l + Le l → La i = l)
theorem WFg.ln {P Ln b law S st : Nat} {La F Le : Nat → Nat} (h : WFg P Ln b law S st La F Le) : LnW P Ln La F Le := ⟨h.2.1, h.2.2.2.2.2.2.2.2.2.1, h.2.2.2.2.2.2.2.2.2.2.1, h.2.2.2.2.2.2.2.2.2.2.2⟩
theorem ln_run {P Ln l : Nat} {La F Le : Nat → Nat} (hP : P ≤ 9) (h : LnW P Ln La F Le) (hl : l < Ln) : rn (F l) (F l + Le l - 1) = lnM P La l := by
  obtain ⟨h1, h2, h3, h4⟩ := h
  obtain ⟨a1, a2, a3⟩ := h2 l hl
  refine Nat.eq_of_testBit_eq (fun i => ?_)
  unfold lnM
  rw [rn_bit (by omega) (by omega), trB_bit]
  by_cases c : F l ≤ i ∧ i < F l + Le l
  · rw [decide_eq_true c.1, decide_eq_true (by omega : i ≤ F l + Le l - 1), decide_eq_true (by omega : i < P), decide_eq_true (h4 l hl i c.1 c.2)]
  · by_cases hi : i < P
    · have : ¬ La i = l := fun e => c (by have := (h3 i hi).2; rw [e] at this; exact this)
      rw [decide_eq_true hi, decide_eq_false this]
      by_cases g : F l ≤ i
      · rw [decide_eq_false (by omega : ¬ i ≤ F l + Le l - 1)]; simp
      · rw [decide_eq_false g]; simp
    · rw [decide_eq_false hi, decide_eq_false (by omega : ¬ i ≤ F l + Le l - 1)]; simp
def LnA (Ln : Nat) (F Le : Nat → Nat) (firsts lengths : Nat → Int32) : Prop := ∀ l, l < Ln → firsts l = nI (F l) ∧ lengths l = nI (Le l)
theorem standingIn_ok {P Ln l S : Nat} {La F Le : Nat → Nat} {firsts lengths : Nat → Int32} (hP : P ≤ 9) (h : LnW P Ln La F Le) (hA : LnA Ln F Le firsts lengths) (hl : l < Ln) : f_X1_standingIn 1000 (nI S) firsts lengths (nI l) = some (nI (S &&& lnM P La l)) := by
  have h3 := h.1
  obtain ⟨a1, a2, a3⟩ := h.2.1 l hl
  unfold f_X1_standingIn f_X7_bits
  rw [gd_i (by omega) (by omega), gd_i (by omega) (by omega), nI_clamp (by omega), (hA l hl).1, (hA l hl).2, ob1_s, run6 _ (by omega) _ (by omega) a2 (by omega), nx_and, ln_run hP h hl]
theorem and_lt {S M n : Nat} (h : S < n) : S &&& M < n := Nat.lt_of_le_of_lt Nat.and_le_left h
theorem cNol_ok {P Ln b law S l : Nat} {K La F Le : Nat → Nat} {firsts lengths : Nat → Int32} {size tr tl : Int32} {fi co ta : Nat → Int32} (hP : P ≤ 9) (h0 : 0 < P) (hmo : mono P La) (hb : b ≤ 3) (hlaw : law ≤ 1) (hS : S < 2 ^ P) (hL : LnW P Ln La F Le) (hA : LnA Ln F Le firsts lengths) (hl : l < Ln) (hR : StrR P b K La size tr tl fi co ta) {old : Int32} {nu wi fe mo li : Nat → Int32} (hO : OutR P b law K La old nu wi fe mo li) :
    ∃ nu' wi' fe' mo' li' : Nat → Int32, OutR P b law K La 0 nu' wi' fe' mo' li' ∧ f_X7_numberOfLane 1000 old (nI P) (nI law) (nI S) size tr tl ta fi co nu wi fe mo li firsts lengths (nI l) = some (nI (spN P b K La (S &&& lnM P La l)), 0, nu', wi', fe', mo', li') := by
  have h5 := pow9 hP hS
  have h6 : S &&& lnM P La l < 2 ^ P := and_lt hS
  have h7 := pow9 hP h6
  obtain ⟨nu', wi', fe', mo', li', q1, q2⟩ := outNow_ok hP h0 hmo hb hlaw hR hO
  refine ⟨nu', wi', fe', mo', li', OutR.of q1, ?_⟩
  unfold f_X7_numberOfLane
  rw [q2, ob6_s, standingIn_ok hP hL hA hl, ob1_s, gd_i h7 (by omega), nI_clamp (by omega), (q1 _ h6).1]
/-- the numbers of the lanes from l on, together -/
def nmX (P b : Nat) (K La : Nat → Nat) (S : Nat) : Nat → Nat → Nat → Nat
  | 0, _, x => x
  | d + 1, l, x => nmX P b K La S d (l + 1) (x ^^^ spN P b K La (S &&& lnM P La l))
theorem cNum_L {P Ln b law S : Nat} {K La F Le : Nat → Nat} {firsts lengths : Nat → Int32} {size tr tl : Int32} {fi co ta : Nat → Int32} (hP : P ≤ 9) (h0 : 0 < P) (hmo : mono P La) (hb : b ≤ 3) (hlaw : law ≤ 1) (hS : S < 2 ^ P) (hL : LnW P Ln La F Le) (hA : LnA Ln F Le firsts lengths) (hR : StrR P b K La size tr tl fi co ta) :
    ∀ (d n l x : Nat) (old : Int32) (nu wi fe mo li : Nat → Int32), l + d = Ln → d < n → OutR P b law K La old nu wi fe mo li → ∃ (o : Int32) (nu' wi' fe' mo' li' : Nat → Int32), OutR P b law K La o nu' wi' fe' mo' li' ∧ f_X7_number_L14 1000 (nI P) (nI Ln) (nI law) (nI S) size tr tl ta fi co firsts lengths n (nI x) (nI l) old nu wi fe mo li = some (nI (nmX P b K La S d l x), o, nu', wi', fe', mo', li') := by
  have h3 := hL.1
  intro d
  induction d with
  | zero =>
    intro n l x old nu wi fe mo li h1 h2 hO
    obtain ⟨n, rfl⟩ : ∃ k, n = k + 1 := ⟨n - 1, by omega⟩
    refine ⟨old, nu, wi, fe, mo, li, hO, ?_⟩
    rw [f_X7_number_L14, if_pos (nI_le (by omega) (by omega))]
    rfl
  | succ d ih =>
    intro n l x old nu wi fe mo li h1 h2 hO
    obtain ⟨n, rfl⟩ : ∃ k, n = k + 1 := ⟨n - 1, by omega⟩
    obtain ⟨nu', wi', fe', mo', li', q1, q2⟩ := cNol_ok hP h0 hmo hb hlaw hS hL hA (show l < Ln by omega) hR hO
    obtain ⟨o, nu2, wi2, fe2, mo2, li2, q3, q4⟩ := ih n (l + 1) (x ^^^ spN P b K La (S &&& lnM P La l)) 0 nu' wi' fe' mo' li' (by omega) (by omega) q1
    refine ⟨o, nu2, wi2, fe2, mo2, li2, q3, ?_⟩
    rw [f_X7_number_L14, if_neg (nI_ge (by omega) (by omega)), q2, ob7_s, nx_xor, nI_1]
    exact q4
theorem cNum_ok {P Ln b law S : Nat} {K La F Le : Nat → Nat} {firsts lengths : Nat → Int32} {size tr tl : Int32} {fi co ta : Nat → Int32} (hP : P ≤ 9) (h0 : 0 < P) (hmo : mono P La) (hb : b ≤ 3) (hlaw : law ≤ 1) (hS : S < 2 ^ P) (hL : LnW P Ln La F Le) (hA : LnA Ln F Le firsts lengths) (hR : StrR P b K La size tr tl fi co ta) {old : Int32} {nu wi fe mo li : Nat → Int32} (hO : OutR P b law K La old nu wi fe mo li) :
    ∃ (o : Int32) (nu' wi' fe' mo' li' : Nat → Int32), OutR P b law K La o nu' wi' fe' mo' li' ∧ f_X7_number 1000 old (nI P) (nI Ln) (nI law) (nI S) size tr tl ta fi co nu wi fe mo li firsts lengths = some (nI (nmX P b K La S Ln 0 0), o, nu', wi', fe', mo', li') := by
  have h3 := hL.1
  unfold f_X7_number
  rw [hasGreen_ok hP, ob1_s, if_neg (show ¬ P = 0 by omega), if_neg n10]
  exact cNum_L hP h0 hmo hb hlaw hS hL hA hR Ln 1000 0 0 old nu wi fe mo li (by omega) (by omega) hO
theorem mNum_L {P Ln b S : Nat} {K La : Nat → Nat} {kinds laneOf : Nat → Int32} (hG : GWf P K La kinds laneOf) (hb : b ≤ 3) (hS : S < 512) (h3 : Ln ≤ 3) :
    ∀ (d n l x : Nat) (nu : Nat → Int32), l + d = Ln → d < n → ∃ nu' : Nat → Int32, f_X8_numberOfAll_L4 1000 (nI P) (nI Ln) (nI S) (nI b) laneOf kinds n (nI x) (nI l) nu = some (nI (nmX P b K La S d l x), nu') := by
  intro d
  induction d with
  | zero =>
    intro n l x nu h1 h2
    obtain ⟨n, rfl⟩ : ∃ k, n = k + 1 := ⟨n - 1, by omega⟩
    refine ⟨nu, ?_⟩
    rw [f_X8_numberOfAll_L4, if_pos (nI_le (by omega) (by omega))]
    rfl
  | succ d ih =>
    intro n l x nu h1 h2
    obtain ⟨n, rfl⟩ : ∃ k, n = k + 1 := ⟨n - 1, by omega⟩
    obtain ⟨nu', q1⟩ := numberOf_ok hG hb hS (show l < 3 by omega) nu
    obtain ⟨nu2, q2⟩ := ih n (l + 1) (x ^^^ spN P b K La (S &&& lnM P La l)) nu' (by omega) (by omega)
    refine ⟨nu2, ?_⟩
    rw [f_X8_numberOfAll_L4, if_neg (nI_ge (by omega) (by omega)), q1, ob2_s, nx_xor, nI_1]
    exact q2
theorem mNum_ok {P Ln b S : Nat} {K La : Nat → Nat} {kinds laneOf : Nat → Int32} (hG : GWf P K La kinds laneOf) (hb : b ≤ 3) (hS : S < 512) (h3 : Ln ≤ 3) (nu : Nat → Int32) : ∃ nu' : Nat → Int32, f_X8_numberOfAll 1000 (nI P) (nI Ln) (nI S) (nI b) laneOf kinds nu = some (nI (nmX P b K La S Ln 0 0), nu') :=
  mNum_L hG hb hS h3 Ln 1000 0 0 nu (by omega) (by omega)
theorem k_number {P Ln b law S : Nat} {K La F Le : Nat → Nat} {kinds laneOf firsts lengths : Nat → Int32} {size tr tl : Int32} {fi co ta : Nat → Int32} (hG : GWf P K La kinds laneOf) (hmo : mono P La) (hb : b ≤ 3) (hlaw : law ≤ 1) (hS : S < 2 ^ P) (hL : LnW P Ln La F Le) (hA : LnA Ln F Le firsts lengths) (hR : StrR P b K La size tr tl fi co ta) {old : Int32} {nu wi fe mo li : Nat → Int32} (hO : OutR P b law K La old nu wi fe mo li) (mn : Nat → Int32) :
    ∃ (a0 o : Int32) (nu' wi' fe' mo' li' mn' : Nat → Int32), OutR P b law K La o nu' wi' fe' mo' li' ∧ f_X7_number 1000 old (nI P) (nI Ln) (nI law) (nI S) size tr tl ta fi co nu wi fe mo li firsts lengths = some (a0, o, nu', wi', fe', mo', li') ∧ f_X8_number 1000 (nI P) (nI Ln) (nI S) (nI b) laneOf kinds mn = some (a0, mn') := by
  have hP := hG.1
  have h5 := pow9 hP hS
  by_cases e : P = 0
  · refine ⟨-103, old, nu, wi, fe, mo, li, mn, hO, ?_, ?_⟩
    · unfold f_X7_number
      rw [hasGreen_ok hP, ob1_s, if_pos e, if_pos rfl]
    · unfold f_X8_number
      rw [lacks_ok hP, ob1_s, if_pos e, if_neg n10]
  · obtain ⟨o, nu', wi', fe', mo', li', q1, q2⟩ := cNum_ok hP (by omega) hmo hb hlaw hS hL hA hR hO
    obtain ⟨mn', q3⟩ := mNum_ok (Ln := Ln) hG hb h5 hL.1 mn
    refine ⟨_, o, nu', wi', fe', mo', li', mn', q1, q2, ?_⟩
    unfold f_X8_number
    rw [lacks_ok hP, ob1_s, if_neg e, if_pos rfl, q3]
    rfl
