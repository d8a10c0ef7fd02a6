/-! the digest -/
def hsF (f : Nat → Int32) : Nat → Nat → Int64 → Int64
  | 0, _, h => h
  | d + 1, j, h => hsF f d (j + 1) (31 * h + (f j).toInt64)
def hs2 (f : Nat → Nat → Int32) (m : Nat) : Nat → Nat → Int64 → Int64
  | 0, _, h => h
  | d + 1, p, h => hs2 f m d (p + 1) (hsF (f p) m 0 h)
theorem hsF_cong {f g : Nat → Int32} : ∀ (d j : Nat) (h : Int64), (∀ i, i < j + d → f i = g i) → hsF f d j h = hsF g d j h
  | 0, _, _, _ => rfl
  | d + 1, j, h, e => by
    rw [hsF, hsF, e j (by omega)]
    exact hsF_cong d (j + 1) _ (fun i hi => e i (by omega))
theorem say_ok (h x : Int64) : f_X8_say 1000 h x = some (31 * h + x) := rfl
theorem cDig_pin1 {P b S p z : Nat} {K La W F : Nat → Nat} {kinds laneOf pins ways fell sights : Nat → Int32} {size tr tl : Int32} {fi co ta : Nat → Int32} (hG : GWf P K La kinds laneOf) (hmo : mono P La) (hb : b ≤ 3) (hS : S < 512) (hR : StrR P b K La size tr tl fi co ta) (hp : p < P) (hF : SeenF z W F pins ways fell sights) (kk : Int64 → Option (Int64 × Int32 × Int32 × (Nat → Int32) × (Nat → Int32) × (Nat → Int32) × (Nat → Int32) × (Nat → Int32) × (Nat → Int32))) :
    ∀ (d n j : Nat) (h : Int64), j + d = 6 → d < n → f_X7_digest_L20 1000 (nI p) (nI P) (nI S) (nI z) pins ways fell size tr tl fi co ta laneOf kinds kk n h (nI j) = kk (hsF (fun x => pnV P b K La S p (srt (fun i => decide (pins i = nI p)) W F z) (nI x)) d j h) := by
  intro d
  induction d with
  | zero =>
    intro n j h h1 h2
    obtain ⟨n, rfl⟩ : ∃ k, n = k + 1 := ⟨n - 1, by omega⟩
    obtain rfl : j = 6 := by omega
    rw [f_X7_digest_L20, if_pos (show (5 : Int32) < nI 6 by decide), hsF]
  | succ d ih =>
    intro n j h h1 h2
    obtain ⟨n, rfl⟩ : ∃ k, n = k + 1 := ⟨n - 1, by omega⟩
    rw [f_X7_digest_L20, if_neg (show ¬ (5 : Int32) < nI j from nI_nlt (a := 5) (by omega) (by omega)), cPin_ok hG hmo hb hS hR hp hF, ob1_s, nI_1, ih n (j + 1) _ (by omega) (by omega), hsF]
theorem mDig_pin1 {P b S p z : Nat} {K La W F : Nat → Nat} {kinds laneOf pins ways fell sights : Nat → Int32} (hG : GWf P K La kinds laneOf) (hb : b ≤ 3) (hS : S < 512) (hp : p < P) (hF : SeenF z W F pins ways fell sights) (kk : Int64 → Option (Int64 × Int64 × (Nat → Int32) × (Nat → Int32) × (Nat → Int32) × (Nat → Int32) × (Nat → Int32) × (Nat → Int32))) :
    ∀ (d n j : Nat) (h : Int64), j + d = 6 → d < n → f_X8_digest_L19 1000 (nI p) (nI P) (nI S) (nI b) (nI z) sights laneOf kinds kk n (nI j) h = kk (hsF (fun x => pnV P b K La S p (srt (fun i => decide (pins i = nI p)) W F z) (nI x)) d j h) := by
  intro d
  induction d with
  | zero =>
    intro n j h h1 h2
    obtain ⟨n, rfl⟩ : ∃ k, n = k + 1 := ⟨n - 1, by omega⟩
    obtain rfl : j = 6 := by omega
    rw [f_X8_digest_L19, if_pos (show (6 : Int32) ≤ nI 6 by decide), hsF]
  | succ d ih =>
    intro n j h h1 h2
    obtain ⟨n, rfl⟩ : ∃ k, n = k + 1 := ⟨n - 1, by omega⟩
    rw [f_X8_digest_L19, if_neg (show ¬ (6 : Int32) ≤ nI j from nI_ge (b := 6) (by omega) (by omega)), mPin_ok hG hb hS hp hF, ob1_s, say_ok, ob1_s, nI_1, ih n (j + 1) _ (by omega) (by omega), hsF]
theorem cDig_pin {P b S z : Nat} {K La W F : Nat → Nat} {kinds laneOf pins ways fell sights : Nat → Int32} {size tr tl : Int32} {fi co ta : Nat → Int32} (hG : GWf P K La kinds laneOf) (hmo : mono P La) (hb : b ≤ 3) (hS : S < 512) (hR : StrR P b K La size tr tl fi co ta) (hF : SeenF z W F pins ways fell sights) (kk : Int64 → Option (Int64 × Int32 × Int32 × (Nat → Int32) × (Nat → Int32) × (Nat → Int32) × (Nat → Int32) × (Nat → Int32) × (Nat → Int32))) :
    ∀ (d n p : Nat) (h : Int64), p + d = P → d < n → f_X7_digest_L6 1000 (nI P) (nI S) (nI z) pins ways fell size tr tl fi co ta laneOf kinds kk n h (nI p) = kk (hs2 (fun p x => pnV P b K La S p (srt (fun i => decide (pins i = nI p)) W F z) (nI x)) 6 d p h) := by
  have hP := hG.1
  intro d
  induction d with
  | zero =>
    intro n p h h1 h2
    obtain ⟨n, rfl⟩ : ∃ k, n = k + 1 := ⟨n - 1, by omega⟩
    obtain rfl : p = P := by omega
    rw [f_X7_digest_L6, if_pos (nI_le (Nat.le_refl _) (by omega)), hs2]
  | succ d ih =>
    intro n p h h1 h2
    obtain ⟨n, rfl⟩ : ∃ k, n = k + 1 := ⟨n - 1, by omega⟩
    rw [f_X7_digest_L6, if_neg (nI_ge (by omega) (by omega)), show (0 : Int32) = nI 0 from rfl, cDig_pin1 hG hmo hb hS hR (show p < P by omega) hF _ 6 1000 0 h (by omega) (by omega), nI_1, ih n (p + 1) _ (by omega) (by omega), hs2]
theorem mDig_pin {P b S z : Nat} {K La W F : Nat → Nat} {kinds laneOf pins ways fell sights : Nat → Int32} (hG : GWf P K La kinds laneOf) (hb : b ≤ 3) (hS : S < 512) (hF : SeenF z W F pins ways fell sights) (kk : Int64 → Option (Int64 × Int64 × (Nat → Int32) × (Nat → Int32) × (Nat → Int32) × (Nat → Int32) × (Nat → Int32) × (Nat → Int32))) :
    ∀ (d n p : Nat) (h : Int64), p + d = P → d < n → f_X8_digest_L9 1000 (nI P) (nI S) (nI b) (nI z) sights laneOf kinds kk n (nI p) h = kk (hs2 (fun p x => pnV P b K La S p (srt (fun i => decide (pins i = nI p)) W F z) (nI x)) 6 d p h) := by
  have hP := hG.1
  intro d
  induction d with
  | zero =>
    intro n p h h1 h2
    obtain ⟨n, rfl⟩ : ∃ k, n = k + 1 := ⟨n - 1, by omega⟩
    obtain rfl : p = P := by omega
    rw [f_X8_digest_L9, if_pos (nI_le (Nat.le_refl _) (by omega)), hs2]
  | succ d ih =>
    intro n p h h1 h2
    obtain ⟨n, rfl⟩ : ∃ k, n = k + 1 := ⟨n - 1, by omega⟩
    rw [f_X8_digest_L9, if_neg (nI_ge (by omega) (by omega)), show (0 : Int32) = nI 0 from rfl, mDig_pin1 hG hb hS (show p < P by omega) hF _ 6 1000 0 h (by omega) (by omega), nI_1, ih n (p + 1) _ (by omega) (by omega), hs2]
theorem cDig_lane1 {P Ln b law S l : Nat} {K La F Le : Nat → Nat} {firsts lengths : Nat → Int32} {size tr tl : Int32} {fi co ta : Nat → Int32} (hP : P ≤ 9) (hmo : mono P La) (hb1 : 1 ≤ b) (hb : b ≤ 3) (hlaw : law ≤ 1) (hS : S < 2 ^ P) (hL : LnW P Ln La F Le) (hA : LnA Ln F Le firsts lengths) (hl : l < Ln) (hR : StrR P b K La size tr tl fi co ta) :
    ∀ (d n j : Nat) (h : Int64) (old f : Int32) (R nu wi fe mo li : Nat → Int32), j + d = 5 → d < n → RowR f R → OutR P b law K La old nu wi fe mo li → ∃ (o f' : Int32) (R' nu' wi' fe' mo' li' : Nat → Int32), RowR f' R' ∧ OutR P b law K La o nu' wi' fe' mo' li' ∧ ∀ kk : Int64 → Int32 → Int32 → (Nat → Int32) → (Nat → Int32) → (Nat → Int32) → (Nat → Int32) → (Nat → Int32) → (Nat → Int32) → Option (Int64 × Int32 × Int32 × (Nat → Int32) × (Nat → Int32) × (Nat → Int32) × (Nat → Int32) × (Nat → Int32) × (Nat → Int32)), f_X7_digest_L69 1000 (nI l) (nI P) (nI Ln) (nI b) (nI law) (nI S) size tr tl fi co ta firsts lengths kk n h (nI j) old f R nu wi fe mo li = kk (hsF (fun x => lnV P b K La F Le S l (nI x)) d j h) o f' R' nu' wi' fe' mo' li' := by
  intro d
  induction d with
  | zero =>
    intro n j h old f R nu wi fe mo li h1 h2 hW hO
    obtain ⟨n, rfl⟩ : ∃ k, n = k + 1 := ⟨n - 1, by omega⟩
    obtain rfl : j = 5 := by omega
    refine ⟨old, f, R, nu, wi, fe, mo, li, hW, hO, fun kk => ?_⟩
    rw [f_X7_digest_L69, if_pos (show (4 : Int32) < nI 5 by decide), hsF]
  | succ d ih =>
    intro n j h old f R nu wi fe mo li h1 h2 hW hO
    obtain ⟨n, rfl⟩ : ∃ k, n = k + 1 := ⟨n - 1, by omega⟩
    obtain ⟨o, f', R', nu', wi', fe', mo', li', q1, q2, q3⟩ := cLane_ok hP hmo hb1 hb hlaw hS hL hA hl hR hW hO (nI j)
    obtain ⟨o2, f2, R2, nu2, wi2, fe2, mo2, li2, q4, q5, q6⟩ := ih n (j + 1) (31 * h + (lnV P b K La F Le S l (nI j)).toInt64) o f' R' nu' wi' fe' mo' li' (by omega) (by omega) q1 q2
    refine ⟨o2, f2, R2, nu2, wi2, fe2, mo2, li2, q4, q5, fun kk => ?_⟩
    rw [f_X7_digest_L69, if_neg (show ¬ (4 : Int32) < nI j from nI_nlt (a := 4) (by omega) (by omega)), q3, ob9_s, nI_1, hsF, q6]
theorem cDig_lane {P Ln b law S : Nat} {K La F Le : Nat → Nat} {firsts lengths : Nat → Int32} {size tr tl : Int32} {fi co ta : Nat → Int32} (hP : P ≤ 9) (hmo : mono P La) (hb1 : 0 < Ln → 1 ≤ b) (hb : b ≤ 3) (hlaw : law ≤ 1) (hS : S < 2 ^ P) (hL : LnW P Ln La F Le) (hA : LnA Ln F Le firsts lengths) (hR : StrR P b K La size tr tl fi co ta) :
    ∀ (d n l : Nat) (h : Int64) (old f : Int32) (R nu wi fe mo li : Nat → Int32), l + d = Ln → d < n → RowR f R → OutR P b law K La old nu wi fe mo li → ∃ (o f' : Int32) (R' nu' wi' fe' mo' li' : Nat → Int32), RowR f' R' ∧ OutR P b law K La o nu' wi' fe' mo' li' ∧ ∀ kk : Int64 → Int32 → Int32 → (Nat → Int32) → (Nat → Int32) → (Nat → Int32) → (Nat → Int32) → (Nat → Int32) → (Nat → Int32) → Option (Int64 × Int32 × Int32 × (Nat → Int32) × (Nat → Int32) × (Nat → Int32) × (Nat → Int32) × (Nat → Int32) × (Nat → Int32)), f_X7_digest_L55 1000 (nI P) (nI Ln) (nI b) (nI law) (nI S) size tr tl fi co ta firsts lengths kk n h (nI l) old f R nu wi fe mo li = kk (hs2 (fun l x => lnV P b K La F Le S l (nI x)) 5 d l h) o f' R' nu' wi' fe' mo' li' := by
  have h3 := hL.1
  intro d
  induction d with
  | zero =>
    intro n l h old f R nu wi fe mo li h1 h2 hW hO
    obtain ⟨n, rfl⟩ : ∃ k, n = k + 1 := ⟨n - 1, by omega⟩
    obtain rfl : l = Ln := by omega
    refine ⟨old, f, R, nu, wi, fe, mo, li, hW, hO, fun kk => ?_⟩
    rw [f_X7_digest_L55, if_pos (nI_le (Nat.le_refl _) (by omega)), hs2]
  | succ d ih =>
    intro n l h old f R nu wi fe mo li h1 h2 hW hO
    obtain ⟨n, rfl⟩ : ∃ k, n = k + 1 := ⟨n - 1, by omega⟩
    obtain ⟨o, f', R', nu', wi', fe', mo', li', q1, q2, q3⟩ := cDig_lane1 hP hmo (hb1 (by omega)) hb hlaw hS hL hA (show l < Ln by omega) hR 5 1000 0 h old f R nu wi fe mo li (by omega) (by omega) hW hO
    obtain ⟨o2, f2, R2, nu2, wi2, fe2, mo2, li2, q4, q5, q6⟩ := ih n (l + 1) (hsF (fun x => lnV P b K La F Le S l (nI x)) 5 0 h) o f' R' nu' wi' fe' mo' li' (by omega) (by omega) q1 q2
    refine ⟨o2, f2, R2, nu2, wi2, fe2, mo2, li2, q4, q5, fun kk => ?_⟩
    rw [f_X7_digest_L55, if_neg (nI_ge (show l < Ln by omega) (by omega)), nI_1, hs2, show (0 : Int32) = nI 0 from rfl, q3, q6]
theorem mDig_lane1 {P Ln b S l : Nat} {K La F Le : Nat → Nat} {kinds laneOf : Nat → Int32} (hG : GWf P K La kinds laneOf) (hb1 : 1 ≤ b) (hb : b ≤ 3) (hS : S < 512) (hL : LnW P Ln La F Le) (hl : l < Ln) :
    ∀ (d n j : Nat) (h : Int64) (R nu : Nat → Int32), j + d = 5 → d < n → ∃ R' nu' : Nat → Int32, ∀ kk : Int64 → (Nat → Int32) → (Nat → Int32) → Option (Int64 × Int64 × (Nat → Int32) × (Nat → Int32) × (Nat → Int32) × (Nat → Int32) × (Nat → Int32) × (Nat → Int32)), f_X8_digest_L60 1000 (nI l) (nI P) (nI S) (nI b) laneOf kinds kk n (nI j) h R nu = kk (hsF (fun x => lnV P b K La F Le S l (nI x)) d j h) R' nu' := by
  intro d
  induction d with
  | zero =>
    intro n j h R nu h1 h2
    obtain ⟨n, rfl⟩ : ∃ k, n = k + 1 := ⟨n - 1, by omega⟩
    obtain rfl : j = 5 := by omega
    refine ⟨R, nu, fun kk => ?_⟩
    rw [f_X8_digest_L60, if_pos (show (5 : Int32) ≤ nI 5 by decide), hsF]
  | succ d ih =>
    intro n j h R nu h1 h2
    obtain ⟨n, rfl⟩ : ∃ k, n = k + 1 := ⟨n - 1, by omega⟩
    obtain ⟨R', nu', q3⟩ := mLane_ok hG hb1 hb hS hL hl R nu (nI j)
    obtain ⟨R2, nu2, q6⟩ := ih n (j + 1) (31 * h + (lnV P b K La F Le S l (nI j)).toInt64) R' nu' (by omega) (by omega)
    refine ⟨R2, nu2, fun kk => ?_⟩
    rw [f_X8_digest_L60, if_neg (show ¬ (5 : Int32) ≤ nI j from nI_ge (b := 5) (by omega) (by omega)), q3, ob3_s, say_ok, ob1_s, nI_1, hsF, q6]
theorem mDig_lane {P Ln b S : Nat} {K La F Le : Nat → Nat} {kinds laneOf : Nat → Int32} (hG : GWf P K La kinds laneOf) (hb1 : 0 < Ln → 1 ≤ b) (hb : b ≤ 3) (hS : S < 512) (hL : LnW P Ln La F Le) :
    ∀ (d n l : Nat) (h : Int64) (R nu : Nat → Int32), l + d = Ln → d < n → ∃ R' nu' : Nat → Int32, ∀ kk : Int64 → (Nat → Int32) → (Nat → Int32) → Option (Int64 × Int64 × (Nat → Int32) × (Nat → Int32) × (Nat → Int32) × (Nat → Int32) × (Nat → Int32) × (Nat → Int32)), f_X8_digest_L50 1000 (nI P) (nI Ln) (nI S) (nI b) laneOf kinds kk n (nI l) h R nu = kk (hs2 (fun l x => lnV P b K La F Le S l (nI x)) 5 d l h) R' nu' := by
  have h3 := hL.1
  intro d
  induction d with
  | zero =>
    intro n l h R nu h1 h2
    obtain ⟨n, rfl⟩ : ∃ k, n = k + 1 := ⟨n - 1, by omega⟩
    obtain rfl : l = Ln := by omega
    refine ⟨R, nu, fun kk => ?_⟩
    rw [f_X8_digest_L50, if_pos (nI_le (Nat.le_refl _) (by omega)), hs2]
  | succ d ih =>
    intro n l h R nu h1 h2
    obtain ⟨n, rfl⟩ : ∃ k, n = k + 1 := ⟨n - 1, by omega⟩
    obtain ⟨R', nu', q3⟩ := mDig_lane1 hG (hb1 (by omega)) hb hS hL (show l < Ln by omega) 5 1000 0 h R nu (by omega) (by omega)
    obtain ⟨R2, nu2, q6⟩ := ih n (l + 1) (hsF (fun x => lnV P b K La F Le S l (nI x)) 5 0 h) R' nu' (by omega) (by omega)
    refine ⟨R2, nu2, fun kk => ?_⟩
    rw [f_X8_digest_L50, if_neg (nI_ge (show l < Ln by omega) (by omega)), nI_1, hs2, show (0 : Int32) = nI 0 from rfl, q3, q6]
theorem cDig_best {P b law S : Nat} {K La : Nat → Nat} {size tr tl : Int32} {fi co ta : Nat → Int32} (hP : P ≤ 9) (h0 : 0 < P) (hmo : mono P La) (hb : b ≤ 3) (hlaw : law ≤ 1) (hS : S < 2 ^ P) (hR : StrR P b K La size tr tl fi co ta) :
    ∀ (d n j : Nat) (h : Int64) (old : Int32) (nu wi fe mo li : Nat → Int32), j + d = 4 → d < n → OutR P b law K La old nu wi fe mo li → ∃ (o : Int32) (nu' wi' fe' mo' li' : Nat → Int32), OutR P b law K La o nu' wi' fe' mo' li' ∧ ∀ kk : Int64 → Int32 → (Nat → Int32) → (Nat → Int32) → (Nat → Int32) → (Nat → Int32) → (Nat → Int32) → Option (Int64 × Int32 × Int32 × (Nat → Int32) × (Nat → Int32) × (Nat → Int32) × (Nat → Int32) × (Nat → Int32) × (Nat → Int32)), f_X7_digest_L135 1000 (nI P) (nI law) (nI S) size tr tl fi co ta kk n h (nI j) old nu wi fe mo li = kk (hsF (fun x => beV P b law K La S x) d j h) o nu' wi' fe' mo' li' := by
  intro d
  induction d with
  | zero =>
    intro n j h old nu wi fe mo li h1 h2 hO
    obtain ⟨n, rfl⟩ : ∃ k, n = k + 1 := ⟨n - 1, by omega⟩
    obtain rfl : j = 4 := by omega
    refine ⟨old, nu, wi, fe, mo, li, hO, fun kk => ?_⟩
    rw [f_X7_digest_L135, if_pos (show (3 : Int32) < nI 4 by decide), hsF]
  | succ d ih =>
    intro n j h old nu wi fe mo li h1 h2 hO
    obtain ⟨n, rfl⟩ : ∃ k, n = k + 1 := ⟨n - 1, by omega⟩
    obtain ⟨nu', wi', fe', mo', li', q2, q3⟩ := cBest_ok hP h0 hmo hb hlaw hS hR (show j ≤ 3 by omega) hO
    obtain ⟨o2, nu2, wi2, fe2, mo2, li2, q5, q6⟩ := ih n (j + 1) (31 * h + (beV P b law K La S j).toInt64) 0 nu' wi' fe' mo' li' (by omega) (by omega) q2
    refine ⟨o2, nu2, wi2, fe2, mo2, li2, q5, fun kk => ?_⟩
    rw [f_X7_digest_L135, if_neg (show ¬ (3 : Int32) < nI j from nI_nlt (a := 3) (by omega) (by omega)), q3, ob7_s, nI_1, hsF, q6]
theorem mDig_best {P b law S : Nat} {K La : Nat → Nat} {kinds laneOf : Nat → Int32} (hG : GWf P K La kinds laneOf) (hb : b ≤ 3) (hlaw : law ≤ 1) (hS : S < 512) :
    ∀ (d n j : Nat) (h : Int64) (wi sh lo ch : Nat → Int32), j + d = 4 → d < n → ∃ wi' sh' lo' ch' : Nat → Int32, ∀ kk : Int64 → (Nat → Int32) → (Nat → Int32) → (Nat → Int32) → (Nat → Int32) → Option (Int64 × (Nat → Int32) × (Nat → Int32) × (Nat → Int32) × (Nat → Int32) × (Nat → Int32) × (Nat → Int32)), f_X8_sayGreen_L20 1000 (nI P) (nI S) (nI b) (nI law) laneOf kinds kk n (nI j) h wi sh lo ch = kk (hsF (fun x => beV P b law K La S x) d j h) wi' sh' lo' ch' := by
  intro d
  induction d with
  | zero =>
    intro n j h wi sh lo ch h1 h2
    obtain ⟨n, rfl⟩ : ∃ k, n = k + 1 := ⟨n - 1, by omega⟩
    obtain rfl : j = 4 := by omega
    refine ⟨wi, sh, lo, ch, fun kk => ?_⟩
    rw [f_X8_sayGreen_L20, if_pos (show (4 : Int32) ≤ nI 4 by decide), hsF]
  | succ d ih =>
    intro n j h wi sh lo ch h1 h2
    obtain ⟨n, rfl⟩ : ∃ k, n = k + 1 := ⟨n - 1, by omega⟩
    obtain ⟨wi', sh', lo', ch', q3⟩ := mBest_ok hG hb hlaw hS (show j < 2 ^ 31 by omega) wi sh lo ch
    obtain ⟨wi2, sh2, lo2, ch2, q6⟩ := ih n (j + 1) (31 * h + (beV P b law K La S j).toInt64) wi' sh' lo' ch' (by omega) (by omega)
    refine ⟨wi2, sh2, lo2, ch2, fun kk => ?_⟩
    rw [f_X8_sayGreen_L20, if_neg (show ¬ (4 : Int32) ≤ nI j from nI_ge (b := 4) (by omega) (by omega)), q3, ob5_s, say_ok, ob1_s, nI_1, hsF, q6]
def grV (P Ln b law S : Nat) (K La : Nat → Nat) (h : Int64) : Int64 := 31 * (31 * (31 * (31 * hsF (fun x => beV P b law K La S x) 4 0 (31 * (31 * h + (nI (nmX P b K La S Ln 0 0)).toInt64) + (nI (spW P b law K La S)).toInt64) + (nI (rowT b 20)).toInt64) + (perV b 0).toInt64) + (perV b 1).toInt64) + (nI (spL P b law K La S)).toInt64
theorem cDig_green {P Ln b law S : Nat} {K La F Le : Nat → Nat} {firsts lengths : Nat → Int32} {size tr tl : Int32} {fi co ta : Nat → Int32} (hP : P ≤ 9) (h0 : 0 < P) (hmo : mono P La) (hb1 : 1 ≤ b) (hb : b ≤ 3) (hlaw : law ≤ 1) (hS : S < 2 ^ P) (hL : LnW P Ln La F Le) (hA : LnA Ln F Le firsts lengths) (hR : StrR P b K La size tr tl fi co ta) {f old : Int32} {R nu wi fe mo li : Nat → Int32} (hW : RowR f R) (hO : OutR P b law K La old nu wi fe mo li) (h : Int64) :
    ∃ (o f' : Int32) (R' nu' wi' fe' mo' li' : Nat → Int32), RowR f' R' ∧ OutR P b law K La o nu' wi' fe' mo' li' ∧ ∀ kk : Int64 → Int32 → Int32 → (Nat → Int32) → (Nat → Int32) → (Nat → Int32) → (Nat → Int32) → (Nat → Int32) → (Nat → Int32) → Option (Int64 × Int32 × Int32 × (Nat → Int32) × (Nat → Int32) × (Nat → Int32) × (Nat → Int32) × (Nat → Int32) × (Nat → Int32)), (ob7 (f_X7_number 1000 old (nI P) (nI Ln) (nI law) (nI S) size tr tl ta fi co nu wi fe mo li firsts lengths) (fun a45 a46 a47 a48 a49 a50 a51 => ob7 (f_X7_wins 1000 a46 (nI P) (nI law) (nI S) size tr tl ta fi co a47 a48 a49 a50 a51) (fun a52 a53 a54 a55 a56 a57 a58 => f_X7_digest_L135 1000 (nI P) (nI law) (nI S) size tr tl fi co ta (fun a66 a67 a68 a69 a70 a71 a72 => ob3 (f_X7_row 1000 (nI P) (nI b) f R (20 : Int32)) (fun a73 a74 a75 => ob3 (f_X7_period 1000 (nI P) (nI b) a74 a75 (0 : Int32)) (fun a76 a77 a78 => ob3 (f_X7_period 1000 (nI P) (nI b) a77 a78 (1 : Int32)) (fun a79 a80 a81 => ob7 (f_X7_likely 1000 a67 (nI P) (nI law) (nI S) size tr tl ta fi co a68 a69 a70 a71 a72) (fun a82 a83 a84 a85 a86 a87 a88 => kk (((31 : Int64) * (((31 : Int64) * (((31 : Int64) * (((31 : Int64) * a66) + a73.toInt64)) + a76.toInt64)) + a79.toInt64)) + a82.toInt64) a83 a80 a81 a84 a85 a86 a87 a88))))) 1000 (((31 : Int64) * (((31 : Int64) * h) + a45.toInt64)) + a52.toInt64) (0 : Int32) a53 a54 a55 a56 a57 a58))) = kk (grV P Ln b law S K La h) o f' R' nu' wi' fe' mo' li' := by
  obtain ⟨o1, n1, w1, e1, m1, l1, q1, q2⟩ := cNum_ok hP h0 hmo hb hlaw hS hL hA hR hO
  obtain ⟨n2, w2, e2, m2, l2, q3, q4⟩ := cWins_ok hP h0 hmo hb hlaw hS hR q1
  obtain ⟨o3, n3, w3, e3, m3, l3, q5, q6⟩ := cDig_best hP h0 hmo hb hlaw hS hR 4 1000 0 (31 * (31 * h + (nI (nmX P b K La S Ln 0 0)).toInt64) + (nI (spW P b law K La S)).toInt64) (nI 0) n2 w2 e2 m2 l2 (by omega) (by omega) q3
  obtain ⟨R1, q7, q8⟩ := cRow_ok hP h0 (show b < 4 by omega) hb1 (show 20 < 41 by omega) hW
  obtain ⟨R2, q9, q10⟩ := cPer_ok hP h0 (show b < 4 by omega) hb1 (show 0 < 2 by omega) (q7.r (by omega) hb1)
  obtain ⟨R3, q11, q12⟩ := cPer_ok hP h0 (show b < 4 by omega) hb1 (show 1 < 2 by omega) (q9.r (by omega) hb1)
  obtain ⟨n4, w4, e4, m4, l4, q13, q14⟩ := cLik_ok hP h0 hmo hb hlaw hS hR q5
  refine ⟨0, nI b, R3, n4, w4, e4, m4, l4, q11.r (by omega) hb1, q13, fun kk => ?_⟩
  rw [q2, ob7_s, q4, ob7_s, show (0 : Int32) = nI 0 from rfl, q6, show (20 : Int32) = nI 20 from rfl, q8, ob3_s, q10, ob3_s, show (1 : Int32) = nI 1 from rfl, q12, ob3_s, q14, ob7_s]
  rfl
theorem mDig_green {P Ln b law S : Nat} {K La : Nat → Nat} {kinds laneOf : Nat → Int32} (hG : GWf P K La kinds laneOf) (hb1 : 1 ≤ b) (hb : b ≤ 3) (hlaw : law ≤ 1) (hS : S < 512) (h3 : Ln ≤ 3) (h : Int64) (nu wi sh lo ch R : Nat → Int32) :
    ∃ nu' wi' sh' lo' ch' R' : Nat → Int32, f_X8_sayGreen 1000 (nI P) (nI Ln) (nI S) (nI b) (nI law) h laneOf kinds nu wi sh lo ch R = some (grV P Ln b law S K La h, nu', wi', sh', lo', ch', R') := by
  obtain ⟨n1, q1⟩ := mNum_ok hG hb hS h3 nu
  obtain ⟨w2, s2, l2, c2, q2⟩ := mWins_ok hG hb hlaw hS wi sh lo ch
  obtain ⟨w3, s3, l3, c3, q3⟩ := mDig_best hG hb hlaw hS 4 1000 0 (31 * (31 * h + (nI (nmX P b K La S Ln 0 0)).toInt64) + (nI (spW P b law K La S)).toInt64) w2 s2 l2 c2 (by omega) (by omega)
  obtain ⟨R1, q4⟩ := mRow_ok (show b < 4 by omega) hb1 (show 20 < 41 by omega) R
  obtain ⟨R2, q5⟩ := mPer_ok (show b < 4 by omega) hb1 (show 0 < 2 ^ 31 by omega) R1
  obtain ⟨R3, q6⟩ := mPer_ok (show b < 4 by omega) hb1 (show 1 < 2 ^ 31 by omega) R2
  obtain ⟨w4, s4, l4, c4, q7⟩ := mLik_ok hG hb hlaw hS w3 s3 l3 c3
  refine ⟨n1, w4, s4, l4, c4, R3, ?_⟩
  unfold f_X8_sayGreen
  rw [q1, ob2_s, say_ok, ob1_s, q2, ob5_s, say_ok, ob1_s, show (0 : Int32) = nI 0 from rfl, q3, show (20 : Int32) = nI 20 from rfl, q4, ob2_s, say_ok, ob1_s, q5, ob2_s, say_ok, ob1_s, show (1 : Int32) = nI 1 from rfl, q6, ob2_s, say_ok, ob1_s, q7, ob5_s, say_ok, ob1_s]
  rfl
theorem cDig_page {n0 : Nat} (hn : n0 ≤ 16) (page : Nat → Int32) (kk : Int64 → Option (Int64 × Int32 × Int32 × (Nat → Int32) × (Nat → Int32) × (Nat → Int32) × (Nat → Int32) × (Nat → Int32) × (Nat → Int32))) :
    ∀ (d n j : Nat) (h : Int64), j + d = n0 → d < n → f_X7_digest_L213 1000 (nI n0) page kk n h (nI j) = kk (hsF page d j h) := by
  intro d
  induction d with
  | zero =>
    intro n j h h1 h2
    obtain ⟨n, rfl⟩ : ∃ k, n = k + 1 := ⟨n - 1, by omega⟩
    obtain rfl : j = n0 := by omega
    rw [f_X7_digest_L213, if_pos (nI_le (Nat.le_refl _) (by omega)), hsF]
  | succ d ih =>
    intro n j h h1 h2
    obtain ⟨n, rfl⟩ : ∃ k, n = k + 1 := ⟨n - 1, by omega⟩
    rw [f_X7_digest_L213, if_neg (nI_ge (show j < n0 by omega) (by omega)), gd_i (by omega) (by omega), nI_clamp (by omega), nI_1, ih n (j + 1) _ (by omega) (by omega), hsF]
theorem mDig_page {n0 : Nat} (hn : n0 ≤ 16) (page : Nat → Int32) (kk : Int64 → Option (Int64 × Int64 × (Nat → Int32) × (Nat → Int32) × (Nat → Int32) × (Nat → Int32) × (Nat → Int32) × (Nat → Int32))) :
    ∀ (d n j : Nat) (h : Int64), j + d = n0 → d < n → f_X8_digest_L101 1000 (nI n0) page kk n (nI j) h = kk (hsF page d j h) := by
  intro d
  induction d with
  | zero =>
    intro n j h h1 h2
    obtain ⟨n, rfl⟩ : ∃ k, n = k + 1 := ⟨n - 1, by omega⟩
    obtain rfl : j = n0 := by omega
    rw [f_X8_digest_L101, if_pos (nI_le (Nat.le_refl _) (by omega)), hsF]
  | succ d ih =>
    intro n j h h1 h2
    obtain ⟨n, rfl⟩ : ∃ k, n = k + 1 := ⟨n - 1, by omega⟩
    rw [f_X8_digest_L101, if_neg (nI_ge (show j < n0 by omega) (by omega)), gd_i (by omega) (by omega), nI_clamp (by omega), say_ok, ob1_s, nI_1, ih n (j + 1) _ (by omega) (by omega), hsF]
theorem cDig_cnt {P Ln b law st S : Nat} {K La : Nat → Nat} {size tr tl : Int32} {fi co ta : Nat → Int32} (hP : P ≤ 9) (hmo : mono P La) (hb : b ≤ 3) (hS : S < 512) (hR : StrR P b K La size tr tl fi co ta) (z le re o f : Int32) (R nu wi fe mo li : Nat → Int32) :
    ∀ (d n j : Nat) (h : Int64), j + d = 10 → d < n → f_X7_digest_L243 1000 le re o (nI P) (nI Ln) (nI b) (nI law) (nI S) (nI st) z size ta f R nu wi fe mo li n h (nI j) = some (hsF (fun x => cnV P Ln b law st S K La z le re (nI x)) d j h, o, f, R, nu, wi, fe, mo, li) := by
  intro d
  induction d with
  | zero =>
    intro n j h h1 h2
    obtain ⟨n, rfl⟩ : ∃ k, n = k + 1 := ⟨n - 1, by omega⟩
    obtain rfl : j = 10 := by omega
    rw [f_X7_digest_L243, if_pos (show (9 : Int32) < nI 10 by decide), hsF]
  | succ d ih =>
    intro n j h h1 h2
    obtain ⟨n, rfl⟩ : ∃ k, n = k + 1 := ⟨n - 1, by omega⟩
    rw [f_X7_digest_L243, if_neg (show ¬ (9 : Int32) < nI j from nI_nlt (a := 9) (by omega) (by omega)), cCnt_ok hP hmo hb hS hR, ob1_s, nI_1, ih n (j + 1) _ (by omega) (by omega), hsF]
theorem mDig_cnt {P Ln b law st S : Nat} {K La : Nat → Nat} {kinds laneOf : Nat → Int32} (hG : GWf P K La kinds laneOf) (hb : b ≤ 3) (hS : S < 512) (z le re : Int32) (R nu wi sh lo ch : Nat → Int32) :
    ∀ (d n j : Nat) (h : Int64), j + d = 10 → d < n → f_X8_digest_L128 1000 le (nI P) (nI Ln) (nI S) (nI b) (nI law) (nI st) re z laneOf kinds R nu wi sh lo ch n (nI j) h = some (hsF (fun x => cnV P Ln b law st S K La z le re (nI x)) d j h, hsF (fun x => cnV P Ln b law st S K La z le re (nI x)) d j h, R, nu, wi, sh, lo, ch) := by
  intro d
  induction d with
  | zero =>
    intro n j h h1 h2
    obtain ⟨n, rfl⟩ : ∃ k, n = k + 1 := ⟨n - 1, by omega⟩
    obtain rfl : j = 10 := by omega
    rw [f_X8_digest_L128, if_pos (show (10 : Int32) ≤ nI 10 by decide), hsF]
  | succ d ih =>
    intro n j h h1 h2
    obtain ⟨n, rfl⟩ : ∃ k, n = k + 1 := ⟨n - 1, by omega⟩
    rw [f_X8_digest_L128, if_neg (show ¬ (10 : Int32) ≤ nI j from nI_ge (b := 10) (by omega) (by omega)), mCnt_ok hG hb hS, ob1_s, say_ok, ob1_s, nI_1, ih n (j + 1) _ (by omega) (by omega), hsF]
def grI (P Ln b law S : Nat) (K La : Nat → Nat) (h : Int64) : Int64 := if P = 0 then h else grV P Ln b law S K La h
def dgV (P Ln b law st S z n : Nat) (K La F Le W E : Nat → Nat) (pins page : Nat → Int32) (re : Int32) : Int64 :=
  hsF (fun x => cnV P Ln b law st S K La (nI z) (nI n) re (nI x)) 10 0 (hsF page n 0 (grI P Ln b law S K La (hs2 (fun l x => lnV P b K La F Le S l (nI x)) 5 Ln 0 (hs2 (fun p x => pnV P b K La S p (srt (fun i => decide (pins i = nI p)) W E z) (nI x)) 6 P 0 1307))))
theorem cDig_ok {P Ln b law st S z n : Nat} {K La F Le W E : Nat → Nat} {kinds laneOf firsts lengths pins ways fell sights page : Nat → Int32} {size tr tl re : Int32} {fi co ta : Nat → Int32} (hG : GWf P K La kinds laneOf) (hmo : mono P La) (hb1 : 0 < P → 1 ≤ b) (h0L : P = 0 → Ln = 0) (hb : b ≤ 3) (hlaw : law ≤ 1) (hS : S < 2 ^ P) (hL : LnW P Ln La F Le) (hA : LnA Ln F Le firsts lengths) (hR : StrR P b K La size tr tl fi co ta) (hF : SeenF z W E pins ways fell sights) (hn : n ≤ 16) {f old : Int32} {R nu wi fe mo li : Nat → Int32} (hW : RowR f R) (hO : OutR P b law K La old nu wi fe mo li) :
    ∃ (o f' : Int32) (R' nu' wi' fe' mo' li' : Nat → Int32), RowR f' R' ∧ OutR P b law K La o nu' wi' fe' mo' li' ∧ f_X7_digest 1000 (nI n) re old (nI P) (nI Ln) (nI b) (nI law) (nI S) (nI st) (nI z) pins ways fell size tr tl fi co ta laneOf kinds f R nu wi fe mo li firsts lengths page = some (dgV P Ln b law st S z n K La F Le W E pins page re, o, f', R', nu', wi', fe', mo', li') := by
  have hP := hG.1
  have h5 := pow9 hP hS
  have hb2 : 0 < Ln → 1 ≤ b := fun e => hb1 (Nat.pos_of_ne_zero (fun e2 => by have := h0L e2; omega))
  obtain ⟨o1, f1, R1, n1, w1, e1, m1, l1, q1, q2, q3⟩ := cDig_lane hP hmo hb2 hb hlaw hS hL hA hR Ln 1000 0 (hs2 (fun p x => pnV P b K La S p (srt (fun i => decide (pins i = nI p)) W E z) (nI x)) 6 P 0 1307) old f R nu wi fe mo li (by omega) (by have := hL.1; omega) hW hO
  unfold f_X7_digest
  rw [show (0 : Int32) = nI 0 from rfl, cDig_pin hG hmo hb h5 hR hF _ P 1000 0 1307 (by omega) (by omega), q3, hasGreen_ok hP, ob1_s, jm_s]
  by_cases e : P = 0
  · refine ⟨o1, f1, R1, n1, w1, e1, m1, l1, q1, q2, ?_⟩
    rw [if_pos e, if_pos (show (0 : Int32) = nI 0 from rfl)]
    show f_X7_digest_L213 1000 (nI n) page _ 1000 _ (nI 0) = _
    rw [cDig_page hn _ _ n 1000 0 _ (by omega) (by omega), cDig_cnt hP hmo hb h5 hR _ _ _ _ _ _ _ _ _ _ _ 10 1000 0 _ (by omega) (by omega), dgV, grI, if_pos e]
  · obtain ⟨o2, f2, R2, n2, w2, e2, m2, l2, q4, q5, q6⟩ := cDig_green hP (by omega) hmo (hb1 (by omega)) hb hlaw hS hL hA hR q1 q2 (hs2 (fun l x => lnV P b K La F Le S l (nI x)) 5 Ln 0 (hs2 (fun p x => pnV P b K La S p (srt (fun i => decide (pins i = nI p)) W E z) (nI x)) 6 P 0 1307))
    refine ⟨o2, f2, R2, n2, w2, e2, m2, l2, q4, q5, ?_⟩
    rw [if_neg e, if_neg (show ¬ (1 : Int32) = nI 0 by decide)]
    refine Eq.trans (q6 (fun (a32 : Int64) (a33 : Int32) (a34 : Int32) (a35 a36 a37 a38 a39 a40 : Nat → Int32) => f_X7_digest_L213 1000 (nI n) page (fun a43 => f_X7_digest_L243 1000 (nI n) re a33 (nI P) (nI Ln) (nI b) (nI law) (nI S) (nI st) (nI z) size ta a34 a35 a36 a37 a38 a39 a40 1000 a43 (nI 0)) 1000 a32 (nI 0))) ?_
    show f_X7_digest_L213 1000 (nI n) page _ 1000 _ (nI 0) = _
    rw [cDig_page hn _ _ n 1000 0 _ (by omega) (by omega), cDig_cnt hP hmo hb h5 hR _ _ _ _ _ _ _ _ _ _ _ 10 1000 0 _ (by omega) (by omega), dgV, grI, if_neg e]
theorem mDig_ok {P Ln b law st S z n : Nat} {K La F Le W E : Nat → Nat} {kinds laneOf pins ways fell sights page : Nat → Int32} {re : Int32} (hG : GWf P K La kinds laneOf) (hb1 : 0 < P → 1 ≤ b) (h0L : P = 0 → Ln = 0) (hb : b ≤ 3) (hlaw : law ≤ 1) (hS : S < 512) (hL : LnW P Ln La F Le) (hF : SeenF z W E pins ways fell sights) (hn : n ≤ 16) (R nu wi sh lo ch : Nat → Int32) :
    ∃ R' nu' wi' sh' lo' ch' : Nat → Int32, f_X8_digest 1000 (nI n) (nI P) (nI Ln) (nI S) (nI b) (nI law) (nI st) re (nI z) sights laneOf kinds R nu wi sh lo ch page = some (dgV P Ln b law st S z n K La F Le W E pins page re, dgV P Ln b law st S z n K La F Le W E pins page re, R', nu', wi', sh', lo', ch') := by
  have hP := hG.1
  have hb2 : 0 < Ln → 1 ≤ b := fun e => hb1 (Nat.pos_of_ne_zero (fun e2 => by have := h0L e2; omega))
  obtain ⟨R1, n1, q3⟩ := mDig_lane hG hb2 hb hS hL Ln 1000 0 (hs2 (fun p x => pnV P b K La S p (srt (fun i => decide (pins i = nI p)) W E z) (nI x)) 6 P 0 1307) R nu (by omega) (by have := hL.1; omega)
  unfold f_X8_digest
  rw [show (0 : Int32) = nI 0 from rfl, mDig_pin hG hb hS hF _ P 1000 0 1307 (by omega) (by omega), q3, lacks_ok hP, ob1_s, jm_s]
  by_cases e : P = 0
  · refine ⟨R1, n1, wi, sh, lo, ch, ?_⟩
    rw [if_pos e, if_neg (show ¬ (1 : Int32) = nI 0 by decide)]
    show f_X8_digest_L101 1000 (nI n) page _ 1000 (nI 0) _ = _
    rw [mDig_page hn _ _ n 1000 0 _ (by omega) (by omega), mDig_cnt hG hb hS _ _ _ _ _ _ _ _ _ 10 1000 0 _ (by omega) (by omega), dgV, grI, if_pos e]
  · obtain ⟨n2, w2, s2, l2, c2, R2, q6⟩ := mDig_green (P := P) (Ln := Ln) (b := b) (law := law) (S := S) hG (hb1 (by omega)) hb hlaw hS hL.1 (hs2 (fun l x => lnV P b K La F Le S l (nI x)) 5 Ln 0 (hs2 (fun p x => pnV P b K La S p (srt (fun i => decide (pins i = nI p)) W E z) (nI x)) 6 P 0 1307)) n1 wi sh lo ch R1
    refine ⟨R2, n2, w2, s2, l2, c2, ?_⟩
    rw [if_neg e, if_pos (show (0 : Int32) = nI 0 from rfl), q6, ob7_s]
    show f_X8_digest_L101 1000 (nI n) page _ 1000 (nI 0) _ = _
    rw [mDig_page hn _ _ n 1000 0 _ (by omega) (by omega), mDig_cnt hG hb hS _ _ _ _ _ _ _ _ _ 10 1000 0 _ (by omega) (by omega), dgV, grI, if_neg e]
theorem dgV_page {P Ln b law st S z n : Nat} {K La F Le W E : Nat → Nat} {pins page page' : Nat → Int32} {re : Int32} (h : ∀ i, i < n → page i = page' i) : dgV P Ln b law st S z n K La F Le W E pins page re = dgV P Ln b law st S z n K La F Le W E pins page' re := by
  unfold dgV
  rw [hsF_cong n 0 _ (fun i hi => h i (by omega))]
