/-! the best strike -/
def gG (P b law : Nat) (K La : Nat → Nat) (S no : Nat) : Bool := vS S P b K La no && decide (spW P b law K La (lf P K La S no) = 0)
def bsF (g : Nat → Bool) : Nat → Nat → Int32
  | 0, _ => -1
  | d + 1, no => if g no = true then nI (10 * (no / 3) + no % 3 + 1) else bsF g d (no + 1)
set_option maxRecDepth 100000 in
theorem bs7 : ∀ no, no < 27 → (10 : Int32) * nI (no / 3) + nI (no % 3 + 1) = nI (10 * (no / 3) + no % 3 + 1) := by decide +kernel
set_option maxRecDepth 100000 in
theorem bs8 : ∀ no, no < 27 → (((10 : Int32) * (nI no / (3 : Int32))) + (nI no - nI no / (3 : Int32) * (3 : Int32))) + (1 : Int32) = nI (10 * (no / 3) + no % 3 + 1) := by decide +kernel
theorem ct_mono (g : Nat → Bool) (k : Nat) : ∀ d, fb_ct g k ≤ fb_ct g (k + d)
  | 0 => Nat.le_refl _
  | d + 1 => by
    have := ct_mono g k d
    rw [show k + (d + 1) = (k + d) + 1 by omega, fb_ct_succ]
    omega
theorem isGood_ok {P b law S no : Nat} {K La : Nat → Nat} {size tr tl : Int32} {fi co ta nu wi fe mo li : Nat → Int32} (hP : P ≤ 9) (hmo : mono P La) (hb : b ≤ 3) (hS : S < 2 ^ P) (hR : StrR P b K La size tr tl fi co ta) (hlaw : law ≤ 1) (hT : Tabs P b law K La (fun t => t < 2 ^ P) nu wi fe mo li) (hc : cand P b K La no = true) :
    f_X2_isGood 1000 size tr tl ta fi co wi (nI (fb_ct (cand P b K La) no)) (nI S) = some (if gG P b law K La S no = true then 1 else 0) := by
  have h5 := pow9 hP hS
  have hv0 : vS S P b K La no = (cand P b K La no && allI (fun p => S.testBit p) (no / 3) (no % 3 + 1)) := cand_canM hmo
  rw [hc, Bool.true_and] at hv0
  unfold f_X2_isGood gG
  rw [fallen_ok hP hb hR h5 hc, ob1_s]
  by_cases ha : allI (fun p => S.testBit p) (no / 3) (no % 3 + 1) = true
  · have hv : vS S P b K La no = true := hv0.trans ha
    obtain ⟨m1, m2, m3⟩ := canM_info hv (by omega)
    obtain ⟨g1, g2, g3⟩ := fall_info (S := S) (K := K) (La := La) hP (show 1 ≤ no % 3 + 1 by omega) m1
    have hlt := lf_lt hP hv
    have el : nI S &&& (nI (fall P K La S (no / 3) (no % 3 + 1)) ^^^ (-1 : Int32)) = nI (lf P K La S no) := andn _ _
    have i5 : lf P K La S no < 512 := by omega
    have hz : ¬ nI (fall P K La S (no / 3) (no % 3 + 1)) = (0 : Int32) := fun h => g3 ((nI_eq (b := 0) (by omega) (by omega)).mp h)
    have b2 := spW_le (b := b) (K := K) (La := La) hP hlaw (lf P K La S no)
    rw [if_pos ha, if_neg hz, el, gd_i i5 (by omega), nI_clamp (by omega), (hT _ (show lf P K La S no < 2 ^ P by omega)).2.1, hv, Bool.true_and]
    by_cases e : spW P b law K La (lf P K La S no) = 0
    · rw [e, if_pos (show nI 0 = (0 : Int32) from rfl), if_pos (by decide)]
    · rw [if_neg (show ¬ nI (spW P b law K La (lf P K La S no)) = (0 : Int32) from nI_ne0 (by omega) (by omega)), if_neg (by rw [decide_eq_false e]; decide)]
  · have hv : ¬ vS S P b K La no = true := by rw [hv0]; exact ha
    rw [if_neg ha, if_pos (show nI 0 = (0 : Int32) from rfl), Bool.not_eq_true _ |>.mp hv]
    rfl
theorem gG_cand {P b law S no : Nat} {K La : Nat → Nat} (hmo : mono P La) (h : gG P b law K La S no = true) : cand P b K La no = true := by
  unfold gG at h
  rw [Bool.and_eq_true] at h
  have h1 := h.1
  have hv0 : vS S P b K La no = (cand P b K La no && allI (fun p => S.testBit p) (no / 3) (no % 3 + 1)) := cand_canM hmo
  rw [hv0, Bool.and_eq_true] at h1
  exact h1.1
theorem first_L {P b law S : Nat} {K La : Nat → Nat} {size tr tl : Int32} {fi co ta nu wi fe mo li : Nat → Int32} (hP : P ≤ 9) (hmo : mono P La) (hb : b ≤ 3) (hS : S < 2 ^ P) (hR : StrR P b K La size tr tl fi co ta) (hlaw : law ≤ 1) (hT : Tabs P b law K La (fun t => t < 2 ^ P) nu wi fe mo li) :
    ∀ (d n no : Nat), no + d = 3 * P → d < n → f_X2_firstGood_L2 1000 (nI S) size tr tl ta fi co wi (fun a2 => gd (inb a2 27) <| gd (inb a2 27) <| some (((10 : Int32) * (fi a2.toNatClampNeg)) + (co a2.toNatClampNeg))) n (nI (fb_ct (cand P b K La) no)) = some (bsF (gG P b law K La S) d no) := by
  obtain ⟨⟨hs, hl⟩, -, -⟩ := id hR
  have hk := fb_ct_le (cand P b K La) (3 * P)
  intro d
  induction d with
  | zero =>
    intro n no h1 h2
    obtain ⟨n, rfl⟩ : ∃ k, n = k + 1 := ⟨n - 1, by omega⟩
    obtain rfl : no = 3 * P := by omega
    rw [f_X2_firstGood_L2, hs, if_pos (nI_le (Nat.le_refl _) (by omega))]
    rfl
  | succ d ih =>
    intro n no h1 h2
    by_cases hc : cand P b K La no = true
    · obtain ⟨n, rfl⟩ : ∃ k, n = k + 1 := ⟨n - 1, by omega⟩
      have go := ih n (no + 1) (by omega) (by omega)
      have hi := cand_ix hc
      obtain ⟨c1, c2, c3⟩ := cand_lt hc
      obtain ⟨l1, l2, -⟩ := hl no c1 hc
      rw [fb_ct_succ, hc, if_pos rfl] at go
      rw [f_X2_firstGood_L2, isGood_ok hP hmo hb hS hR hlaw hT hc, ob1_s, hs, if_neg (nI_ge hi (by omega)), ← hs, bsF]
      by_cases g : gG P b law K La S no = true
      · rw [if_pos g, if_pos g, if_neg n10]
        generalize fb_ct (cand P b K La) no = i at hi l1 l2 ⊢
        rw [gd_i (show i < 27 by omega) (by omega), gd_i (show i < 27 by omega) (by omega), nI_clamp (by omega), l1, l2, bs7 no (by omega)]
      · rw [if_neg g, if_neg g, if_pos rfl, nI_1]
        exact go
    · have go := ih n (no + 1) (by omega) (by omega)
      have hg : ¬ gG P b law K La S no = true := fun g => hc (gG_cand hmo g)
      rw [fb_ct_succ, if_neg hc, Nat.add_zero] at go
      rw [bsF, if_neg hg]
      exact go
theorem first_ok {P b law S : Nat} {K La : Nat → Nat} {size tr tl : Int32} {fi co ta nu wi fe mo li : Nat → Int32} (hP : P ≤ 9) (hmo : mono P La) (hb : b ≤ 3) (hS : S < 2 ^ P) (hR : StrR P b K La size tr tl fi co ta) (hlaw : law ≤ 1) (hT : Tabs P b law K La (fun t => t < 2 ^ P) nu wi fe mo li) : f_X2_firstGood 1000 size tr tl ta fi co wi (nI S) = some (bsF (gG P b law K La S) (3 * P) 0) :=
  first_L hP hmo hb hS hR hlaw hT (3 * P) 1000 0 (by omega) (by omega)
theorem many_L {P b law S : Nat} {K La : Nat → Nat} {size tr tl : Int32} {fi co ta nu wi fe mo li : Nat → Int32} (hP : P ≤ 9) (hmo : mono P La) (hb : b ≤ 3) (hS : S < 2 ^ P) (hR : StrR P b K La size tr tl fi co ta) (hlaw : law ≤ 1) (hT : Tabs P b law K La (fun t => t < 2 ^ P) nu wi fe mo li) :
    ∀ (d n no : Nat), no + d = 3 * P → d < n → f_X2_howManyGood_L5 1000 (nI S) size tr tl ta fi co wi n (nI (fb_ct (gG P b law K La S) no)) (nI (fb_ct (cand P b K La) no)) = some (nI (fb_ct (gG P b law K La S) (3 * P))) := by
  obtain ⟨⟨hs, hl⟩, -, -⟩ := id hR
  have hk := fb_ct_le (cand P b K La) (3 * P)
  intro d
  induction d with
  | zero =>
    intro n no h1 h2
    obtain ⟨n, rfl⟩ : ∃ k, n = k + 1 := ⟨n - 1, by omega⟩
    obtain rfl : no = 3 * P := by omega
    rw [f_X2_howManyGood_L5, hs, if_pos (nI_le (Nat.le_refl _) (by omega))]
  | succ d ih =>
    intro n no h1 h2
    by_cases hc : cand P b K La no = true
    · obtain ⟨n, rfl⟩ : ∃ k, n = k + 1 := ⟨n - 1, by omega⟩
      have go := ih n (no + 1) (by omega) (by omega)
      have hi := cand_ix hc
      rw [fb_ct_succ, fb_ct_succ, hc, if_pos rfl] at go
      rw [f_X2_howManyGood_L5, isGood_ok hP hmo hb hS hR hlaw hT hc, ob1_s, hs, if_neg (nI_ge hi (by omega)), ← hs]
      simp only [jm_s]
      rw [nI_1, nI_1]
      by_cases g : gG P b law K La S no = true
      · rw [if_pos g] at go
        rw [if_pos g, if_neg n10]
        exact go
      · rw [if_neg g, Nat.add_zero] at go
        rw [if_neg g, if_pos rfl]
        exact go
    · have go := ih n (no + 1) (by omega) (by omega)
      have hg : ¬ gG P b law K La S no = true := fun g => hc (gG_cand hmo g)
      rw [fb_ct_succ, fb_ct_succ, if_neg hc, if_neg hg, Nat.add_zero, Nat.add_zero] at go
      exact go
theorem many_ok {P b law S : Nat} {K La : Nat → Nat} {size tr tl : Int32} {fi co ta nu wi fe mo li : Nat → Int32} (hP : P ≤ 9) (hmo : mono P La) (hb : b ≤ 3) (hS : S < 2 ^ P) (hR : StrR P b K La size tr tl fi co ta) (hlaw : law ≤ 1) (hT : Tabs P b law K La (fun t => t < 2 ^ P) nu wi fe mo li) : f_X2_howManyGood 1000 size tr tl ta fi co wi (nI S) = some (nI (fb_ct (gG P b law K La S) (3 * P))) :=
  many_L hP hmo hb hS hR hlaw hT (3 * P) 1000 0 (by omega) (by omega)
theorem pr1 (k : Nat) : nI (k + 1) + (-1 : Int32) = nI k := by
  rw [← Int32.sub_eq_add_neg]
  exact nI_pred k
theorem bestOf_L {P b law S : Nat} {K La : Nat → Nat} {kinds laneOf wi sh lo ch : Nat → Int32} (hG : GWf P K La kinds laneOf) (hb : b ≤ 3) (hS : S < 512) (hlaw : law ≤ 1) (hT : Tab4 P b law K La (fun t => sb t S) wi sh lo ch) (kk : Int32 → Int32 → Option (Int32 × (Nat → Int32) × (Nat → Int32) × (Nat → Int32) × (Nat → Int32))) :
    ∀ (k n : Nat), k ≤ 3 * P → k < n → f_X8_bestOf_L18 1000 (nI P) (nI S) (nI b) wi laneOf kinds kk n (bsF (gG P b law K La S) (3 * P - k) k) (nI (fb_ct (gG P b law K La S) (3 * P) - fb_ct (gG P b law K La S) k)) (nI k + (-1 : Int32)) = kk (bsF (gG P b law K La S) (3 * P) 0) (nI (fb_ct (gG P b law K La S) (3 * P))) := by
  have hP := hG.1
  intro k
  induction k with
  | zero =>
    intro n h1 h2
    obtain ⟨n, rfl⟩ : ∃ k, n = k + 1 := ⟨n - 1, by omega⟩
    rw [f_X8_bestOf_L18, if_pos (by decide)]
    rfl
  | succ k ih =>
    intro n h1 h2
    obtain ⟨n, rfl⟩ : ∃ k, n = k + 1 := ⟨n - 1, by omega⟩
    have go := ih n (by omega) (by omega)
    have hm := ct_mono (gG P b law K La S) (k + 1) (3 * P - (k + 1))
    rw [show k + 1 + (3 * P - (k + 1)) = 3 * P by omega, fb_ct_succ] at hm
    rw [show 3 * P - k = (3 * P - (k + 1)) + 1 by omega, bsF] at go
    rw [f_X8_bestOf_L18, pr1, if_neg (nI_pos (by omega)), leftBy_ok hG hS hb (by omega), ob1_s, fb_ct_succ]
    simp only [jm_s]
    by_cases hv : vS S P b K La k = true
    · have hlt := lf_lt hP hv
      have i5 : lf P K La S k < 512 := by omega
      have b2 := spW_le (b := b) (K := K) (La := La) hP hlaw (lf P K La S k)
      have hv' : canM S P b K La (k / 3) (k % 3 + 1) = true := hv
      rw [if_pos hv', show dif S (fall P K La S (k / 3) (k % 3 + 1)) = lf P K La S k from rfl, if_neg (nI_m1 (by omega)), gd_i i5 (by omega), nI_clamp (by omega), (hT _ (sb_lf (sb_refl S))).1]
      by_cases e : spW P b law K La (lf P K La S k) = 0
      · have hg : gG P b law K La S k = true := by unfold gG; rw [hv, e]; rfl
        rw [if_pos hg] at go hm
        rw [e, if_pos (show nI 0 = (0 : Int32) from rfl), bs8 k (by omega), if_pos hg, nI_1, show fb_ct (gG P b law K La S) (3 * P) - (fb_ct (gG P b law K La S) k + 1) + 1 = fb_ct (gG P b law K La S) (3 * P) - fb_ct (gG P b law K La S) k by omega]
        exact go
      · have hg : ¬ gG P b law K La S k = true := by unfold gG; rw [hv, decide_eq_false e]; decide
        rw [if_neg hg] at go
        rw [if_neg (show ¬ nI (spW P b law K La (lf P K La S k)) = (0 : Int32) from nI_ne0 (by omega) (by omega)), if_neg hg, Nat.add_zero]
        exact go
    · have hv' : ¬ canM S P b K La (k / 3) (k % 3 + 1) = true := hv
      have hg : ¬ gG P b law K La S k = true := by unfold gG; rw [Bool.not_eq_true _ |>.mp hv, Bool.false_and]; decide
      rw [if_neg hg] at go
      rw [if_neg hv', if_pos rfl, if_neg hg, Nat.add_zero]
      exact go
/-- what is told of the best -/
def beV (P b law : Nat) (K La : Nat → Nat) (S w : Nat) : Int32 := if w = 0 then bsF (gG P b law K La S) (3 * P) 0 else if w = 1 then nI (fb_ct (gG P b law K La S) (3 * P)) else if w = 2 then nI (spF P b K La S) else nI (spM P b K La S)
theorem nz {w k : Nat} (hw : w < 2 ^ 31) (hk : k < 2 ^ 31) (h : ¬ w = k) : ¬ nI w = nI k := fun e => h ((nI_eq hw hk).mp e)
theorem mBest_ok {P b law S w : Nat} {K La : Nat → Nat} {kinds laneOf : Nat → Int32} (hG : GWf P K La kinds laneOf) (hb : b ≤ 3) (hlaw : law ≤ 1) (hS : S < 512) (hw : w < 2 ^ 31) (wi sh lo ch : Nat → Int32) : ∃ wi' sh' lo' ch' : Nat → Int32, f_X8_bestOf 1000 (nI P) (nI S) (nI b) (nI law) wi sh lo laneOf kinds ch (nI w) = some (beV P b law K La S w, wi', sh', lo', ch') := by
  have hP := hG.1
  obtain ⟨wi', sh', lo', ch', q1, q2⟩ := layAll_ok hG hb hlaw hS wi sh lo ch
  refine ⟨wi', sh', lo', ch', ?_⟩
  have hL := fun kk => bestOf_L hG hb hS hlaw q1 kk (3 * P) 1000 (Nat.le_refl _) (by omega)
  rw [Nat.sub_self, Nat.sub_self] at hL
  unfold f_X8_bestOf beV
  rw [q2, ob4_s, mul3, Int32.sub_eq_add_neg]
  refine Eq.trans (hL _) ?_
  by_cases e0 : w = 0
  · subst e0
    rw [if_pos (show nI 0 = (0 : Int32) from rfl), if_pos rfl]
  rw [if_neg (show ¬ nI w = (0 : Int32) from nz (k := 0) hw (by omega) e0), if_neg e0]
  by_cases e1 : w = 1
  · subst e1
    rw [if_pos (show nI 1 = (1 : Int32) from rfl), if_pos rfl]
  rw [if_neg (show ¬ nI w = (1 : Int32) from nz (k := 1) hw (by omega) e1), if_neg e1]
  by_cases e2 : w = 2
  · subst e2
    rw [if_pos (show nI 2 = (2 : Int32) from rfl), if_pos rfl, gd_i hS (by omega), nI_clamp (by omega), (q1 S (sb_refl S)).2.1]
  rw [if_neg (show ¬ nI w = (2 : Int32) from nz (k := 2) hw (by omega) e2), if_neg e2, gd_i hS (by omega), nI_clamp (by omega), (q1 S (sb_refl S)).2.2.1]
theorem cBest_ok {P b law S w : Nat} {K La : Nat → Nat} {size tr tl : Int32} {fi co ta : Nat → Int32} (hP : P ≤ 9) (h0 : 0 < P) (hmo : mono P La) (hb : b ≤ 3) (hlaw : law ≤ 1) (hS : S < 2 ^ P) (hR : StrR P b K La size tr tl fi co ta) (hw : w ≤ 3) {old : Int32} {nu wi fe mo li : Nat → Int32} (hO : OutR P b law K La old nu wi fe mo li) :
    ∃ nu' wi' fe' mo' li' : Nat → Int32, OutR P b law K La 0 nu' wi' fe' mo' li' ∧ f_X7_best 1000 old (nI P) (nI law) (nI S) size tr tl ta fi co nu wi fe mo li (nI w) = some (beV P b law K La S w, 0, nu', wi', fe', mo', li') := by
  have h5 := pow9 hP hS
  obtain ⟨nu', wi', fe', mo', li', q1, q2⟩ := outNow_ok hP h0 hmo hb hlaw hR hO
  refine ⟨nu', wi', fe', mo', li', OutR.of q1, ?_⟩
  unfold f_X7_best beV
  rw [if_neg (nI_pos (by omega)), if_pos (show nI w ≤ (3 : Int32) from nI_le (b := 3) (by omega) (by omega)), hasGreen_ok hP, ob1_s, if_neg (show ¬ P = 0 by omega), if_neg n10, q2, ob6_s, ob6_s, ob6_s, ob6_s, first_ok hP hmo hb hS hR hlaw q1, ob1_s, many_ok hP hmo hb hS hR hlaw q1, ob1_s, gd_i h5 (by omega), gd_i h5 (by omega), nI_clamp (by omega), (q1 S hS).2.2.1, (q1 S hS).2.2.2.1]
  by_cases e0 : w = 0
  · subst e0
    rw [if_pos (show nI 0 = (0 : Int32) from rfl), if_pos rfl]
  rw [if_neg (show ¬ nI w = (0 : Int32) from nz (k := 0) (by omega) (by omega) e0), if_neg e0]
  by_cases e1 : w = 1
  · subst e1
    rw [if_pos (show nI 1 = (1 : Int32) from rfl), if_pos rfl]
  rw [if_neg (show ¬ nI w = (1 : Int32) from nz (k := 1) (by omega) (by omega) e1), if_neg e1]
  by_cases e2 : w = 2
  · subst e2
    rw [if_pos (show nI 2 = (2 : Int32) from rfl), if_pos rfl]
  rw [if_neg (show ¬ nI w = (2 : Int32) from nz (k := 2) (by omega) (by omega) e2), if_neg e2]
theorem k_best {P b law S : Nat} {K La : Nat → Nat} {kinds laneOf : Nat → Int32} {size tr tl : Int32} {fi co ta : Nat → Int32} (hG : GWf P K La kinds laneOf) (hmo : mono P La) (hb : b ≤ 3) (hlaw : law ≤ 1) (hS : S < 2 ^ P) (hR : StrR P b K La size tr tl fi co ta) {old : Int32} {nu wi fe mo li : Nat → Int32} (hO : OutR P b law K La old nu wi fe mo li) (w1 w2 w3 w4 : Nat → Int32) (x : Int32) :
    ∃ (a0 o : Int32) (nu' wi' fe' mo' li' w1' w2' w3' w4' : Nat → Int32), OutR P b law K La o nu' wi' fe' mo' li' ∧ f_X7_best 1000 old (nI P) (nI law) (nI S) size tr tl ta fi co nu wi fe mo li x = some (a0, o, nu', wi', fe', mo', li') ∧ f_X8_best 1000 (nI P) (nI S) (nI b) (nI law) w1 w2 w3 laneOf kinds w4 x = some (a0, w1', w2', w3', w4') := by
  have hP := hG.1
  have h5 := pow9 hP hS
  by_cases hx : x < 0 ∨ 3 < x
  · refine ⟨-102, old, nu, wi, fe, mo, li, w1, w2, w3, w4, hO, ?_, ?_⟩
    · unfold f_X7_best
      by_cases c : x < 0
      · rw [if_pos c]
      · rw [if_neg c, if_neg (nle_of (hx.resolve_left c))]
    · unfold f_X8_best
      rw [in03, ob1_s, if_pos hx, if_pos rfl]
  obtain ⟨j, hj, rfl⟩ := upto (n := 3) rfl hx
  by_cases e : P = 0
  · refine ⟨-103, old, nu, wi, fe, mo, li, w1, w2, w3, w4, hO, ?_, ?_⟩
    · unfold f_X7_best
      rw [if_neg (nI_pos (by omega)), if_pos (show nI j ≤ (3 : Int32) from nI_le (b := 3) (by omega) (by omega)), hasGreen_ok hP, ob1_s, if_pos e, if_pos rfl]
    · unfold f_X8_best
      rw [in03, ob1_s, if_neg hx, if_neg n10, lacks_ok hP, ob1_s, if_pos e, if_neg n10]
  · obtain ⟨nu', wi', fe', mo', li', q1, q2⟩ := cBest_ok hP (by omega) hmo hb hlaw hS hR hj hO
    obtain ⟨w1', w2', w3', w4', q3⟩ := mBest_ok hG hb hlaw h5 (show j < 2 ^ 31 by omega) w1 w2 w3 w4
    refine ⟨_, 0, nu', wi', fe', mo', li', w1', w2', w3', w4', q1, q2, ?_⟩
    unfold f_X8_best
    rw [in03, ob1_s, if_neg hx, if_neg n10, lacks_ok hP, ob1_s, if_neg e, if_pos rfl, q3]
    rfl
