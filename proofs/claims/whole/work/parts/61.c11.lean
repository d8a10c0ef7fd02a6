/-! games -/
theorem goR_sub (c : Nat → Bool) : ∀ k r p, r < p → p ≤ goR c k r → c (p - 1) = true
  | 0, r, p, h1, h2 => by rw [goR] at h2; omega
  | k + 1, r, p, h1, h2 => by
    rw [goR] at h2
    by_cases hc : c r = true
    · rw [if_pos hc] at h2
      by_cases e : p = r + 1
      · subst e; rw [Nat.add_sub_cancel]; exact hc
      · exact goR_sub c k (r + 1) p (by omega) h2
    · rw [if_neg hc] at h2; omega
theorem goL_sub (c : Nat → Bool) : ∀ l p, goL c l ≤ p → p < l → c (p + 1) = true
  | 0, p, h1, h2 => by omega
  | l + 1, p, h1, h2 => by
    rw [goL] at h1
    by_cases hc : c (l + 1) = true
    · rw [if_pos hc] at h1
      by_cases e : p = l
      · subst e; exact hc
      · exact goL_sub c l p h1 (by omega)
    · rw [if_neg hc] at h1; omega
theorem fall_sub {P b S f m i : Nat} {K La : Nat → Nat} (hP : P ≤ 9) (hmo : mono P La) (hm : 1 ≤ m) (h : canM S P b K La f m = true) (hi : (fall P K La S f m).testBit i = true) : S.testBit i = true := by
  obtain ⟨m1, m2, m3⟩ := canM_info h hm
  rw [canM_eq hmo hm, Bool.and_eq_true, Bool.and_eq_true] at h
  have hall := allI_iff.mp h.2.2
  have gr := goR_le (cR P K La S) (9 - (f + m)) (f + m - 1)
  have gl := goL_le (cL P K La S) f
  unfold fall at hi
  rw [rn_bit (by omega) (by omega), Bool.and_eq_true] at hi
  have i1 := of_decide_eq_true hi.1
  have i2 := of_decide_eq_true hi.2
  by_cases c1 : i < f
  · have := goL_sub _ f i i1 c1
    unfold cL at this
    rw [Bool.and_eq_true, Nat.add_sub_cancel] at this
    exact this.2
  · by_cases c2 : i < f + m
    · exact hall i (by omega) c2
    · have := goR_sub _ _ _ i (by omega) i2
      unfold cR at this
      rw [Bool.and_eq_true, show i - 1 + 1 = i by omega] at this
      exact this.2
theorem pc_dif {S F : Nat} (h : ∀ i, F.testBit i = true → S.testBit i = true) : pc9 S = pc9 (dif S F) + pc9 F := by
  unfold pc9
  rw [← fb_ct_or]
  · refine fb_ct_cong (fun k _ => ?_)
    rw [dif_bit]
    by_cases hf : F.testBit k = true
    · rw [hf, h k hf]; rfl
    · rw [Bool.not_eq_true] at hf
      rw [hf, Bool.not_false, Bool.and_true, Bool.or_false]
  · rintro k - ⟨h1, h2⟩
    rw [dif_bit, h2] at h1
    simp at h1
theorem pc_lf {P b S no : Nat} {K La : Nat → Nat} (hP : P ≤ 9) (hmo : mono P La) (hv : vS S P b K La no = true) : pc9 (fall P K La S (no / 3) (no % 3 + 1)) + pc9 (lf P K La S no) = pc9 S := by
  have := pc_dif (S := S) (F := fall P K La S (no / 3) (no % 3 + 1)) (fun i hi => fall_sub hP hmo (by omega) hv hi)
  unfold lf
  omega
def nx (s : Nat) : Nat := (1103515245 * s + 12345) % 2 ^ 31
theorem nx_lt (s : Nat) : nx s < 2 ^ 31 := Nat.mod_lt _ (by decide)
theorem cDraw {s c : Nat} (hs : s < 2 ^ 31) (h0 : 0 < c) (hc : c < 2 ^ 31) : f_X0_draw 1000 (lN s) (nI c) = some (nI (nx s / 65536 % c), lN (nx s)) := by
  have hn := nx_lt s
  unfold f_X0_draw
  rw [if_neg (nI_nle h0 hc), nI_l hc, show (1103515245 : Int64) = lN 1103515245 from rfl, show (12345 : Int64) = lN 12345 from rfl, show (2147483648 : Int64) = lN (2 ^ 31) from rfl, show (65536 : Int64) = lN 65536 from rfl, lN_mul, lN_add, pk_lRem (by omega) (by decide) (by decide), show (1103515245 * s + 12345) % 2 ^ 31 = nx s from rfl, pk_lDiv (by omega) (by decide) (by decide), pk_lRem (by omega) h0 (by omega), lN_i, gd_t]
  rw [decide_eq_false (show ¬ lN c = 0 from fun e => by have := (lN_eq (b := 0) hc (by omega)).mp e; omega)]
  rfl
theorem mDraw {s c : Nat} (hs : s < 2 ^ 31) (h0 : 0 < c) (hc : c < 2 ^ 31) : f_X8_draw 1000 (nI s) (nI c) = some (nI (nx s / 65536 % c), nI (nx s)) := by
  have hn := nx_lt s
  unfold f_X8_draw
  rw [nI_l hs, show (1103515245 : Int64) = lN 1103515245 from rfl, show (12345 : Int64) = lN 12345 from rfl, show (2147483647 : Int64) = lN (2 ^ 31 - 1) from rfl, show (65536 : Int32) = nI 65536 from rfl, lN_mul, lN_add, fb_maskL, show (1103515245 * s + 12345) % 2 ^ 31 = nx s from rfl, lN_i, pk_div hn (by decide) (by decide), pk_rem (by omega) h0 hc, gd_t]
  rw [decide_eq_false (nI_ne0 h0 hc)]
  rfl
theorem vS_cand {P b S no : Nat} {K La : Nat → Nat} (hmo : mono P La) (h : vS S P b K La no = true) : cand P b K La no = true := by
  have hv0 : vS S P b K La no = (cand P b K La no && allI (fun p => S.testBit p) (no / 3) (no % 3 + 1)) := cand_canM hmo
  rw [hv0, Bool.and_eq_true] at h
  exact h.1
theorem ct_below {v : Nat → Bool} {no i : Nat} (h : no < i) (hv : v no = true) : fb_ct v no < fb_ct v i := by
  have := fb_ct_mono v (show no + 1 ≤ i from h)
  rw [fb_ct_succ, if_pos hv] at this
  omega
theorem byNo_L {P b S i : Nat} {K La : Nat → Nat} {size tr tl : Int32} {fi co ta : Nat → Int32} (hP : P ≤ 9) (hmo : mono P La) (hb : b ≤ 3) (hR : StrR P b K La size tr tl fi co ta) (hi : i < 3 * P) (hv : vS S P b K La i = true) (kk : Int32 → Option Int32) :
    ∀ (d n no : Nat), no + d = i → d < n → f_X6_fallenByNumber_L5 1000 (nI S) size ta kk n (nI (fb_ct (vS S P b K La) i - fb_ct (vS S P b K La) no)) (nI (fb_ct (cand P b K La) no)) = kk (nI (fb_ct (cand P b K La) i)) := by
  obtain ⟨⟨hs, hl⟩, -, -⟩ := id hR
  have hk := fb_ct_le (cand P b K La) (3 * P)
  have hk2 := fb_ct_le (vS S P b K La) i
  intro d
  induction d with
  | zero =>
    intro n no h1 h2
    obtain ⟨n, rfl⟩ : ∃ k, n = k + 1 := ⟨n - 1, by omega⟩
    obtain rfl : no = i := by omega
    have hc := vS_cand hmo hv
    have hv0 : vS S P b K La no = (cand P b K La no && allI (fun p => S.testBit p) (no / 3) (no % 3 + 1)) := cand_canM hmo
    have hx := cand_ix hc
    obtain ⟨c1, c2, c3⟩ := cand_lt hc
    obtain ⟨-, -, l3⟩ := hl no c1 hc
    rw [f_X6_fallenByNumber_L5, hs, if_neg (nI_ge hx (by omega)), Nat.sub_self]
    generalize fb_ct (cand P b K La) no = j at hx l3 ⊢
    have run := and_run (S := S) (l := no / 3) (r := no / 3 + no % 3) (by omega) (by omega) (by omega)
    rw [show no / 3 + no % 3 + 1 - no / 3 = no % 3 + 1 by omega] at run
    rw [hv, hc, Bool.true_and] at hv0
    rw [gd_i (show j < 27 by omega) (by omega), gd_i (show j < 27 by omega) (by omega), nI_clamp (show j < 2 ^ 31 by omega), l3]
    simp only [jm_s]
    rw [if_pos (run.mpr hv0.symm), if_pos (show nI 0 = (0 : Int32) from rfl)]
  | succ d ih =>
    intro n no h1 h2
    have hv0 : vS S P b K La no = (cand P b K La no && allI (fun p => S.testBit p) (no / 3) (no % 3 + 1)) := cand_canM hmo
    by_cases hc : cand P b K La no = true
    · obtain ⟨n, rfl⟩ : ∃ k, n = k + 1 := ⟨n - 1, by omega⟩
      have go := ih n (no + 1) (by omega) (by omega)
      have hx := cand_ix hc
      obtain ⟨c1, c2, c3⟩ := cand_lt hc
      obtain ⟨-, -, l3⟩ := hl no c1 hc
      have run := and_run (S := S) (l := no / 3) (r := no / 3 + no % 3) (by omega) (by omega) (by omega)
      rw [show no / 3 + no % 3 + 1 - no / 3 = no % 3 + 1 by omega] at run
      rw [hc, Bool.true_and] at hv0
      rw [fb_ct_succ, fb_ct_succ, hc, if_pos rfl] at go
      rw [f_X6_fallenByNumber_L5, hs, if_neg (nI_ge hx (by omega)), ← hs]
      generalize fb_ct (cand P b K La) no = j at hx l3 go ⊢
      rw [gd_i (show j < 27 by omega) (by omega), gd_i (show j < 27 by omega) (by omega), nI_clamp (show j < 2 ^ 31 by omega), l3]
      simp only [jm_s]
      rw [nI_1]
      by_cases ha : allI (fun p => S.testBit p) (no / 3) (no % 3 + 1) = true
      · have hvn : vS S P b K La no = true := hv0.trans ha
        have hlt := ct_below (show no < i by omega) hvn
        rw [if_pos hvn] at go
        rw [if_pos (run.mpr ha), if_neg (nI_ne0 (by omega) (by omega)), show fb_ct (vS S P b K La) i - fb_ct (vS S P b K La) no = (fb_ct (vS S P b K La) i - (fb_ct (vS S P b K La) no + 1)) + 1 by omega, pr1]
        exact go
      · have hvn : ¬ vS S P b K La no = true := by rw [hv0]; exact ha
        rw [if_neg hvn, Nat.add_zero] at go
        rw [if_neg (fun h => ha (run.mp h))]
        exact go
    · have go := ih n (no + 1) (by omega) (by omega)
      have hvn : ¬ vS S P b K La no = true := fun h => hc (vS_cand hmo h)
      rw [fb_ct_succ, fb_ct_succ, if_neg hc, if_neg hvn, Nat.add_zero, Nat.add_zero] at go
      exact go
theorem byNo_ok {P b S i : Nat} {K La : Nat → Nat} {size tr tl : Int32} {fi co ta : Nat → Int32} (hP : P ≤ 9) (hmo : mono P La) (hb : b ≤ 3) (hS : S < 512) (hR : StrR P b K La size tr tl fi co ta) (hi : i < 3 * P) (hv : vS S P b K La i = true) : f_X6_fallenByNumber 1000 size tr tl ta fi co (nI (fb_ct (vS S P b K La) i)) (nI S) = some (nI (fall P K La S (i / 3) (i % 3 + 1))) := by
  have hc := vS_cand hmo hv
  have hv0 : vS S P b K La i = (cand P b K La i && allI (fun p => S.testBit p) (i / 3) (i % 3 + 1)) := cand_canM hmo
  rw [hv, hc, Bool.true_and] at hv0
  unfold f_X6_fallenByNumber
  refine Eq.trans (byNo_L hP hmo hb hR hi hv _ i 1000 0 (by omega) (by omega)) ?_
  rw [fallen_ok hP hb hR hS hc, ob1_s, if_pos hv0.symm]
theorem soMany_L {P b S i : Nat} {K La : Nat → Nat} {kinds laneOf : Nat → Int32} (hG : GWf P K La kinds laneOf) (hb : b ≤ 3) (hS : S < 512) (hi : i < 3 * P) (hv : vS S P b K La i = true) (kk : Int32 → Option Int32) :
    ∀ (d n no : Nat), no + d = i → d < n → f_X8_leftBySoManieth_L5 1000 (nI S) (nI P) (nI b) laneOf kinds kk n (nI (fb_ct (vS S P b K La) i - fb_ct (vS S P b K La) no)) (nI no) = kk (nI i) := by
  have hP := hG.1
  have hk2 := fb_ct_le (vS S P b K La) i
  intro d
  induction d with
  | zero =>
    intro n no h1 h2
    obtain ⟨n, rfl⟩ : ∃ k, n = k + 1 := ⟨n - 1, by omega⟩
    obtain rfl : no = i := by omega
    have hv' : canM S P b K La (no / 3) (no % 3 + 1) = true := hv
    have hd := dif_lt (F := fall P K La S (no / 3) (no % 3 + 1)) hS
    rw [f_X8_leftBySoManieth_L5, leftBy_ok hG hS hb (by omega), ob1_s, Nat.sub_self]
    simp only [jm_s]
    rw [if_pos hv', if_neg (nI_m1 (by omega)), if_pos (by decide)]
  | succ d ih =>
    intro n no h1 h2
    obtain ⟨n, rfl⟩ : ∃ k, n = k + 1 := ⟨n - 1, by omega⟩
    have go := ih n (no + 1) (by omega) (by omega)
    have hd := dif_lt (F := fall P K La S (no / 3) (no % 3 + 1)) hS
    rw [fb_ct_succ] at go
    rw [f_X8_leftBySoManieth_L5, leftBy_ok hG hS hb (by omega), ob1_s]
    simp only [jm_s, ob1_s]
    rw [nI_1]
    by_cases hvn : vS S P b K La no = true
    · have hv' : canM S P b K La (no / 3) (no % 3 + 1) = true := hvn
      have hlt := ct_below (show no < i by omega) hvn
      rw [if_pos hvn] at go
      rw [if_pos hv', if_neg (nI_m1 (by omega)), if_neg (nI_nle (by omega) (by omega)), if_neg (nI_m1 (by omega)), show nI (fb_ct (vS S P b K La) i - fb_ct (vS S P b K La) no) - 1 = nI (fb_ct (vS S P b K La) i - fb_ct (vS S P b K La) no - 1) from pk_sub (b := 1) (by omega), Nat.sub_sub]
      exact go
    · have hv' : ¬ canM S P b K La (no / 3) (no % 3 + 1) = true := hvn
      rw [if_neg hvn, Nat.add_zero] at go
      rw [if_neg hv', if_pos rfl, if_pos rfl, show nI (fb_ct (vS S P b K La) i - fb_ct (vS S P b K La) no) - 0 = nI (fb_ct (vS S P b K La) i - fb_ct (vS S P b K La) no) from pk_sub (b := 0) (by omega)]
      exact go
theorem soMany_ok {P b S i : Nat} {K La : Nat → Nat} {kinds laneOf : Nat → Int32} (hG : GWf P K La kinds laneOf) (hb : b ≤ 3) (hS : S < 512) (hi : i < 3 * P) (hv : vS S P b K La i = true) : f_X8_leftBySoManieth 1000 (nI P) (nI b) laneOf kinds (nI S) (nI (fb_ct (vS S P b K La) i)) = some (nI (lf P K La S i)) := by
  have hP := hG.1
  have hv' : canM S P b K La (i / 3) (i % 3 + 1) = true := hv
  unfold f_X8_leftBySoManieth
  refine Eq.trans (soMany_L hG hb hS hi hv _ i 1000 0 (by omega) (by omega)) ?_
  rw [leftBy_ok hG hS hb (by omega), ob1_s, if_pos hv']
  rfl
/-- one game -/
theorem one_game {P b : Nat} {K La : Nat → Nat} {kinds laneOf : Nat → Int32} {size tr tl : Int32} {fi co ta : Nat → Int32} (hG : GWf P K La kinds laneOf) (hmo : mono P La) (hb : b ≤ 3) (hR : StrR P b K La size tr tl fi co ta) :
    ∀ (d S s : Nat), pc9 S ≤ d → S < 512 → s < 2 ^ 31 → ∃ S' t s' : Nat, S' < 512 ∧ s' < 2 ^ 31 ∧ t ≤ d ∧ pc9 S' ≤ pc9 S ∧
      (∀ n x4 pf, d < n → x4 + pc9 S ≤ 9 → f_X0_playOne_L12 1000 size tr tl ta fi co n (nI S) (nI x4) (nI (fb_ct (vS S P b K La) (3 * P))) (nI pf) (lN s) = some (nI (x4 + t), nI (pf + (pc9 S - pc9 S')), lN s')) ∧
      (∀ n x8 kk, d < n → f_X8_games_L70 1000 (nI P) (nI b) laneOf kinds kk n (nI S) (nI x8) (nI s) = kk (nI S') (nI (x8 + t)) (nI s')) := by
  have hP := hG.1
  intro d
  induction d with
  | zero =>
    intro S s h1 h2 h3
    have hz : fb_ct (vS S P b K La) (3 * P) = 0 := by
      rcases Nat.eq_zero_or_pos (fb_ct (vS S P b K La) (3 * P)) with h | h
      · exact h
      · obtain ⟨i, -, hv⟩ := fb_ct_pos.mp h
        have := lf_pc hP hv
        omega
    refine ⟨S, 0, s, h2, h3, Nat.le_refl _, Nat.le_refl _, fun n x4 pf hn hx => ?_, fun n x8 kk hn => ?_⟩
    · obtain ⟨n, rfl⟩ : ∃ k, n = k + 1 := ⟨n - 1, by omega⟩
      rw [f_X0_playOne_L12, hz, if_pos (by decide), Nat.sub_self]
      rfl
    · obtain ⟨n, rfl⟩ : ∃ k, n = k + 1 := ⟨n - 1, by omega⟩
      rw [f_X8_games_L70, strikesOf_ok hG hb h2, ob1_s, hz, if_pos (by decide)]
      rfl
  | succ d ih =>
    intro S s h1 h2 h3
    rcases Nat.eq_zero_or_pos (fb_ct (vS S P b K La) (3 * P)) with hz | hz
    · refine ⟨S, 0, s, h2, h3, Nat.zero_le _, Nat.le_refl _, fun n x4 pf hn hx => ?_, fun n x8 kk hn => ?_⟩
      · obtain ⟨n, rfl⟩ : ∃ k, n = k + 1 := ⟨n - 1, by omega⟩
        rw [f_X0_playOne_L12, hz, if_pos (by decide), Nat.sub_self]
        rfl
      · obtain ⟨n, rfl⟩ : ∃ k, n = k + 1 := ⟨n - 1, by omega⟩
        rw [f_X8_games_L70, strikesOf_ok hG hb h2, ob1_s, hz, if_pos (by decide)]
        rfl
    · have hle := fb_ct_le (vS S P b K La) (3 * P)
      have hn3 := nx_lt s
      obtain ⟨i, i1, i2, i3⟩ := fb_ct_kth (Nat.mod_lt (nx s / 65536) hz)
      have hpc := lf_pc hP i2
      have hlt := lf_lt hP i2
      have hpl := pc_lf hP hmo i2
      obtain ⟨m1, m2, m3⟩ := canM_info i2 (by omega)
      obtain ⟨g1, g2, g3⟩ := fall_info (S := S) (K := K) (La := La) hP (show 1 ≤ i % 3 + 1 by omega) m1
      obtain ⟨S', t, s', r1, r2, r3, r4, r5, r6⟩ := ih (lf P K La S i) (nx s) (by omega) (by omega) hn3
      refine ⟨S', t + 1, s', r1, r2, by omega, by omega, fun n x4 pf hn hx => ?_, fun n x8 kk hn => ?_⟩
      · obtain ⟨n, rfl⟩ : ∃ k, n = k + 1 := ⟨n - 1, by omega⟩
        have go := r5 n (x4 + 1) (pf + pc9 (fall P K La S (i / 3) (i % 3 + 1))) (by omega) (by omega)
        rw [show pf + pc9 (fall P K La S (i / 3) (i % 3 + 1)) + (pc9 (lf P K La S i) - pc9 S') = pf + (pc9 S - pc9 S') by omega, show x4 + 1 + t = x4 + (t + 1) by omega] at go
        have el : nI S &&& (nI (fall P K La S (i / 3) (i % 3 + 1)) ^^^ (-1 : Int32)) = nI (lf P K La S i) := andn _ _
        rw [f_X0_playOne_L12, if_neg (nI_nle hz (by omega)), if_neg (show ¬ (9 : Int32) ≤ nI x4 from nI_ge (b := 9) (by omega) (by omega)), cDraw h3 hz (by omega), ob2_s, ← i3, byNo_ok hP hmo hb h2 hR i1 i2, ob1_s, bitCount_ok _ g1, ob1_s, el, howMany_ok hP hmo hR hb, ob1_s, nI_1, nI_add]
        exact go
      · obtain ⟨n, rfl⟩ : ∃ k, n = k + 1 := ⟨n - 1, by omega⟩
        have go := r6 n (x8 + 1) kk (by omega)
        rw [show x8 + 1 + t = x8 + (t + 1) by omega] at go
        rw [f_X8_games_L70, strikesOf_ok hG hb h2, ob1_s, if_neg (nI_nle hz (by omega)), ob1_s, mDraw h3 hz (by omega), ob2_s, ← i3, soMany_ok hG hb h2 i1 i2, ob1_s, nI_1]
        exact go
set_option maxRecDepth 100000 in
theorem won9 : ∀ t, t < 10 → ∀ law, law < 2 → (((1 : Int32) - (nI t &&& (1 : Int32))) = nI law ↔ (nI t - nI t / (2 : Int32) * (2 : Int32)) = ((1 : Int32) - nI law)) := by decide +kernel
theorem games_L {P b law S T : Nat} {K La : Nat → Nat} {kinds laneOf : Nat → Int32} {size tr tl : Int32} {fi co ta : Nat → Int32} (hG : GWf P K La kinds laneOf) (hmo : mono P La) (hb : b ≤ 3) (hlaw : law ≤ 1) (hS : S < 512) (hR : StrR P b K La size tr tl fi co ta) (hT : T ≤ 40) :
    ∀ (d n i won fell s : Nat), i + d = T → d < n → s < 2 ^ 31 → ∃ won' fell' s' : Nat, s' < 2 ^ 31 ∧
      f_X0_play_L19 1000 (nI T) size tr tl (nI law) (nI S) ta fi co n (nI i) (nI won) (nI fell) (lN s) = some (nI won', nI fell', lN s') ∧
      (∀ kk, f_X8_games_L55 1000 (nI T) (nI P) (nI S) (nI b) (nI law) laneOf kinds kk n (nI won) (nI fell) (nI i) (nI s) = kk (nI won') (nI fell') (nI s')) := by
  have hP := hG.1
  intro d
  induction d with
  | zero =>
    intro n i won fell s h1 h2 h3
    obtain ⟨n, rfl⟩ : ∃ k, n = k + 1 := ⟨n - 1, by omega⟩
    refine ⟨won, fell, s, h3, ?_, fun kk => ?_⟩
    · rw [f_X0_play_L19, if_pos (nI_le (by omega) (by omega))]
    · rw [f_X8_games_L55, if_pos (nI_le (by omega) (by omega))]
  | succ d ih =>
    intro n i won fell s h1 h2 h3
    obtain ⟨n, rfl⟩ : ∃ k, n = k + 1 := ⟨n - 1, by omega⟩
    have h9 := pc9_le S
    obtain ⟨S', t, s', r1, r2, r3, r4, r5, r6⟩ := one_game hG hmo hb hR 9 S s h9 hS h3
    have q5 : f_X0_playOne 1000 (nI fell) (lN s) size tr tl ta fi co (nI S) = some (nI t, nI (fell + (pc9 S - pc9 S')), lN s') := by
      have := r5 1000 0 fell (by omega) (by omega)
      rw [Nat.zero_add] at this
      unfold f_X0_playOne
      rw [howMany_ok hP hmo hR hb, ob1_s]
      exact this
    obtain ⟨won', fell', s2, u1, u2, u3⟩ := ih n (i + 1) (won + (if ((1 : Int32) - (nI t &&& (1 : Int32))) = nI law then 1 else 0)) (fell + (pc9 S - pc9 S')) s' (by omega) (by omega) r2
    refine ⟨won', fell', s2, u1, ?_, fun kk => ?_⟩
    · rw [f_X0_play_L19, if_neg (nI_ge (by omega) (by omega)), q5, ob3_s]
      simp only [jm_s]
      rw [nI_1, nI_1]
      by_cases c : ((1 : Int32) - (nI t &&& (1 : Int32))) = nI law
      · rw [if_pos c] at u2
        rw [if_pos c]
        exact u2
      · rw [if_neg c, Nat.add_zero] at u2
        rw [if_neg c]
        exact u2
    · have w9 := won9 t (by omega) law (by omega)
      have u3 := u3 kk
      rw [f_X8_games_L55, if_neg (nI_ge (by omega) (by omega))]
      refine Eq.trans (r6 1000 0 _ (by omega)) ?_
      rw [Nat.zero_add, ones_ok _ hS, ob1_s, ones_ok _ r1, ob1_s, pk_sub r4, nI_add, nI_1]
      simp only [jm_s]
      by_cases c : ((1 : Int32) - (nI t &&& (1 : Int32))) = nI law
      · rw [if_pos c] at u3
        rw [if_pos (w9.mp c), nI_1]
        exact u3
      · rw [if_neg c] at u3
        rw [if_neg (fun h => c (w9.mpr h)), show (0 : Int32) = nI 0 from rfl, nI_add]
        exact u3
theorem in140 (x : Int32) : f_X8_in 1000 x.toInt64 (1 : Int64) (40 : Int64) = some (if x < 1 ∨ 40 < x then 0 else 1) := in_lit 1000 x 1 40
theorem k_games {P b law S : Nat} {K La : Nat → Nat} {kinds laneOf : Nat → Int32} {size tr tl : Int32} {fi co ta : Nat → Int32} (hG : GWf P K La kinds laneOf) (hmo : mono P La) (hb : b ≤ 3) (hlaw : law ≤ 1) (hS : S < 512) (hR : StrR P b K La size tr tl fi co ta) (pw pf sn : Int32) (ps : Int64) (x1 x2 x3 : Int32) :
    ∃ (a0 a1 a2 : Int32) (a3 : Int64) (b1 : Int32), f_X7_games 1000 (nI P) (nI law) (nI S) pw pf ps size tr tl ta fi co x1 x2 x3 = some (a0, a1, a2, a3) ∧ f_X8_games 1000 (nI P) (nI S) (nI b) (nI law) sn laneOf kinds x1 x2 x3 = some (a0, b1) := by
  have hP := hG.1
  unfold f_X7_games f_X8_games
  rw [in140, ob1_s]
  by_cases c1 : x1 < 1
  · rw [if_pos c1, if_pos (Or.inl c1), if_pos rfl]
    exact ⟨_, _, _, _, _, rfl, rfl⟩
  by_cases c2 : 40 < x1
  · rw [if_neg c1, if_pos c2, if_pos (Or.inr c2), if_pos rfl]
    exact ⟨_, _, _, _, _, rfl, rfl⟩
  rw [if_neg c1, if_neg c2, if_neg (show ¬ (x1 < 1 ∨ 40 < x1) from fun g => g.elim c1 c2), if_neg n10]
  by_cases c3 : x2 < 0
  · rw [if_pos c3, if_pos c3]
    exact ⟨_, _, _, _, _, rfl, rfl⟩
  rw [if_neg c3, if_neg c3, in02, ob1_s]
  by_cases c4 : x3 < 0
  · rw [if_pos c4, if_pos (Or.inl c4), if_pos rfl]
    exact ⟨_, _, _, _, _, rfl, rfl⟩
  by_cases c5 : 2 < x3
  · rw [if_neg c4, if_neg (nle_of c5), if_pos (Or.inr c5), if_pos rfl]
    exact ⟨_, _, _, _, _, rfl, rfl⟩
  rw [if_neg c4, if_pos (fa_of_nlt c5), if_neg (show ¬ (x3 < 0 ∨ 2 < x3) from fun g => g.elim c4 c5), if_neg n10, hasGreen_ok hP, ob1_s, lacks_ok hP, ob1_s]
  by_cases e : P = 0
  · rw [if_pos e, if_pos rfl, if_pos e, if_neg n10]
    exact ⟨_, _, _, _, _, rfl, rfl⟩
  rw [if_neg e, if_neg n10, if_neg e, if_pos rfl]
  have c0 : ¬ x1 < 0 := fun g => c1 (fa_trans g (by decide))
  obtain ⟨T, hT, rfl⟩ := upto (x := x1) (M := 40) (n := 40) rfl (fun g => g.elim c0 c2)
  obtain ⟨s, hs, rfl⟩ := nI_of c3
  obtain ⟨won', fell', s', u1, u2, u3⟩ := games_L hG hmo hb hlaw hS hR hT T 1000 0 0 0 s (by omega) (by omega) hs
  have e7 : f_X0_play 1000 size tr tl (nI law) (nI S) ta fi co (nI T) (nI s) = some (nI won', nI fell', lN s') := by
    unfold f_X0_play
    rw [nI_l hs]
    exact u2
  rw [e7, ob3_s]
  by_cases d0 : x3 = 0
  · refine ⟨nI won', nI won', nI fell', lN s', nI s', by rw [if_pos d0], Eq.trans (u3 _) ?_⟩
    rw [if_pos d0]
  by_cases d1 : x3 = 1
  · refine ⟨nI fell', nI won', nI fell', lN s', nI s', by rw [if_neg d0, if_pos d1], Eq.trans (u3 _) ?_⟩
    rw [if_neg d0, if_pos d1]
  refine ⟨nI s', nI won', nI fell', lN s', nI s', by rw [if_neg d0, if_neg d1, lN_i], Eq.trans (u3 _) ?_⟩
  rw [if_neg d0, if_neg d1]
