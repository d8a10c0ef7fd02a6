/-! layAll, pinsOf, numberOf -/
def sb (s S : Nat) : Prop := ∀ i, s.testBit i = true → S.testBit i = true
theorem dif_z {s S : Nat} : dif s S = 0 ↔ sb s S := by
  constructor
  · intro h i hi
    have := dif_bit s S i
    rw [h, Nat.zero_testBit, hi] at this
    simpa using this.symm
  · intro h
    apply Nat.eq_of_testBit_eq
    intro i
    rw [dif_bit, Nat.zero_testBit]
    cases hs : s.testBit i with
    | false => rfl
    | true => rw [h i hs]; rfl
theorem sb_le {s S : Nat} (h : sb s S) : s ≤ S := by
  have e : s = S &&& s := by
    apply Nat.eq_of_testBit_eq
    intro i
    rw [Nat.testBit_and]
    cases hs : s.testBit i with
    | false => rw [Bool.and_false]
    | true => rw [h i hs]; rfl
  rw [e]
  exact Nat.and_le_left
theorem sb_lf {s S P no : Nat} {K La : Nat → Nat} (h : sb s S) : sb (lf P K La s no) S := fun i hi => h i (lf_sub hi)
def Tab4 (P b law : Nat) (K La : Nat → Nat) (B : Nat → Prop) (wi sh lo ch : Nat → Int32) : Prop := ∀ s, B s → wi s = nI (spW P b law K La s) ∧ sh s = nI (spF P b K La s) ∧ lo s = nI (spM P b K La s) ∧ ch s = nI (spL P b law K La s)
theorem layAll_L {P b law S : Nat} {K La : Nat → Nat} {kinds laneOf : Nat → Int32} (hG : GWf P K La kinds laneOf) (hb : b ≤ 3) (hlaw : law ≤ 1) (hS : S < 512) :
    ∀ (d n s : Nat) (wi sh lo ch : Nat → Int32), s + d = S + 1 → d < n → Tab4 P b law K La (fun t => t < s ∧ sb t S) wi sh lo ch → ∃ wi' sh' lo' ch' : Nat → Int32, Tab4 P b law K La (fun t => sb t S) wi' sh' lo' ch' ∧ f_X8_layAll_L2 1000 (nI P) (nI S) (nI b) (nI law) laneOf kinds n (nI s) wi sh lo ch = some (wi', sh', lo', ch') := by
  have hP := hG.1
  intro d
  induction d with
  | zero =>
    intro n s wi sh lo ch h1 h2 h3
    obtain ⟨n, rfl⟩ : ∃ k, n = k + 1 := ⟨n - 1, by omega⟩
    refine ⟨wi, sh, lo, ch, fun t ht => h3 t ⟨by have := sb_le ht; omega, ht⟩, ?_⟩
    rw [f_X8_layAll_L2, if_pos (nI_lt (by omega) (by omega))]
  | succ d ih =>
    intro n s wi sh lo ch h1 h2 h3
    obtain ⟨n, rfl⟩ : ∃ k, n = k + 1 := ⟨n - 1, by omega⟩
    rw [f_X8_layAll_L2, if_neg (nI_nlt (by omega) (by omega)), andn, nI_1]
    simp only [jm_s]
    have hd := dif_lt (S := s) (F := S) (by omega)
    by_cases hs : sb s S
    · rw [if_pos (show nI (dif s S) = (0 : Int32) by rw [dif_z.mpr hs]; rfl)]
      obtain ⟨w1, s1, l1, c1, o1, o2, o3, o4, o5, o6⟩ := layOne_ok (wi := wi) (sh := sh) (lo := lo) (ch := ch) hG hb hlaw (show s < 512 by omega) (fun no hv => h3 _ ⟨lf_lt hP hv, sb_lf hs⟩)
      rw [o6, ob4_s]
      refine ih n (s + 1) w1 s1 l1 c1 (by omega) (by omega) (fun t ht => ?_)
      by_cases e : t = s
      · subst e
        exact ⟨o2, o3, o4, o5⟩
      · obtain ⟨x1, x2, x3, x4⟩ := o1 t e
        rw [x1, x2, x3, x4]
        exact h3 t ⟨by omega, ht.2⟩
    · rw [if_neg (nI_ne0 (Nat.pos_of_ne_zero (fun h => hs (dif_z.mp h))) (by omega))]
      refine ih n (s + 1) wi sh lo ch (by omega) (by omega) (fun t ht => h3 t ⟨?_, ht.2⟩)
      rcases Nat.eq_or_lt_of_le (Nat.le_of_lt_succ ht.1) with e | e
      · subst e; exact absurd ht.2 hs
      · exact e
theorem layAll_ok {P b law S : Nat} {K La : Nat → Nat} {kinds laneOf : Nat → Int32} (hG : GWf P K La kinds laneOf) (hb : b ≤ 3) (hlaw : law ≤ 1) (hS : S < 512) (wi sh lo ch : Nat → Int32) : ∃ wi' sh' lo' ch' : Nat → Int32, Tab4 P b law K La (fun t => sb t S) wi' sh' lo' ch' ∧ f_X8_layAll 1000 (nI P) (nI S) (nI b) (nI law) wi sh lo laneOf kinds ch = some (wi', sh', lo', ch') :=
  layAll_L hG hb hlaw hS (S + 1) 1000 0 wi sh lo ch (by omega) (by omega) (fun t h => absurd h.1 (Nat.not_lt_zero t))
/-- the pins of a lane, as bits -/
def lnM (P : Nat) (La : Nat → Nat) (l : Nat) : Nat := trB (fun i => decide (La i = l)) P
theorem pinsOf_ok {P l : Nat} {K La : Nat → Nat} {kinds laneOf : Nat → Int32} (hG : GWf P K La kinds laneOf) (hl : l < 3) : f_X8_pinsOf 1000 (nI P) laneOf (nI l) = some (nI (lnM P La l)) := by
  have hP := hG.1
  have key : ∀ (d n p : Nat), p + d = P → d < n → f_X8_pinsOf_L4 1000 (nI l) (nI P) laneOf n (nI (trB (fun i => decide (La i = l)) p)) (nI p) = some (nI (lnM P La l)) := by
    intro d
    induction d with
    | zero =>
      intro n p h1 h2
      obtain ⟨n, rfl⟩ : ∃ k, n = k + 1 := ⟨n - 1, by omega⟩
      obtain rfl : p = P := by omega
      rw [f_X8_pinsOf_L4, if_pos (nI_le (Nat.le_refl _) (by omega))]; rfl
    | succ d ih =>
      intro n p h1 h2
      obtain ⟨n, rfl⟩ : ∃ k, n = k + 1 := ⟨n - 1, by omega⟩
      obtain ⟨-, -, k3, k4⟩ := hG.2 p (by omega)
      have go := ih n (p + 1) (by omega) (by omega)
      rw [trB] at go
      rw [f_X8_pinsOf_L4, if_neg (nI_ge (by omega) (by omega)), gd_i (show p < 9 by omega) (by omega), nI_clamp (show p < 2 ^ 31 by omega), k3, nI_1, sh1 p (by omega)]
      simp only [jm_s]
      have z : ∀ x : Nat, nI x ||| (0 : Int32) = nI (x ||| 0) := fun x => fa_or x 0
      by_cases h : La p = l
      · rw [if_pos (by rw [h]), fa_or]
        rw [if_pos (decide_eq_true h)] at go
        exact go
      · rw [if_neg (fun e => h ((nI_eq (by omega) (by omega)).mp e)), z]
        rw [if_neg (by simpa using h)] at go
        exact go
  exact key P 1000 0 (by omega) (by omega)
theorem numberOf_in {P b s : Nat} {K La : Nat → Nat} {kinds laneOf nu : Nat → Int32} (hG : GWf P K La kinds laneOf) (hb : b ≤ 3) (hs : s < 512) (hT : ∀ no, vS s P b K La no = true → nu (lf P K La s no) = nI (spN P b K La (lf P K La s no))) (kk : Int64 → Option (Int32 × (Nat → Int32))) :
    ∀ (d n no : Nat), no + d = 3 * P → d < n → f_X8_numberOf_L29 1000 (nI s) (nI P) (nI b) laneOf kinds nu kk n (lN (fo (vS s P b K La) (gN P b K La s) no 0)) (nI no) = kk (lN (fo (vS s P b K La) (gN P b K La s) (3 * P) 0)) := by
  have hP := hG.1
  intro d
  induction d with
  | zero =>
    intro n no h1 h2
    obtain ⟨n, rfl⟩ : ∃ k, n = k + 1 := ⟨n - 1, by omega⟩
    obtain rfl : no = 3 * P := by omega
    rw [f_X8_numberOf_L29, mul3, if_pos (nI_le (Nat.le_refl _) (by omega))]
  | succ d ih =>
    intro n no h1 h2
    obtain ⟨n, rfl⟩ : ∃ k, n = k + 1 := ⟨n - 1, by omega⟩
    have go := ih n (no + 1) (by omega) (by omega)
    rw [fo] at go
    rw [f_X8_numberOf_L29, mul3, if_neg (nI_ge (by omega) (by omega)), leftBy_ok hG hs hb (by omega), ob1_s, nI_1]
    simp only [jm_s]
    by_cases hv : vS s P b K La no = true
    · have hv1 : canM s P b K La (no / 3) (no % 3 + 1) = true := hv
      have hlt := lf_lt hP hv
      have hpc := lf_pc hP hv
      have hp9 := pc9_le s
      have b1 := spN_le (b := b) (K := K) (La := La) hP (lf P K La s no)
      have el : nI (dif s (fall P K La s (no / 3) (no % 3 + 1))) = nI (lf P K La s no) := rfl
      rw [if_pos hv1, el, if_neg (nI_m1 (show lf P K La s no < 2 ^ 31 by omega)), gd_i (show lf P K La s no < 512 by omega) (by omega), nI_clamp (show lf P K La s no < 2 ^ 31 by omega), hT no hv, aN _ (by omega), fb_orL]
      rw [if_pos hv] at go
      exact go
    · have hv1 : ¬ canM s P b K La (no / 3) (no % 3 + 1) = true := hv
      rw [if_neg hv1, if_pos rfl, show lN (fo (vS s P b K La) (gN P b K La s) no 0) ||| (0 : Int64) = lN (fo (vS s P b K La) (gN P b K La s) no 0 ||| 0) from fb_orL _ 0, Nat.or_zero]
      rw [if_neg hv] at go
      exact go
theorem numberOf_L {P b S M : Nat} {K La : Nat → Nat} {kinds laneOf : Nat → Int32} (hG : GWf P K La kinds laneOf) (hb : b ≤ 3) (hS : S < 512) (hM : M < 512) :
    ∀ (d n s : Nat) (nu : Nat → Int32), s + d = 512 → d < n → (∀ t, t < s → sb t M → nu t = nI (spN P b K La t)) → ∃ nu' : Nat → Int32, f_X8_numberOf_L8 1000 (nI M) (nI P) (nI S) (nI b) laneOf kinds n (nI s) nu = some (nI (spN P b K La (S &&& M)), nu') := by
  have hP := hG.1
  intro d
  induction d with
  | zero =>
    intro n s nu h1 h2 h3
    obtain ⟨n, rfl⟩ : ∃ k, n = k + 1 := ⟨n - 1, by omega⟩
    have hlt : S &&& M < 512 := Nat.lt_of_le_of_lt Nat.and_le_left hS
    refine ⟨nu, ?_⟩
    rw [f_X8_numberOf_L8, if_pos (show (512 : Int32) ≤ nI s from nI_le (a := 512) (by omega) (by omega)), fa_and, gd_i hlt (by omega), nI_clamp (by omega), h3 (S &&& M) (by omega) (fun i hi => by rw [Nat.testBit_and, Bool.and_eq_true] at hi; exact hi.2)]
  | succ d ih =>
    intro n s nu h1 h2 h3
    obtain ⟨n, rfl⟩ : ∃ k, n = k + 1 := ⟨n - 1, by omega⟩
    rw [f_X8_numberOf_L8, if_neg (show ¬ (512 : Int32) ≤ nI s from nI_ge (b := 512) (by omega) (by omega)), andn, nI_1]
    simp only [jm_s]
    have hd := dif_lt (S := s) (F := M) (by omega)
    by_cases hs : sb s M
    · rw [if_pos (show nI (dif s M) = (0 : Int32) by rw [dif_z.mpr hs]; rfl)]
      have := numberOf_in (nu := nu) hG hb (show s < 512 by omega) (fun no hv => h3 _ (lf_lt hP hv) (sb_lf hs)) (fun a9 => ob1 (f_X8_leastNot 1000 a9) (fun a10 => gd (inb (nI s) 512) <| f_X8_numberOf_L8 1000 (nI M) (nI P) (nI S) (nI b) laneOf kinds n (nI (s + 1)) (upd nu (nI s).toNatClampNeg a10))) (3 * P) 1000 0 (by omega) (by omega)
      rw [show (0 : Int64) = lN (fo (vS s P b K La) (gN P b K La s) 0 0) from rfl, show (0 : Int32) = nI 0 from rfl, this, least8_ok _ (mask_lt' hP), ob1_s, gd_i (show s < 512 by omega) (by omega), nI_clamp (show s < 2 ^ 31 by omega), ← spN_eq hP]
      refine ih n (s + 1) _ (by omega) (by omega) (fun t h1 h2 => ?_)
      by_cases e : t = s
      · subst e; exact pk_us
      · rw [pk_un e]; exact h3 t (by omega) h2
    · rw [if_neg (nI_ne0 (Nat.pos_of_ne_zero (fun h => hs (dif_z.mp h))) (by omega))]
      refine ih n (s + 1) nu (by omega) (by omega) (fun t h1 h2 => h3 t ?_ h2)
      rcases Nat.eq_or_lt_of_le (Nat.le_of_lt_succ h1) with e | e
      · subst e; exact absurd h2 hs
      · exact e
theorem lnM_lt {P l : Nat} {La : Nat → Nat} (hP : P ≤ 9) : lnM P La l < 512 := trB_lt _ hP
theorem numberOf_ok {P b S l : Nat} {K La : Nat → Nat} {kinds laneOf : Nat → Int32} (hG : GWf P K La kinds laneOf) (hb : b ≤ 3) (hS : S < 512) (hl : l < 3) (nu : Nat → Int32) : ∃ nu' : Nat → Int32, f_X8_numberOf 1000 (nI P) (nI S) (nI b) laneOf kinds nu (nI l) = some (nI (spN P b K La (S &&& lnM P La l)), nu') := by
  unfold f_X8_numberOf
  rw [pinsOf_ok hG hl, ob1_s]
  exact numberOf_L hG hb hS (lnM_lt hG.1) 512 1000 0 nu (by omega) (by omega) (fun t h => absurd h (Nat.not_lt_zero t))
