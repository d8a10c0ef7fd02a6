/-! the class's tables -/
def Tabs (P b law : Nat) (K La : Nat → Nat) (B : Nat → Prop) (nu wi fe mo li : Nat → Int32) : Prop := ∀ s, B s → nu s = nI (spN P b K La s) ∧ wi s = nI (spW P b law K La s) ∧ fe s = nI (spF P b K La s) ∧ mo s = nI (spM P b K La s) ∧ li s = nI (spL P b law K La s)
set_option maxRecDepth 100000 in
theorem aN : ∀ k, k < 16 → (1 : Int64) <<< ((nI k).toInt64 &&& 63) = lN (2 ^ k) := by decide +kernel
theorem aW {w u : Nat} (hw : w ≤ 1) (hu : u ≤ 1) : nI w ||| ((1 : Int32) - nI u) = nI (if u = 0 then 1 else w) := by
  have h1 : w = 0 ∨ w = 1 := by omega
  have h2 : u = 0 ∨ u = 1 := by omega
  rcases h1 with rfl | rfl <;> rcases h2 with rfl | rfl <;> decide
theorem aF {x w : Nat} (hx : x + 1 ≤ 9) (hw : w ≤ 99) : (if (1 : Int32) + nI x < nI (min 9 w) then (1 : Int32) + nI x else nI (min 9 w)) = nI (min 9 (if x + 1 < w then x + 1 else w)) := by
  have e : (1 : Int32) + nI x = nI (x + 1) := by rw [show (1 : Int32) = nI 1 from rfl, nI_add, Nat.add_comm]
  rw [e]
  by_cases h : x + 1 < w
  · rw [if_pos h]
    by_cases h2 : x + 1 < min 9 w
    · rw [if_pos (nI_lt h2 (by omega)), Nat.min_eq_right (by omega)]
    · rw [if_neg (nI_nlt (by omega) (by omega))]
      congr 1
      omega
  · rw [if_neg h, if_neg (nI_nlt (by omega) (by omega))]
theorem aM {x w : Nat} (hx : x ≤ 9) (hw : w ≤ 9) : (if nI w < (1 : Int32) + nI x then (1 : Int32) + nI x else nI w) = nI (if w < x + 1 then x + 1 else w) := by
  have e : (1 : Int32) + nI x = nI (x + 1) := by rw [show (1 : Int32) = nI 1 from rfl, nI_add, Nat.add_comm]
  rw [e]
  by_cases h : w < x + 1
  · rw [if_pos h, if_pos (nI_lt h (by omega))]
  · rw [if_neg h, if_neg (nI_nlt (by omega) (by omega))]
theorem aL {x w : Nat} (hx : x ≤ 1000000) : nI w + ((1000000 : Int32) - nI x) = nI (w + (1000000 - x)) := by
  rw [show (1000000 : Int32) = nI 1000000 from fa_lit 1000000, pk_sub hx, nI_add]
theorem weigh_L {P b law S : Nat} {K La : Nat → Nat} {size tr tl : Int32} {fi co ta nu wi fe mo li : Nat → Int32} (hP : P ≤ 9) (hmo : mono P La) (hb : b ≤ 3) (hlaw : law ≤ 1) (hS : S < 512) (hR : StrR P b K La size tr tl fi co ta) (hT : Tabs P b law K La (fun s => s < S) nu wi fe mo li)
    (kk : Int32 → Int64 → Int32 → Int32 → Int32 → Int32 → Option ((Nat → Int32) × (Nat → Int32) × (Nat → Int32) × (Nat → Int32) × (Nat → Int32))) :
    ∀ (d n no : Nat), no + d = 3 * P → d < n → f_X2_weigh_L22 1000 (nI S) size tr tl ta fi co nu wi fe mo li kk n (nI (fb_ct (vS S P b K La) no)) (lN (fo (vS S P b K La) (gN P b K La S) no 0)) (nI (fo (vS S P b K La) (gW P b law K La S) no 0)) (nI (min 9 (fo (vS S P b K La) (gF P b K La S) no 99))) (nI (fo (vS S P b K La) (gM P b K La S) no 0)) (nI (fo (vS S P b K La) (gLk P b law K La S) no 0)) (nI (fb_ct (cand P b K La) no))
      = kk (nI (fb_ct (vS S P b K La) (3 * P))) (lN (fo (vS S P b K La) (gN P b K La S) (3 * P) 0)) (nI (fo (vS S P b K La) (gW P b law K La S) (3 * P) 0)) (nI (min 9 (fo (vS S P b K La) (gF P b K La S) (3 * P) 99))) (nI (fo (vS S P b K La) (gM P b K La S) (3 * P) 0)) (nI (fo (vS S P b K La) (gLk P b law K La S) (3 * P) 0)) := by
  have hs := hR.1.1
  have hk := fb_ct_le (cand P b K La) (3 * P)
  intro d
  induction d with
  | zero =>
    intro n no h1 h2
    obtain ⟨n, rfl⟩ : ∃ k, n = k + 1 := ⟨n - 1, by omega⟩
    obtain rfl : no = 3 * P := by omega
    rw [f_X2_weigh_L22, hs, if_pos (nI_le (Nat.le_refl _) (by omega))]
  | succ d ih =>
    intro n no h1 h2
    have hv0 : vS S P b K La no = (cand P b K La no && allI (fun p => S.testBit p) (no / 3) (no % 3 + 1)) := cand_canM hmo
    by_cases hc : cand P b K La no = true
    · obtain ⟨n, rfl⟩ : ∃ k, n = k + 1 := ⟨n - 1, by omega⟩
      have go := ih n (no + 1) (by omega) (by omega)
      have hi := cand_ix hc
      rw [hc, Bool.true_and] at hv0
      rw [f_X2_weigh_L22, fallen_ok hP hb hR hS hc, ob1_s, hs, if_neg (nI_ge hi (by omega)), ← hs]
      simp only [jm_s]
      rw [nI_1]
      rw [fb_ct_succ, fb_ct_succ, hc, if_pos rfl, fo, fo, fo, fo, fo] at go
      by_cases ha : allI (fun p => S.testBit p) (no / 3) (no % 3 + 1) = true
      · have hv : vS S P b K La no = true := hv0.trans ha
        obtain ⟨m1, m2, m3⟩ := canM_info hv (by omega)
        obtain ⟨g1, g2, g3⟩ := fall_info (S := S) (K := K) (La := La) hP (show 1 ≤ no % 3 + 1 by omega) m1
        have hlt := lf_lt hP hv
        have hpc := lf_pc hP hv
        have hp9 := pc9_le S
        obtain ⟨t1, t2, t3, t4, t5⟩ := hT _ hlt
        have b1 := spN_le (b := b) (K := K) (La := La) hP (lf P K La S no)
        have b2 := spW_le (b := b) (K := K) (La := La) hP hlaw (lf P K La S no)
        have b3 := spF_le (b := b) (K := K) (La := La) hP (lf P K La S no)
        have b4 := spM_le (b := b) (K := K) (La := La) hP (lf P K La S no)
        have b5 := spL_le (b := b) (K := K) (La := La) hP hlaw (lf P K La S no)
        have w2 := foW_le (P := P) (b := b) (law := law) (S := S) (n := no) (K := K) (La := La)
        have w3 := foF_le (P := P) (b := b) (S := S) (n := no) (K := K) (La := La) hP (fun s _ => spF_le hP s)
        have w4 := foM_le (P := P) (b := b) (S := S) (n := no) (K := K) (La := La) hP (fun s _ => spM_le hP s)
        have w3' : fo (vS S P b K La) (gF P b K La S) no 99 ≤ 99 := by rcases w3 with g | g <;> omega
        have el : nI S &&& (nI (fall P K La S (no / 3) (no % 3 + 1)) ^^^ (-1 : Int32)) = nI (lf P K La S no) := andn _ _
        have i5 : lf P K La S no < 512 := by omega
        have hz : ¬ nI (fall P K La S (no / 3) (no % 3 + 1)) = (0 : Int32) := fun h => g3 ((nI_eq (b := 0) (by omega) (by omega)).mp h)
        rw [if_pos ha, if_neg hz, el, gd_i i5 (by omega), gd_i i5 (by omega), gd_i i5 (by omega), gd_i i5 (by omega), gd_i i5 (by omega), nI_clamp (by omega), t1, t2, t3, t4, t5, nI_1, aN _ (by omega), fb_orL, aW w2 b2, aF (by omega) w3', aM (by omega) (by omega), aL b5]
        rw [hv, if_pos rfl, if_pos rfl, if_pos rfl, if_pos rfl, if_pos rfl, if_pos rfl] at go
        exact go
      · have hv : ¬ vS S P b K La no = true := by rw [hv0]; exact ha
        rw [if_neg ha, if_pos (show nI 0 = (0 : Int32) from rfl)]
        rw [if_neg hv, if_neg hv, if_neg hv, if_neg hv, if_neg hv, if_neg hv, Nat.add_zero] at go
        exact go
    · have go := ih n (no + 1) (by omega) (by omega)
      rw [Bool.not_eq_true] at hc
      rw [hc, Bool.false_and] at hv0
      have hv : ¬ vS S P b K La no = true := by rw [hv0]; decide
      have hc2 : ¬ cand P b K La no = true := by rw [hc]; decide
      rw [fb_ct_succ, fb_ct_succ, fo, fo, fo, fo, fo, if_neg hv, if_neg hv, if_neg hv, if_neg hv, if_neg hv, if_neg hv, if_neg hc2, Nat.add_zero, Nat.add_zero] at go
      exact go
theorem weigh_ok {P b law S : Nat} {K La : Nat → Nat} {size tr tl : Int32} {fi co ta nu wi fe mo li : Nat → Int32} (hP : P ≤ 9) (hmo : mono P La) (hb : b ≤ 3) (hlaw : law ≤ 1) (hS : S < 512) (hR : StrR P b K La size tr tl fi co ta) (hT : Tabs P b law K La (fun s => s < S) nu wi fe mo li) :
    f_X2_weigh 1000 size tr tl ta fi co nu wi fe mo li (nI S) (nI law) = some (upd nu S (nI (spN P b K La S)), upd wi S (nI (spW P b law K La S)), upd fe S (nI (spF P b K La S)), upd mo S (nI (spM P b K La S)), upd li S (nI (spL P b law K La S))) := by
  have h := weigh_L hP hmo hb hlaw hS hR hT (fun a14 a15 a16 a17 a18 a19 => ob1 (f_X7_leastNotIn 1000 a15) (fun a20 => gd (inb (nI S) 512) <| jm (fun (a22 : Int32) => gd (inb (nI S) 512) <| jm (fun (a25 : Int32) => gd (inb (nI S) 512) <| gd (inb (nI S) 512) <| jm (fun (a29 : Int32) => gd (inb (nI S) 512) <| some (upd nu (nI S).toNatClampNeg a20, upd wi (nI S).toNatClampNeg a22, upd fe (nI S).toNatClampNeg a25, upd mo (nI S).toNatClampNeg a18, upd li (nI S).toNatClampNeg a29)) (fun j30 => if a14 = (0 : Int32) then (j30 (nI law * (1000000 : Int32))) else (gd (!decide (a14 = 0)) <| j30 (a19 / a14)))) (fun j26 => if a14 = (0 : Int32) then (j26 (0 : Int32)) else (j26 a17))) (fun j23 => if a14 = (0 : Int32) then (j23 (nI law)) else (j23 a16)))) (3 * P) 1000 0 (by omega) (by omega)
  unfold f_X2_weigh
  refine Eq.trans h ?_
  clear h
  simp only [jm_s]
  rw [least7_ok _ (mask_lt' hP), ob1_s, gd_i hS (by omega), nI_clamp (by omega)]
  have hc := fb_ct_le (vS S P b K La) (3 * P)
  have hL := foL_le (P := P) (b := b) (law := law) (S := S) (n := 3 * P) (K := K) (La := La)
  have eN := spN_eq (b := b) (S := S) (K := K) (La := La) hP
  have eW := spW_eq (b := b) (law := law) (S := S) (K := K) (La := La) hP
  have eF := spF_eq (b := b) (S := S) (K := K) (La := La) hP
  have eM := spM_eq (b := b) (S := S) (K := K) (La := La) hP
  have eL := spL_eq (b := b) (law := law) (S := S) (K := K) (La := La) hP
  have w3 := foF_le (P := P) (b := b) (S := S) (n := 3 * P) (K := K) (La := La) hP (fun s _ => spF_le hP s)
  have hp9 := pc9_le S
  rw [eN, eM]
  by_cases h0 : fb_ct (vS S P b K La) (3 * P) = 0
  · rw [if_pos h0] at eW eF eL
    rw [eW, eF, eL, h0]
    rw [if_pos (show nI 0 = (0 : Int32) from rfl), if_pos (show nI 0 = (0 : Int32) from rfl), if_pos (show nI 0 = (0 : Int32) from rfl), gd_i hS (by omega), gd_i hS (by omega), gd_i hS (by omega), gd_i hS (by omega), show (1000000 : Int32) = nI 1000000 from fa_lit 1000000, pk_mul]
    rfl
  · rw [if_neg h0] at eW eF eL
    have hz : ¬ nI (fb_ct (vS S P b K La) (3 * P)) = (0 : Int32) := fun h => h0 ((nI_eq (b := 0) (by omega) (by omega)).mp h)
    rw [eW, eF, eL, if_neg hz, if_neg hz, if_neg hz, gd_i hS (by omega), gd_i hS (by omega), gd_i hS (by omega), gd_t (by simpa using hz), gd_i hS (by omega), pk_div (by omega) (by omega) (by omega), Nat.min_eq_right (by rcases w3 with g | g <;> omega)]
theorem Tabs.put {P b law S : Nat} {K La : Nat → Nat} {nu wi fe mo li : Nat → Int32} {B : Nat → Prop} (h : Tabs P b law K La B nu wi fe mo li) : Tabs P b law K La (fun s => B s ∨ s = S) (upd nu S (nI (spN P b K La S))) (upd wi S (nI (spW P b law K La S))) (upd fe S (nI (spF P b K La S))) (upd mo S (nI (spM P b K La S))) (upd li S (nI (spL P b law K La S))) := by
  intro s hs
  by_cases e : s = S
  · subst e
    exact ⟨pk_us, pk_us, pk_us, pk_us, pk_us⟩
  · rw [pk_un e, pk_un e, pk_un e, pk_un e, pk_un e]
    exact h s (hs.resolve_right e)
theorem fill_L {P b law : Nat} {K La : Nat → Nat} {size tr tl : Int32} {fi co ta : Nat → Int32} (hP : P ≤ 9) (hmo : mono P La) (hb : b ≤ 3) (hlaw : law ≤ 1) (hR : StrR P b K La size tr tl fi co ta) :
    ∀ (d n s : Nat) (nu wi fe mo li : Nat → Int32), s + d = 2 ^ P → d < n → Tabs P b law K La (fun t => t < s) nu wi fe mo li → ∃ nu' wi' fe' mo' li' : Nat → Int32, Tabs P b law K La (fun t => t < 2 ^ P) nu' wi' fe' mo' li' ∧ f_X2_fill_L14 1000 (nI law) (nI (2 ^ P)) size tr tl ta fi co n (nI s) nu wi fe mo li = some (nu', wi', fe', mo', li') := by
  have h512 : 2 ^ P ≤ 512 := Nat.pow_le_pow_right (n := 2) (by omega) (show P ≤ 9 from hP)
  intro d
  induction d with
  | zero =>
    intro n s nu wi fe mo li h1 h2 h3
    obtain ⟨n, rfl⟩ : ∃ k, n = k + 1 := ⟨n - 1, by omega⟩
    refine ⟨nu, wi, fe, mo, li, by rw [show 2 ^ P = s by omega]; exact h3, ?_⟩
    rw [f_X2_fill_L14, if_pos (nI_le (by omega) (by omega))]
  | succ d ih =>
    intro n s nu wi fe mo li h1 h2 h3
    obtain ⟨n, rfl⟩ : ∃ k, n = k + 1 := ⟨n - 1, by omega⟩
    rw [f_X2_fill_L14, if_neg (nI_ge (by omega) (by omega)), weigh_ok hP hmo hb hlaw (by omega) hR h3, ob5_s, nI_1]
    refine ih n (s + 1) _ _ _ _ _ (by omega) (by omega) (fun t ht => h3.put (S := s) t ?_)
    show t < s ∨ t = s
    omega
theorem fill_ok {P b law : Nat} {K La : Nat → Nat} {size tr tl : Int32} {fi co ta : Nat → Int32} (hP : P ≤ 9) (hmo : mono P La) (hb : b ≤ 3) (hlaw : law ≤ 1) (hR : StrR P b K La size tr tl fi co ta) (nu wi fe mo li : Nat → Int32) : ∃ nu' wi' fe' mo' li' : Nat → Int32, Tabs P b law K La (fun t => t < 2 ^ P) nu' wi' fe' mo' li' ∧ f_X2_fill 1000 size tr tl ta fi co nu wi fe mo li (nI P) (nI law) = some (nu', wi', fe', mo', li') := by
  have h512 : 2 ^ P ≤ 512 := Nat.pow_le_pow_right (n := 2) (by omega) (show P ≤ 9 from hP)
  unfold f_X2_fill
  rw [sh1 P (by omega), if_neg (show ¬ (512 : Int32) < nI (2 ^ P) from nI_nlt (a := 512) h512 (by omega))]
  exact fill_L hP hmo hb hlaw hR (2 ^ P) 1000 0 nu wi fe mo li (by omega) (by omega) (fun t h => absurd h (Nat.not_lt_zero t))
