/-! the reference's tables -/
theorem aL64 {x w : Nat} (hx : x ≤ 1000000) : lN w + ((1000000 : Int32) - nI x).toInt64 = lN (w + (1000000 - x)) := by
  rw [show (1000000 : Int32) = nI 1000000 from fa_lit 1000000, pk_sub hx, nI_l (by omega), lN_add]
theorem gF_alt {P b S no w : Nat} {K La : Nat → Nat} : gF P b K La S no w = if w ≤ spF P b K La (lf P K La S no) + 1 then w else spF P b K La (lf P K La S no) + 1 := by
  unfold gF
  by_cases h : w ≤ spF P b K La (lf P K La S no) + 1
  · rw [if_pos h, if_neg (by omega)]
  · rw [if_neg h, if_pos (by omega)]
theorem gM_alt {P b S no w : Nat} {K La : Nat → Nat} : gM P b K La S no w = if spM P b K La (lf P K La S no) + 1 ≤ w then w else spM P b K La (lf P K La S no) + 1 := by
  unfold gM
  by_cases h : spM P b K La (lf P K La S no) + 1 ≤ w
  · rw [if_pos h, if_neg (by omega)]
  · rw [if_neg h, if_pos (by omega)]
theorem layOne_L {P b law S : Nat} {K La : Nat → Nat} {kinds laneOf wi0 sh0 lo0 ch : Nat → Int32} (hG : GWf P K La kinds laneOf) (hb : b ≤ 3) (hlaw : law ≤ 1) (hS : S < 512)
    (hT : ∀ no, vS S P b K La no = true → wi0 (lf P K La S no) = nI (spW P b law K La (lf P K La S no)) ∧ sh0 (lf P K La S no) = nI (spF P b K La (lf P K La S no)) ∧ lo0 (lf P K La S no) = nI (spM P b K La (lf P K La S no)) ∧ ch (lf P K La S no) = nI (spL P b law K La (lf P K La S no)))
    (kk : Int32 → Int64 → (Nat → Int32) → (Nat → Int32) → (Nat → Int32) → Option ((Nat → Int32) × (Nat → Int32) × (Nat → Int32) × (Nat → Int32))) :
    ∀ (d n no : Nat) (wi sh lo : Nat → Int32), no + d = 3 * P → d < n → (∀ t, t ≠ S → wi t = wi0 t ∧ sh t = sh0 t ∧ lo t = lo0 t) → wi S = nI (fo (vS S P b K La) (gW P b law K La S) no 0) → sh S = nI (fo (vS S P b K La) (gF P b K La S) no 99) → lo S = nI (fo (vS S P b K La) (gM P b K La S) no 0) →
      ∃ wi' sh' lo' : Nat → Int32, (∀ t, t ≠ S → wi' t = wi0 t ∧ sh' t = sh0 t ∧ lo' t = lo0 t) ∧ wi' S = nI (fo (vS S P b K La) (gW P b law K La S) (3 * P) 0) ∧ sh' S = nI (fo (vS S P b K La) (gF P b K La S) (3 * P) 99) ∧ lo' S = nI (fo (vS S P b K La) (gM P b K La S) (3 * P) 0) ∧
        f_X8_layOne_L29 1000 (nI S) (nI P) (nI b) laneOf kinds ch kk n (nI (fb_ct (vS S P b K La) no)) (lN (fo (vS S P b K La) (gLk P b law K La S) no 0)) (nI no) wi sh lo = kk (nI (fb_ct (vS S P b K La) (3 * P))) (lN (fo (vS S P b K La) (gLk P b law K La S) (3 * P) 0)) wi' sh' lo' := by
  have hP := hG.1
  intro d
  induction d with
  | zero =>
    intro n no wi sh lo h1 h2 o1 o2 o3 o4
    obtain ⟨n, rfl⟩ : ∃ k, n = k + 1 := ⟨n - 1, by omega⟩
    obtain rfl : no = 3 * P := by omega
    refine ⟨wi, sh, lo, o1, o2, o3, o4, ?_⟩
    rw [f_X8_layOne_L29, mul3, if_pos (nI_le (Nat.le_refl _) (by omega))]
  | succ d ih =>
    intro n no wi sh lo h1 h2 o1 o2 o3 o4
    obtain ⟨n, rfl⟩ : ∃ k, n = k + 1 := ⟨n - 1, by omega⟩
    rw [f_X8_layOne_L29, mul3, if_neg (nI_ge (by omega) (by omega)), leftBy_ok hG hS hb (by omega), ob1_s]
    simp only [jm_s]
    rw [nI_1]
    by_cases hv : vS S P b K La no = true
    · have hv1 : canM S P b K La (no / 3) (no % 3 + 1) = true := hv
      have hlt := lf_lt hP hv
      have hpc := lf_pc hP hv
      have hp9 := pc9_le S
      have i5 : lf P K La S no < 512 := by omega
      obtain ⟨t1, t2, t3, t4⟩ := hT no hv
      obtain ⟨q1, q2, q3⟩ := o1 _ (show lf P K La S no ≠ S by omega)
      have b2 := spW_le (b := b) (K := K) (La := La) hP hlaw (lf P K La S no)
      have b3 := spF_le (b := b) (K := K) (La := La) hP (lf P K La S no)
      have b4 := spM_le (b := b) (K := K) (La := La) hP (lf P K La S no)
      have b5 := spL_le (b := b) (K := K) (La := La) hP hlaw (lf P K La S no)
      have w3 := foF_le (P := P) (b := b) (S := S) (n := no) (K := K) (La := La) hP (fun s _ => spF_le hP s)
      have w4 := foM_le (P := P) (b := b) (S := S) (n := no) (K := K) (La := La) hP (fun s _ => spM_le hP s)
      have w3' : fo (vS S P b K La) (gF P b K La S) no 99 ≤ 99 := by rcases w3 with g | g <;> omega
      have el : nI (dif S (fall P K La S (no / 3) (no % 3 + 1))) = nI (lf P K La S no) := rfl
      rw [if_pos hv1, el, if_neg (nI_m1 (show lf P K La S no < 2 ^ 31 by omega))]
      simp only [gd_i i5 (show 512 < 2 ^ 31 by omega), gd_i hS (show 512 < 2 ^ 31 by omega), nI_clamp (show lf P K La S no < 2 ^ 31 by omega), nI_clamp (show S < 2 ^ 31 by omega)]
      rw [q1, q2, q3, t1, t2, t3, t4, o2, o3, o4, nI_1, nI_1, nI_1, aL64 b5]
      have e1 : (nI (spW P b law K La (lf P K La S no)) = 0) ↔ spW P b law K La (lf P K La S no) = 0 := nI_eq (b := 0) (by omega) (by omega)
      have e2 : (nI (fo (vS S P b K La) (gF P b K La S) no 99) ≤ nI (spF P b K La (lf P K La S no) + 1)) ↔ fo (vS S P b K La) (gF P b K La S) no 99 ≤ spF P b K La (lf P K La S no) + 1 := nI_leI (by omega) (by omega)
      have e3 : (nI (spM P b K La (lf P K La S no) + 1) ≤ nI (fo (vS S P b K La) (gM P b K La S) no 0)) ↔ spM P b K La (lf P K La S no) + 1 ≤ fo (vS S P b K La) (gM P b K La S) no 0 := nI_leI (by omega) (by omega)
      simp only [e1, e2, e3]
      have x1 : fo (vS S P b K La) (gW P b law K La S) (no + 1) 0 = if spW P b law K La (lf P K La S no) = 0 then 1 else fo (vS S P b K La) (gW P b law K La S) no 0 := by rw [fo, if_pos hv]; rfl
      have x2 : fo (vS S P b K La) (gF P b K La S) (no + 1) 99 = if fo (vS S P b K La) (gF P b K La S) no 99 ≤ spF P b K La (lf P K La S no) + 1 then fo (vS S P b K La) (gF P b K La S) no 99 else spF P b K La (lf P K La S no) + 1 := by
        rw [fo, if_pos hv, gF_alt]
      have x3 : fo (vS S P b K La) (gM P b K La S) (no + 1) 0 = if spM P b K La (lf P K La S no) + 1 ≤ fo (vS S P b K La) (gM P b K La S) no 0 then fo (vS S P b K La) (gM P b K La S) no 0 else spM P b K La (lf P K La S no) + 1 := by
        rw [fo, if_pos hv, gM_alt]
      have x4 : fo (vS S P b K La) (gLk P b law K La S) (no + 1) 0 = fo (vS S P b K La) (gLk P b law K La S) no 0 + (1000000 - spL P b law K La (lf P K La S no)) := by rw [fo, if_pos hv]; rfl
      have x5 : fb_ct (vS S P b K La) (no + 1) = fb_ct (vS S P b K La) no + 1 := by rw [fb_ct_succ, hv]; rfl
      have key := fun A B C : Nat → Int32 => ih n (no + 1) A B C (by omega) (by omega)
      rw [x1, x2, x3, x4, x5] at key
      have off : ∀ (a b c : Int32) (t : Nat), t ≠ S → upd wi S a t = wi0 t ∧ upd sh S b t = sh0 t ∧ upd lo S c t = lo0 t := fun a b c t ht => by rw [pk_un ht, pk_un ht, pk_un ht]; exact o1 t ht
      by_cases c1 : spW P b law K La (lf P K La S no) = 0 <;> by_cases c2 : fo (vS S P b K La) (gF P b K La S) no 99 ≤ spF P b K La (lf P K La S no) + 1 <;> by_cases c3 : spM P b K La (lf P K La S no) + 1 ≤ fo (vS S P b K La) (gM P b K La S) no 0 <;> simp only [c1, c2, c3, if_true, if_false] at key ⊢ <;> exact key _ _ _ (off _ _ _) pk_us pk_us pk_us
    · have hv1 : ¬ canM S P b K La (no / 3) (no % 3 + 1) = true := hv
      rw [if_neg hv1, if_pos rfl]
      have key := ih n (no + 1) wi sh lo (by omega) (by omega)
      rw [fb_ct_succ, fo, fo, fo, fo, if_neg hv, if_neg hv, if_neg hv, if_neg hv, if_neg hv, Nat.add_zero] at key
      exact key o1 o2 o3 o4
theorem layOne_ok {P b law S : Nat} {K La : Nat → Nat} {kinds laneOf wi sh lo ch : Nat → Int32} (hG : GWf P K La kinds laneOf) (hb : b ≤ 3) (hlaw : law ≤ 1) (hS : S < 512)
    (hT : ∀ no, vS S P b K La no = true → wi (lf P K La S no) = nI (spW P b law K La (lf P K La S no)) ∧ sh (lf P K La S no) = nI (spF P b K La (lf P K La S no)) ∧ lo (lf P K La S no) = nI (spM P b K La (lf P K La S no)) ∧ ch (lf P K La S no) = nI (spL P b law K La (lf P K La S no))) :
    ∃ wi' sh' lo' ch' : Nat → Int32, (∀ t, t ≠ S → wi' t = wi t ∧ sh' t = sh t ∧ lo' t = lo t ∧ ch' t = ch t) ∧ wi' S = nI (spW P b law K La S) ∧ sh' S = nI (spF P b K La S) ∧ lo' S = nI (spM P b K La S) ∧ ch' S = nI (spL P b law K La S) ∧ f_X8_layOne 1000 (nI P) (nI b) (nI law) wi sh lo laneOf kinds ch (nI S) = some (wi', sh', lo', ch') := by
  have hP := hG.1
  have hT2 : ∀ no, vS S P b K La no = true → upd wi S 0 (lf P K La S no) = nI (spW P b law K La (lf P K La S no)) ∧ upd sh S 99 (lf P K La S no) = nI (spF P b K La (lf P K La S no)) ∧ upd lo S 0 (lf P K La S no) = nI (spM P b K La (lf P K La S no)) ∧ ch (lf P K La S no) = nI (spL P b law K La (lf P K La S no)) := fun no hv => by
    have := lf_lt hP hv
    have ne : lf P K La S no ≠ S := by omega
    rw [pk_un ne, pk_un ne, pk_un ne]
    exact hT no hv
  obtain ⟨w1, s1, l1, h1, h2, h3, h4, h5⟩ := layOne_L hG hb hlaw hS hT2 (fun a31 a32 a33 a34 a35 => if a31 = (0 : Int32) then (gd (inb (nI S) 512) <| gd (inb (nI S) 512) <| gd (inb (nI S) 512) <| some (upd a33 (nI S).toNatClampNeg (nI law), upd a34 (nI S).toNatClampNeg (0 : Int32), a35, upd ch (nI S).toNatClampNeg ((1000000 : Int32) * nI law))) else (gd (!decide (a31.toInt64 = 0)) <| gd (inb (nI S) 512) <| some (a33, a34, a35, upd ch (nI S).toNatClampNeg ((a32 / a31.toInt64).toInt32)))) (3 * P) 1000 0 _ _ _ (by omega) (by omega) (fun t ht => ⟨rfl, rfl, rfl⟩) pk_us pk_us pk_us
  have hoff : ∀ t, t ≠ S → w1 t = wi t ∧ s1 t = sh t ∧ l1 t = lo t := fun t ht => by
    obtain ⟨a, b, c⟩ := h1 t ht
    rw [pk_un ht] at a b c
    exact ⟨a, b, c⟩
  have h5 : f_X8_layOne 1000 (nI P) (nI b) (nI law) wi sh lo laneOf kinds ch (nI S) = (if nI (fb_ct (vS S P b K La) (3 * P)) = 0 then some (upd w1 S (nI law), upd s1 S (0 : Int32), l1, upd ch S ((1000000 : Int32) * nI law)) else gd (!decide ((nI (fb_ct (vS S P b K La) (3 * P))).toInt64 = 0)) (some (w1, s1, l1, upd ch S ((lN (fo (vS S P b K La) (gLk P b law K La S) (3 * P) 0) / (nI (fb_ct (vS S P b K La) (3 * P))).toInt64).toInt32)))) := by
    unfold f_X8_layOne
    simp only [gd_i hS (show 512 < 2 ^ 31 by omega), nI_clamp (show S < 2 ^ 31 by omega)] at h5 ⊢
    exact h5
  have hc := fb_ct_le (vS S P b K La) (3 * P)
  have hL := foL_le (P := P) (b := b) (law := law) (S := S) (n := 3 * P) (K := K) (La := La)
  have eW := spW_eq (b := b) (law := law) (S := S) (K := K) (La := La) hP
  have eF := spF_eq (b := b) (S := S) (K := K) (La := La) hP
  have eM := spM_eq (b := b) (S := S) (K := K) (La := La) hP
  have eL := spL_eq (b := b) (law := law) (S := S) (K := K) (La := La) hP
  by_cases h0 : fb_ct (vS S P b K La) (3 * P) = 0
  · rw [if_pos h0] at eW eF eL
    refine ⟨upd w1 S (nI law), upd s1 S 0, l1, upd ch S (nI (law * 1000000)), fun t ht => ?_, by rw [pk_us, eW], by rw [pk_us, eF]; rfl, by rw [h4, eM], by rw [pk_us, eL], ?_⟩
    · obtain ⟨a, b, c⟩ := hoff t ht
      rw [pk_un ht, pk_un ht, pk_un ht]
      exact ⟨a, b, c, rfl⟩
    · rw [h5, h0, if_pos (show nI 0 = (0 : Int32) from rfl), show (1000000 : Int32) = nI 1000000 from fa_lit 1000000, pk_mul, Nat.mul_comm]
  · rw [if_neg h0] at eW eF eL
    have hz : ¬ nI (fb_ct (vS S P b K La) (3 * P)) = (0 : Int32) := fun h => h0 ((nI_eq (b := 0) (by omega) (by omega)).mp h)
    have hz2 : ¬ lN (fb_ct (vS S P b K La) (3 * P)) = (0 : Int64) := fun h => h0 ((lN_eq (b := 0) (by omega) (by omega)).mp h)
    refine ⟨w1, s1, l1, upd ch S (nI (fo (vS S P b K La) (gLk P b law K La S) (3 * P) 0 / fb_ct (vS S P b K La) (3 * P))), fun t ht => ?_, by rw [h2, eW], by rw [h3, eF], by rw [h4, eM], by rw [pk_us, eL], ?_⟩
    · obtain ⟨a, b, c⟩ := hoff t ht
      rw [pk_un ht]
      exact ⟨a, b, c, rfl⟩
    · rw [h5, if_neg hz, nI_l (by omega), gd_t (by simpa using hz2), pk_lDiv (by omega) (by omega) (by omega), lN_i]
