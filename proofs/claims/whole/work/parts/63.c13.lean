def RdA (page : Nat → Int32) (k g P Ln b lw : Nat) (K La F Le : Nat → Nat) (part pins lanes ball law mpins mlanes here behind : Int32) (firsts lengths kinds laneOf rk ro : Nat → Int32) : Prop := g ≤ 3 ∧ part = nI g ∧ behind = nI g - 1 ∧ RdB P Ln K La F Le pins lanes here mpins mlanes firsts lengths kinds laneOf rk ro ∧ (1 ≤ g → 1 ≤ Le (Ln - 1)) ∧ (2 ≤ g → 1 ≤ b ∧ b ≤ 3 ∧ ball = nI b ∧ g - 1 ≤ k ∧ page (k - (g - 1)) = nI (48 + b)) ∧ (g = 3 → lw ≤ 1 ∧ law = nI lw ∧ (page (k - 1) = nI 119 ↔ lw = 0))
set_option maxRecDepth 100000 in
theorem tb7 : ∀ q, q < 127 → f_X3_takesBall 1000 (nI q) = some (if 49 ≤ q ∧ q ≤ 51 then 1 else 0, 2, nI q - 48) := by decide +kernel
set_option maxRecDepth 100000 in
theorem ib1 : ∀ q, q < 127 → f_X8_isBehindLetter 1000 (nI 1 - 1) (nI q) = some (if 49 ≤ q ∧ q ≤ 51 then 1 else 0, nI 2 - 1) := by decide +kernel
set_option maxRecDepth 100000 in
theorem tl7 : ∀ q, q < 127 → f_X3_takesLaw 1000 (nI q) = some (if q = 119 ∨ q = 108 then 1 else 0, 3, nI (if q = 108 then 1 else 0)) := by decide +kernel
set_option maxRecDepth 100000 in
theorem ib2 : ∀ q, q < 127 → f_X8_isBehindLetter 1000 (nI 2 - 1) (nI q) = some (if q = 119 ∨ q = 108 then 1 else 0, nI 3 - 1) := by decide +kernel
set_option maxRecDepth 100000 in
theorem ib3 : ∀ q, q < 127 → f_X8_isBehindLetter 1000 (nI 3 - 1) (nI q) = some (0, 3) := by decide +kernel
theorem read_L {L : Nat} {page mpage : Nat → Int32} (hL : L ≤ 16) (hpg : ∀ i, i < L → ∃ q, 1 ≤ q ∧ q ≤ 126 ∧ page i = nI q ∧ mpage i = nI q) :
    ∀ (d n k g P Ln b lw : Nat) (K La F Le : Nat → Nat) (part pins lanes ball law mpins mlanes here behind : Int32) (firsts lengths kinds laneOf rk ro : Nat → Int32), k + d = L → d < n → RdA page k g P Ln b lw K La F Le part pins lanes ball law mpins mlanes here behind firsts lengths kinds laneOf rk ro →
      ∃ (j : Nat) (part' pins' lanes' ball' law' : Int32) (fs ls ks lo : Nat → Int32) (mp' ml' he' be' : Int32) (rk' ro' : Nat → Int32), f_X7_readPage_L9 1000 (nI L) page n (nI k) part pins lanes ball law firsts lengths kinds laneOf = some (nI j, part', pins', lanes', ball', law', fs, ls, ks, lo) ∧ f_X8_faultOf_L22 1000 (nI L) mpage n (nI k) mpins mlanes here behind rk ro = some (nI j, mp', ml', he', be', rk', ro') ∧ (j < L ∨ (j = L ∧ ∃ (g' P' Ln' b' lw' : Nat) (K' La' F' Le' : Nat → Nat), RdA page L g' P' Ln' b' lw' K' La' F' Le' part' pins' lanes' ball' law' mp' ml' he' be' fs ls ks lo rk' ro')) := by
  intro d
  induction d with
  | zero =>
    intro n k g P Ln b lw K La F Le part pins lanes ball law mpins mlanes here behind firsts lengths kinds laneOf rk ro h1 h2 hA
    obtain ⟨n, rfl⟩ : ∃ k, n = k + 1 := ⟨n - 1, by omega⟩
    obtain rfl : k = L := by omega
    refine ⟨k, part, pins, lanes, ball, law, firsts, lengths, kinds, laneOf, mpins, mlanes, here, behind, rk, ro, ?_, ?_, Or.inr ⟨rfl, g, P, Ln, b, lw, K, La, F, Le, hA⟩⟩
    · rw [f_X7_readPage_L9, if_pos (nI_le (Nat.le_refl _) (by omega))]
    · rw [f_X8_faultOf_L22, if_pos (nI_le (Nat.le_refl _) (by omega))]
  | succ d ih =>
    intro n k g P Ln b lw K La F Le part pins lanes ball law mpins mlanes here behind firsts lengths kinds laneOf rk ro h1 h2 hA
    obtain ⟨n, rfl⟩ : ∃ k, n = k + 1 := ⟨n - 1, by omega⟩
    obtain ⟨q, q1, q2, q3, q4⟩ := hpg k (by omega)
    obtain ⟨g3, rfl, rfl, hB, e1, e2, e3⟩ := hA
    have hk : k < L := by omega
    rw [f_X7_readPage_L9, if_neg (nI_ge hk (by omega)), gd_i (by omega) (by omega), f_X8_faultOf_L22, if_neg (nI_ge hk (by omega)), nI_clamp (by omega), q3, q4]
    simp only [jm_s, gd_i (show k < 16 by omega) (show 16 < 2 ^ 31 by omega)]
    rw [nI_1]
    have hg : g = 0 ∨ g = 1 ∨ g = 2 ∨ g = 3 := by omega
    rcases hg with rfl | rfl | rfl | rfl
    · unfold f_X3_takes
      rw [if_pos (show nI 0 = (0 : Int32) from rfl), if_pos (show nI 0 - 1 = (-1 : Int32) by decide)]
      rcases inL_ok (show q < 127 by omega) hB with ⟨⟨y2, y3, y4, y5, y6, y7, y8, u1⟩, ⟨z2, z3, z4, z5, z6, z7, u2⟩⟩ | ⟨g, P', Ln', K', La', F', Le', pins', lanes', here', mp', ml', fs', ls', ks', lo', rk', ro', u0, u1, u2, u3, u4⟩
      · rw [u1, ob8_s, gd_t (by decide), ob10_s, if_pos rfl, show nI 0 - 1 = (-1 : Int32) by decide, u2, ob7_s, if_pos rfl]
        exact ⟨k, _, _, _, _, _, _, _, _, _, _, _, _, _, _, _, rfl, rfl, Or.inl hk⟩
      · rw [u1, ob8_s, gd_t (by decide), ob10_s, if_neg n10, show nI 0 - 1 = (-1 : Int32) by decide, u2, ob7_s, if_neg n10]
        refine ih n (k + 1) g P' Ln' b lw K' La' F' Le' _ _ _ _ _ _ _ _ _ _ _ _ _ _ _ (by omega) (by omega) ⟨by omega, rfl, rfl, u3, fun h => u4 (by omega), fun h => absurd h (by omega), fun h => absurd h (by omega)⟩
    · unfold f_X3_takes
      rw [if_neg (show ¬ nI 1 = (0 : Int32) by decide), if_pos (show nI 1 = (1 : Int32) from rfl), if_neg (show ¬ nI 1 - 1 = (-1 : Int32) by decide), tb7 q (by omega), ib1 q (by omega), ob3_s, ob2_s]
      by_cases c : 49 ≤ q ∧ q ≤ 51
      · rw [if_pos c, gd_t (by decide), ob10_s, if_neg n10, if_neg n10]
        refine ih n (k + 1) 2 P Ln (q - 48) lw K La F Le _ _ _ _ _ _ _ _ _ _ _ _ _ _ _ (by omega) (by omega) ⟨by omega, rfl, rfl, hB, fun _ => e1 (by omega), fun _ => ⟨by omega, by omega, ?_, by omega, ?_⟩, fun h => absurd h (by omega)⟩
        · exact pk_sub (b := 48) (by omega)
        · show page k = nI (48 + (q - 48))
          rw [q3, show 48 + (q - 48) = q by omega]
      · rw [if_neg c, gd_t (by decide), ob10_s, if_pos rfl, if_pos rfl]
        exact ⟨k, _, _, _, _, _, _, _, _, _, _, _, _, _, _, _, rfl, rfl, Or.inl hk⟩
    · unfold f_X3_takes
      rw [if_neg (show ¬ nI 2 = (0 : Int32) by decide), if_neg (show ¬ nI 2 = (1 : Int32) by decide), if_pos (show nI 2 = (2 : Int32) from rfl), if_neg (show ¬ nI 2 - 1 = (-1 : Int32) by decide), tl7 q (by omega), ib2 q (by omega), ob3_s, ob2_s]
      by_cases c : q = 119 ∨ q = 108
      · rw [if_pos c, gd_t (by decide), ob10_s, if_neg n10, if_neg n10]
        obtain ⟨f1, f2, f3, f4, f5⟩ := e2 (by omega)
        refine ih n (k + 1) 3 P Ln b (if q = 108 then 1 else 0) K La F Le _ _ _ _ _ _ _ _ _ _ _ _ _ _ _ (by omega) (by omega) ⟨by omega, rfl, rfl, hB, fun _ => e1 (by omega), fun _ => ⟨f1, f2, f3, by omega, ?_⟩, fun _ => ⟨?_, rfl, ?_⟩⟩
        · rw [show k + 1 - (3 - 1) = k - (2 - 1) by omega]; exact f5
        · by_cases e : q = 108
          · rw [if_pos e]; omega
          · rw [if_neg e]; omega
        · rw [Nat.add_sub_cancel, q3]
          rcases c with rfl | rfl
          · simp
          · constructor
            · intro h; exact absurd h (by decide)
            · intro h; exact absurd h (by decide)
      · rw [if_neg c, gd_t (by decide), ob10_s, if_pos rfl, if_pos rfl]
        exact ⟨k, _, _, _, _, _, _, _, _, _, _, _, _, _, _, _, rfl, rfl, Or.inl hk⟩
    · unfold f_X3_takes
      rw [if_neg (show ¬ nI 3 = (0 : Int32) by decide), if_neg (show ¬ nI 3 = (1 : Int32) by decide), if_neg (show ¬ nI 3 = (2 : Int32) by decide), if_neg (show ¬ nI 3 - 1 = (-1 : Int32) by decide), ib3 q (by omega), ob10_s, ob2_s, if_pos rfl, if_pos rfl]
      exact ⟨k, _, _, _, _, _, _, _, _, _, _, _, _, _, _, _, rfl, rfl, Or.inl hk⟩
theorem read_ok {L : Nat} {page mpage : Nat → Int32} (hL : L ≤ 16) (hpg : ∀ i, i < L → ∃ q, 1 ≤ q ∧ q ≤ 126 ∧ page i = nI q ∧ mpage i = nI q) (ball law : Int32) (firsts lengths kinds laneOf rk ro : Nat → Int32) :
      ∃ (j : Nat) (part' pins' lanes' ball' law' : Int32) (fs ls ks lo : Nat → Int32) (mp' ml' he' be' : Int32) (rk' ro' : Nat → Int32), f_X7_readPage 1000 (nI L) ball law firsts lengths page kinds laneOf = some (nI j, part', pins', lanes', ball', law', fs, ls, ks, lo) ∧ f_X8_faultOf 1000 (nI L) mpage rk ro = some (nI j, mp', ml', he', be', rk', ro') ∧ (j < L ∨ (j = L ∧ ∃ (g' P' Ln' b' lw' : Nat) (K' La' F' Le' : Nat → Nat), RdA page L g' P' Ln' b' lw' K' La' F' Le' part' pins' lanes' ball' law' mp' ml' he' be' fs ls ks lo rk' ro')) := by
  unfold f_X7_readPage f_X3_begin f_X8_faultOf
  rw [show f_X1_addLane 1000 0 0 firsts lengths = some (1, nI 1, upd firsts 0 (nI 0), upd lengths 0 0) from addLane_ok (P := 0) (Ln := 0) (by omega) (by omega) firsts lengths, ob4_s, ob5_s]
  refine read_L hL hpg L 1000 0 0 0 1 0 0 (fun _ => 0) (fun _ => 0) (fun _ => 0) (fun _ => 0) _ _ _ _ _ _ _ _ _ _ _ _ _ _ _ (by omega) (by omega) ⟨by omega, rfl, by decide, ⟨by omega, by omega, by omega, rfl, rfl, rfl, rfl, rfl, ⟨fun i j _ _ => Nat.le_refl _, fun l _ => ⟨Nat.le_refl 0, Nat.zero_le 6⟩, fun l h => absurd h (by omega), rfl, fun i h => absurd h (by omega), fun l _ i _ h => absurd h (Nat.not_lt_zero i)⟩, fun l hl => ?_, fun i h => absurd h (by omega)⟩, fun h => absurd h (by omega), fun h => absurd h (by omega), fun h => absurd h (by omega)⟩
  obtain rfl : l = 0 := by omega
  exact ⟨pk_us, pk_us⟩
theorem k_fault {le ma : Int32} {pg mp : Nat → Int32} (h : PageR le pg ma mp) (ball law : Int32) (firsts lengths kinds laneOf rk ro : Nat → Int32) :
    ∃ (a0 a1 a2 a3 a4 a5 : Int32) (a6 a7 a8 a9 : Nat → Int32) (b1 b2 b3 b4 : Int32) (b5 b6 : Nat → Int32), f_X7_fault 1000 le ball law firsts lengths pg kinds laneOf = some (a0, a1, a2, a3, a4, a5, a6, a7, a8, a9) ∧ f_X8_fault 1000 ma mp rk ro = some (a0, b1, b2, b3, b4, b5, b6) := by
  obtain ⟨rfl, n, hn, rfl, hpg⟩ := h
  obtain ⟨j, a1, a2, a3, a4, a5, a6, a7, a8, a9, b1, b2, b3, b4, b5, b6, q1, q2, -⟩ := read_ok hn hpg ball law firsts lengths kinds laneOf rk ro
  refine ⟨nI j, a1, a2, a3, a4, a5, a6, a7, a8, a9, b1, b2, b3, b4, b5, b6, ?_, ?_⟩
  · unfold f_X7_fault
    rw [q1]
    rfl
  · unfold f_X8_fault
    rw [q2]
    rfl
