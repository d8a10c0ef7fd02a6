/-! the page is read -/
def nu (f : Nat → Nat) (i x : Nat) : Nat → Nat := fun k => if k = i then x else f k
theorem nu_s {f : Nat → Nat} {i x : Nat} : nu f i x i = x := if_pos rfl
theorem nu_n {f : Nat → Nat} {i x k : Nat} (h : ¬ k = i) : nu f i x k = f k := if_neg h
def Shp (P Ln : Nat) (La F Le : Nat → Nat) : Prop := mono P La ∧ (∀ l, l < Ln → F l + Le l ≤ P ∧ Le l ≤ 6) ∧ (∀ l, l + 1 < Ln → 1 ≤ Le l) ∧ F (Ln - 1) + Le (Ln - 1) = P ∧ (∀ i, i < P → La i < Ln ∧ F (La i) ≤ i ∧ i < F (La i) + Le (La i)) ∧ (∀ l, l < Ln → ∀ i, F l ≤ i → i < F l + Le l → La i = l)
theorem Shp.lane {P Ln : Nat} {La F Le : Nat → Nat} (h1 : 1 ≤ Ln) (h : Shp P Ln La F Le) (hp : 1 ≤ Le (Ln - 1)) : Shp P (Ln + 1) La (nu F Ln P) (nu Le Ln 0) := by
  obtain ⟨a1, a2, a3, a4, a5, a6⟩ := h
  refine ⟨a1, fun l hl => ?_, fun l hl => ?_, ?_, fun i hi => ?_, fun l hl i g1 g2 => ?_⟩
  · by_cases e : l = Ln
    · subst e; rw [nu_s, nu_s]; omega
    · rw [nu_n e, nu_n e]; exact a2 l (by omega)
  · rw [nu_n (by omega)]
    by_cases e : l = Ln - 1
    · subst e; exact hp
    · exact a3 l (by omega)
  · rw [Nat.add_sub_cancel, nu_s, nu_s]; rfl
  · obtain ⟨b1, b2, b3⟩ := a5 i hi
    rw [nu_n (by omega), nu_n (by omega)]
    exact ⟨by omega, b2, b3⟩
  · by_cases e : l = Ln
    · subst e; rw [nu_s] at g1 g2; rw [nu_s] at g2; omega
    · rw [nu_n e] at g1 g2; rw [nu_n e] at g2; exact a6 l (by omega) i g1 g2
theorem Shp.pin {P Ln : Nat} {La F Le : Nat → Nat} (h1 : 1 ≤ Ln) (h : Shp P Ln La F Le) (h6 : Le (Ln - 1) < 6) : Shp (P + 1) Ln (nu La P (Ln - 1)) F (nu Le (Ln - 1) (Le (Ln - 1) + 1)) := by
  obtain ⟨a1, a2, a3, a4, a5, a6⟩ := h
  refine ⟨fun i j hij hj => ?_, fun l hl => ?_, fun l hl => ?_, ?_, fun i hi => ?_, fun l hl i g1 g2 => ?_⟩
  · by_cases e : j = P
    · subst e
      rw [nu_s]
      by_cases e2 : i = j
      · rw [e2, nu_s]; exact Nat.le_refl _
      · rw [nu_n e2]
        have := (a5 i (by omega)).1
        omega
    · rw [nu_n e, nu_n (by omega)]
      exact a1 i j hij (by omega)
  · by_cases e : l = Ln - 1
    · subst e; rw [nu_s]; omega
    · rw [nu_n e]; have := a2 l hl; omega
  · rw [nu_n (by omega)]; exact a3 l hl
  · rw [nu_s]; omega
  · by_cases e : i = P
    · subst e
      rw [nu_s, nu_s]; omega
    · rw [nu_n e]
      obtain ⟨b1, b2, b3⟩ := a5 i (by omega)
      refine ⟨b1, b2, ?_⟩
      by_cases e2 : La i = Ln - 1
      · rw [e2, nu_s]; rw [e2] at b3; omega
      · rw [nu_n e2]; exact b3
  · by_cases e : i = P
    · subst e
      rw [nu_s]
      by_cases e2 : l = Ln - 1
      · exact e2.symm
      · rw [nu_n e2] at g2
        have := (a2 l hl).1
        omega
    · rw [nu_n e]
      by_cases e2 : l = Ln - 1
      · subst e2
        rw [nu_s] at g2
        exact a6 (Ln - 1) hl i g1 (by omega)
      · rw [nu_n e2] at g2
        exact a6 l hl i g1 g2
def RdB (P Ln : Nat) (K La F Le : Nat → Nat) (pins lanes here mpins mlanes : Int32) (firsts lengths kinds laneOf rk ro : Nat → Int32) : Prop := P ≤ 9 ∧ 1 ≤ Ln ∧ Ln ≤ 3 ∧ pins = nI P ∧ mpins = nI P ∧ lanes = nI Ln ∧ mlanes = nI Ln ∧ here = nI (Le (Ln - 1)) ∧ Shp P Ln La F Le ∧ LnA Ln F Le firsts lengths ∧ (∀ i, i < P → kinds i = nI (K i) ∧ K i < 5 ∧ laneOf i = nI (La i) ∧ rk i = nI (K i) ∧ ro i = nI (La i))
theorem last_ok {Ln : Nat} {F Le : Nat → Nat} {firsts lengths : Nat → Int32} (h1 : 1 ≤ Ln) (h3 : Ln ≤ 3) (h6 : Le (Ln - 1) ≤ 6) (hA : LnA Ln F Le firsts lengths) : f_X1_lastLaneHasPins 1000 (nI Ln) lengths = some (if 1 ≤ Le (Ln - 1) then 1 else 0) := by
  unfold f_X1_lastLaneHasPins
  rw [show nI Ln - 1 = nI (Ln - 1) from pk_sub (b := 1) h1, hasLane_x, ob1_s, if_neg (show ¬ (nI (Ln - 1) < 0 ∨ nI Ln ≤ nI (Ln - 1)) from fun g => g.elim (nI_pos (by omega)) (nI_ge (by omega) (by omega))), if_neg n10, gd_i (by omega) (by omega), nI_clamp (by omega), (hA (Ln - 1) (by omega)).2]
  by_cases e : 1 ≤ Le (Ln - 1)
  · rw [if_neg (nI_nle (by omega) (by omega)), if_pos e]
  · rw [if_neg e, show Le (Ln - 1) = 0 by omega, if_pos (by decide)]
theorem addLane_ok {P Ln : Nat} (hP : P ≤ 9) (h3 : Ln ≤ 3) (firsts lengths : Nat → Int32) : f_X1_addLane 1000 (nI P) (nI Ln) firsts lengths = if Ln < 3 ∧ P < 9 then some (1, nI (Ln + 1), upd firsts Ln (nI P), upd lengths Ln 0) else some (0, nI Ln, firsts, lengths) := by
  unfold f_X1_addLane
  by_cases e : Ln < 3
  · rw [if_neg (show ¬ (3 : Int32) ≤ nI Ln from nI_ge (b := 3) e (by omega))]
    by_cases e2 : P < 9
    · rw [if_pos (show nI P < (9 : Int32) from nI_lt (b := 9) e2 (by omega)), gd_i (by omega) (by omega), gd_i (by omega) (by omega), nI_clamp (by omega), nI_1, if_pos ⟨e, e2⟩]
    · rw [if_neg (show ¬ nI P < (9 : Int32) from nI_nlt (b := 9) (by omega) (by omega)), if_neg (fun g => e2 g.2)]
  · rw [if_pos (show (3 : Int32) ≤ nI Ln from nI_le (a := 3) (by omega) (by omega)), if_neg (fun g => e g.1)]
theorem addPin_ok {P Ln : Nat} {F Le : Nat → Nat} {firsts lengths : Nat → Int32} (hP : P ≤ 9) (h1 : 1 ≤ Ln) (h3 : Ln ≤ 3) (h6 : Le (Ln - 1) ≤ 6) (hA : LnA Ln F Le firsts lengths) (kinds laneOf : Nat → Int32) (x : Int32) : f_X1_addPin 1000 (nI P) (nI Ln) lengths kinds laneOf x = if P = 9 ∨ Le (Ln - 1) = 6 then some (0, nI P, lengths, kinds, laneOf) else some (1, nI (P + 1), upd lengths (Ln - 1) (nI (Le (Ln - 1) + 1)), upd kinds P x, upd laneOf P (nI (Ln - 1))) := by
  unfold f_X1_addPin
  rw [show nI Ln - 1 = nI (Ln - 1) from pk_sub (b := 1) h1, hasLane_x, ob1_s, if_neg (show ¬ (nI (Ln - 1) < 0 ∨ nI Ln ≤ nI (Ln - 1)) from fun g => g.elim (nI_pos (by omega)) (nI_ge (by omega) (by omega))), if_neg n10, gd_i (by omega) (by omega), nI_clamp (show Ln - 1 < 2 ^ 31 by omega), (hA (Ln - 1) (by omega)).2]
  by_cases e : Le (Ln - 1) = 6
  · rw [if_pos (show (6 : Int32) ≤ nI (Le (Ln - 1)) from nI_le (a := 6) (by omega) (by omega)), if_pos (Or.inr e)]
  · rw [if_neg (show ¬ (6 : Int32) ≤ nI (Le (Ln - 1)) from nI_ge (b := 6) (by omega) (by omega))]
    by_cases e2 : P = 9
    · rw [if_neg (show ¬ nI P < (9 : Int32) from nI_nlt (b := 9) (by omega) (by omega)), if_pos (Or.inl e2)]
    · rw [if_pos (show nI P < (9 : Int32) from nI_lt (b := 9) (by omega) (by omega)), gd_i (by omega) (by omega), gd_i (by omega) (by omega), gd_i (by omega) (by omega), gd_i (by omega) (by omega), nI_clamp (show P < 2 ^ 31 by omega), nI_1, nI_1, if_neg (fun g => g.elim e2 e)]
def kd (q : Nat) : Nat := if q = 112 then 0 else if q = 110 then 1 else if q = 115 then 2 else if q = 102 then 3 else if q = 100 then 4 else 5
set_option maxRecDepth 100000 in
theorem kd7 : ∀ q, q < 127 → f_J0_indexOf_0f7a4 1000 (nI q) = some (if kd q < 5 then nI (kd q) else -1) := by decide +kernel
set_option maxRecDepth 100000 in
theorem kd8 : ∀ q, q < 127 → f_X8_kindBy 1000 (nI q) = some (if kd q < 5 then nI (kd q) else -1) := by decide +kernel
theorem inL_ok {P Ln q : Nat} {K La F Le : Nat → Nat} {pins lanes here mpins mlanes : Int32} {firsts lengths kinds laneOf rk ro : Nat → Int32} (hq : q < 127) (h : RdB P Ln K La F Le pins lanes here mpins mlanes firsts lengths kinds laneOf rk ro) :
    ((∃ (y2 y3 y4 : Int32) (y5 y6 y7 y8 : Nat → Int32), f_X3_takesInLanes 1000 (nI 0) pins lanes lengths firsts kinds laneOf (nI q) = some (0, y2, y3, y4, y5, y6, y7, y8)) ∧ (∃ (z2 z3 z4 z5 : Int32) (z6 z7 : Nat → Int32), f_X8_isLaneLetter 1000 mpins mlanes here (-1) rk ro (nI q) = some (0, z2, z3, z4, z5, z6, z7))) ∨
    (∃ (g P' Ln' : Nat) (K' La' F' Le' : Nat → Nat) (pins' lanes' here' mp' ml' : Int32) (fs' ls' ks' lo' rk' ro' : Nat → Int32), g ≤ 1 ∧ f_X3_takesInLanes 1000 (nI 0) pins lanes lengths firsts kinds laneOf (nI q) = some (1, nI g, pins', lanes', ls', fs', ks', lo') ∧ f_X8_isLaneLetter 1000 mpins mlanes here (-1) rk ro (nI q) = some (1, mp', ml', here', nI g - 1, rk', ro') ∧ RdB P' Ln' K' La' F' Le' pins' lanes' here' mp' ml' fs' ls' ks' lo' rk' ro' ∧ (g = 1 → 1 ≤ Le' (Ln' - 1))) := by
  obtain ⟨hP, h1, h3, rfl, rfl, rfl, rfl, rfl, hS, hA, hK⟩ := h
  obtain ⟨s1, s2, s3, s4, s5, s6⟩ := id hS
  have h6 := (s2 (Ln - 1) (by omega)).2
  have hlast := last_ok h1 h3 h6 hA
  unfold f_X3_takesInLanes f_X8_isLaneLetter
  simp only [jm_s]
  by_cases c1 : q = 44
  · subst c1
    rw [if_pos (show nI 44 = (44 : Int32) from rfl), if_neg (show ¬ nI 44 = (59 : Int32) by decide), if_pos (show nI 44 = (44 : Int32) from rfl), hlast, ob1_s]
    by_cases e1 : 1 ≤ Le (Ln - 1)
    · rw [if_pos e1, if_neg n10, if_neg (nI_nle (by omega) (by omega)), addLane_ok hP h3]
      by_cases e2 : Ln < 3 ∧ P < 9
      · rw [if_pos e2, ob4_s, if_neg n10, if_neg (show ¬ (3 : Int32) ≤ nI Ln from nI_ge (b := 3) e2.1 (by omega)), if_neg (show ¬ (9 : Int32) ≤ nI P from nI_ge (b := 9) e2.2 (by omega)), nI_1]
        refine Or.inr ⟨0, P, Ln + 1, K, La, nu F Ln P, nu Le Ln 0, _, _, _, _, _, _, _, _, _, _, _, by omega, rfl, rfl, ⟨hP, by omega, by omega, rfl, rfl, rfl, rfl, ?_, hS.lane h1 e1, fun l hl => ?_, hK⟩, fun e => absurd e (by decide)⟩
        · rw [Nat.add_sub_cancel, nu_s]; rfl
        · by_cases e : l = Ln
          · subst e; rw [pk_us, pk_us, nu_s, nu_s]; exact ⟨rfl, rfl⟩
          · rw [pk_un (by omega), pk_un (by omega), nu_n e, nu_n e]; exact hA l (by omega)
      · refine Or.inl ⟨?_, ?_⟩
        · rw [if_neg e2, ob4_s, if_pos rfl]
          exact ⟨_, _, _, _, _, _, _, rfl⟩
        · by_cases e3 : Ln < 3
          · rw [if_neg (show ¬ (3 : Int32) ≤ nI Ln from nI_ge (b := 3) e3 (by omega)), if_pos (show (9 : Int32) ≤ nI P from nI_le (a := 9) (by omega) (by omega))]
            exact ⟨_, _, _, _, _, _, rfl⟩
          · rw [if_pos (show (3 : Int32) ≤ nI Ln from nI_le (a := 3) (by omega) (by omega))]
            exact ⟨_, _, _, _, _, _, rfl⟩
    · refine Or.inl ⟨?_, ?_⟩
      · rw [if_neg e1, if_pos rfl]
        exact ⟨_, _, _, _, _, _, _, rfl⟩
      · rw [show Le (Ln - 1) = 0 by omega, if_pos (show nI 0 ≤ (0 : Int32) by decide)]
        exact ⟨_, _, _, _, _, _, rfl⟩
  have c1' : ¬ nI q = (44 : Int32) := nz (k := 44) (by omega) (by omega) c1
  rw [if_neg c1', if_neg c1']
  by_cases c2 : q = 59
  · subst c2
    rw [if_pos (show nI 59 = (59 : Int32) from rfl), if_pos (show nI 59 = (59 : Int32) from rfl), hlast, ob1_s]
    by_cases e1 : 1 ≤ Le (Ln - 1)
    · rw [if_pos e1, if_neg (nI_nle (by omega) (by omega))]
      exact Or.inr ⟨1, P, Ln, K, La, F, Le, _, _, _, _, _, _, _, _, _, _, _, by omega, rfl, rfl, ⟨hP, h1, h3, rfl, rfl, rfl, rfl, rfl, hS, hA, hK⟩, fun _ => e1⟩
    · refine Or.inl ⟨?_, ?_⟩
      · rw [if_neg e1]
        exact ⟨_, _, _, _, _, _, _, rfl⟩
      · rw [show Le (Ln - 1) = 0 by omega, if_pos (show nI 0 ≤ (0 : Int32) by decide), kd8 59 (by omega), ob1_s, if_pos (by decide)]
        exact ⟨_, _, _, _, _, _, rfl⟩
  have c2' : ¬ nI q = (59 : Int32) := nz (k := 59) (by omega) (by omega) c2
  rw [if_neg c2', if_neg c2', kd7 q hq, ob1_s, kd8 q hq, ob1_s]
  by_cases e : kd q < 5
  · rw [if_pos e, if_neg (nI_pos (by omega)), if_neg (nI_m1 (by omega)), addPin_ok hP h1 h3 h6 hA, ob1_s]
    by_cases e2 : P = 9
    · refine Or.inl ⟨?_, ?_⟩
      · rw [if_pos (Or.inl e2), ob5_s, if_pos rfl]
        exact ⟨_, _, _, _, _, _, _, rfl⟩
      · rw [e2, if_pos (show nI 9 = (9 : Int32) from rfl)]
        exact ⟨_, _, _, _, _, _, rfl⟩
    · rw [if_neg (show ¬ nI P = (9 : Int32) from nz (k := 9) (by omega) (by omega) e2)]
      by_cases e3 : Le (Ln - 1) = 6
      · refine Or.inl ⟨?_, ?_⟩
        · rw [if_pos (Or.inr e3), ob5_s, if_pos rfl]
          exact ⟨_, _, _, _, _, _, _, rfl⟩
        · rw [e3, if_pos (show nI 6 = (6 : Int32) from rfl)]
          exact ⟨_, _, _, _, _, _, rfl⟩
      · rw [if_neg (show ¬ nI (Le (Ln - 1)) = (6 : Int32) from nz (k := 6) (by omega) (by omega) e3), if_neg (show ¬ (P = 9 ∨ Le (Ln - 1) = 6) from fun g => g.elim e2 e3), ob5_s, if_neg n10, gd_i (by omega) (by omega), gd_i (by omega) (by omega), nI_clamp (by omega), nI_1, nI_1, show nI Ln - 1 = nI (Ln - 1) from pk_sub (b := 1) h1]
        refine Or.inr ⟨0, P + 1, Ln, nu K P (kd q), nu La P (Ln - 1), F, nu Le (Ln - 1) (Le (Ln - 1) + 1), _, _, _, _, _, _, _, _, _, _, _, by omega, rfl, rfl, ⟨by omega, h1, h3, rfl, rfl, rfl, rfl, by rw [nu_s], hS.pin h1 (by omega), fun l hl => ?_, fun i hi => ?_⟩, fun e => absurd e (by decide)⟩
        · by_cases g : l = Ln - 1
          · subst g; rw [pk_us, nu_s]; exact ⟨(hA _ hl).1, rfl⟩
          · rw [pk_un (by omega), nu_n g]; exact hA l hl
        · by_cases g : i = P
          · subst g
            rw [pk_us, pk_us, pk_us, pk_us, nu_s, nu_s]
            exact ⟨rfl, e, rfl, rfl, rfl⟩
          · rw [pk_un (by omega), pk_un (by omega), pk_un (by omega), pk_un (by omega), nu_n g, nu_n g]
            exact hK i (by omega)
  · refine Or.inl ⟨?_, ?_⟩
    · rw [if_neg e, if_pos (by decide)]
      exact ⟨_, _, _, _, _, _, _, rfl⟩
    · rw [if_neg e, if_pos rfl]
      exact ⟨_, _, _, _, _, _, rfl⟩
