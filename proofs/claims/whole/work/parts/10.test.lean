-- X7_bits
def f_X7_bits (N : Nat) (x0 : Int32) (x1 : Int32) : Option (Int32) := some ((((1 : Int32) <<< (x1 &&& 31)) - (1 : Int32)) <<< (x0 &&& 31))
-- X8_ones
def f_X8_ones_L4 (N : Nat) (x0 : Int32) : Nat → Int32 → Int32 → Option (Int32)
  | 0, _, _ => none
  | n + 1, x1, x2 => if (10 : Int32) ≤ x2 then (some (x1)) else (f_X8_ones_L4 N x0 n (x1 + ((x0 >>> (x2 &&& 31)) &&& (1 : Int32))) (x2 + (1 : Int32)))
def f_X8_ones (N : Nat) (x0 : Int32) : Option (Int32) := f_X8_ones_L4 N x0 N (0 : Int32) (0 : Int32)
-- X6_fallen
def f_X6_fallen_L55 (N : Nat) (x2 : Int32) (v_t_takesRight : Int32) (kk : Int32 → Option (Int32)) : Nat → Int32 → Int32 → Option (Int32)
  | 0, _, _ => none
  | n + 1, x3, x4 => if (9 : Int32) ≤ (x4 + (1 : Int32)) then (kk x3) else (if (((v_t_takesRight >>> (x4 &&& 31)) &&& (x2 >>> ((x4 + (1 : Int32)) &&& 31))) &&& (1 : Int32)) = (1 : Int32) then (f_X6_fallen_L55 N x2 v_t_takesRight kk n (x3 ||| ((1 : Int32) <<< ((x4 + (1 : Int32)) &&& 31))) (x4 + (1 : Int32))) else (kk x3))
def f_X6_fallen_L105 (N : Nat) (x2 : Int32) (v_t_takesLeft : Int32) : Nat → Int32 → Int32 → Option (Int32)
  | 0, _, _ => none
  | n + 1, x3, x5 => if x5 ≤ (0 : Int32) then (some (x3)) else (if (((v_t_takesLeft >>> (x5 &&& 31)) &&& (x2 >>> ((x5 - (1 : Int32)) &&& 31))) &&& (1 : Int32)) = (1 : Int32) then (f_X6_fallen_L105 N x2 v_t_takesLeft n (x3 ||| ((1 : Int32) <<< ((x5 + (-1 : Int32)) &&& 31))) (x5 + (-1 : Int32))) else (some (x3)))
def f_X6_fallen (N : Nat) (v_t_size : Int32) (v_t_takesRight : Int32) (v_t_takesLeft : Int32) (r_t_taken : Nat → Int32) (r_t_firsts : Nat → Int32) (r_t_counts : Nat → Int32) (x1 : Int32) (x2 : Int32) : Option (Int32) := if x1 < (0 : Int32) then (some ((0 : Int32))) else (if v_t_size ≤ x1 then (some ((0 : Int32))) else (gd (inb x1 27) <| gd (inb x1 27) <| if (x2 &&& (r_t_taken x1.toNatClampNeg)) = (r_t_taken x1.toNatClampNeg) then (gd (inb x1 27) <| gd (inb x1 27) <| gd (inb x1 27) <| f_X6_fallen_L55 N x2 v_t_takesRight (fun a6 => gd (inb x1 27) <| f_X6_fallen_L105 N x2 v_t_takesLeft N a6 (r_t_firsts x1.toNatClampNeg)) N (r_t_taken x1.toNatClampNeg) (((r_t_firsts x1.toNatClampNeg) + (r_t_counts x1.toNatClampNeg)) - (1 : Int32))) else (some ((0 : Int32)))))
-- X8_canBe
def f_X8_canBe_L28 (N : Nat) (x1 : Int32) (x2 : Int32) (x3 : Int32) (r_t_laneOf : Nat → Int32) (r_t_kinds : Nat → Int32) : Nat → Int32 → Int32 → Option (Int32)
  | 0, _, _ => none
  | n + 1, x4, x5 => if (x2 + x3) ≤ x5 then (gd (bz x4) <| some (x4)) else (if x4 = (0 : Int32) then (gd (bz x4) <| some (x4)) else (jm (fun (a3 : Int32) => f_X8_canBe_L28 N x1 x2 x3 r_t_laneOf r_t_kinds n a3 (x5 + (1 : Int32))) (fun j4 => jm (fun (_ : Unit) => j4 (0 : Int32)) (fun j5 => if ((x1 >>> (x5 &&& 31)) &&& (1 : Int32)) = (1 : Int32) then (gd (inb x5 9) <| gd (inb x2 9) <| if (r_t_laneOf x5.toNatClampNeg) = (r_t_laneOf x2.toNatClampNeg) then (gd (inb x5 9) <| if (r_t_kinds x5.toNatClampNeg) = (3 : Int32) then (j5 ()) else (gd (inb x5 9) <| jm (fun (_ : Unit) => j4 (1 : Int32)) (fun j10 => if (r_t_kinds x5.toNatClampNeg) = (2 : Int32) then (if x3 = (1 : Int32) then (j10 ()) else (j5 ())) else (j10 ())))) else (j5 ())) else (j5 ())))))
def f_X8_canBe (N : Nat) (v_t_pins : Int32) (v_t_most : Int32) (r_t_laneOf : Nat → Int32) (r_t_kinds : Nat → Int32) (x1 : Int32) (x2 : Int32) (x3 : Int32) : Option (Int32) := jm (fun (a1 : Int32) => f_X8_canBe_L28 N x1 x2 x3 r_t_laneOf r_t_kinds N a1 x2) (fun j2 => jm (fun (_ : Unit) => j2 (0 : Int32)) (fun j11 => if v_t_most < x3 then (j11 ()) else (if v_t_pins < (x2 + x3) then (j11 ()) else (j2 (1 : Int32)))))
-- X8_copy
def f_X8_copy_L2 (N : Nat) (n_o0 : Nat) (n_o1 : Nat) (r_o0 : Nat → Int32) : Nat → Int32 → (Nat → Int32) → Option ((Nat → Int32))
  | 0, _, _ => none
  | n + 1, x2, r_o1 => if (Int32.ofNat n_o0) ≤ x2 then (some (r_o1)) else (gd (inb x2 n_o0) <| gd (inb x2 n_o1) <| f_X8_copy_L2 N n_o0 n_o1 r_o0 n (x2 + (1 : Int32)) (upd r_o1 x2.toNatClampNeg (r_o0 x2.toNatClampNeg)))
def f_X8_copy (N : Nat) (n_o0 : Nat) (n_o1 : Nat) (r_o0 : Nat → Int32) (r_o1 : Nat → Int32) : Option ((Nat → Int32)) := f_X8_copy_L2 N n_o0 n_o1 r_o0 N (0 : Int32) r_o1
-- X7_bits
set_option maxHeartbeats 4000000 in
set_option maxRecDepth 100000 in
theorem c_X7_bits (l : Launch) (D : va_G) (cI cC : ClassId) (N sz : Nat) (x0 : Int32) (x1 : Int32) (z0 : Int32) (hf : f_X7_bits N x0 x1 = some (z0)) : Ct l yX7_bits wsX7_bits ⟨0, 0, 0, 0⟩ [.int x0, .int x1] D cI cC [] sz (fun A => (QI D cI cC A [] z0)) := by
  suffices h : ∀ wE : va_W, wE = [] → Ct l yX7_bits wsX7_bits ⟨0, 0, 0, 0⟩ [.int x0, .int x1] D cI cC [] sz (fun A => (QI D cI cC A wE z0)) from h _ rfl
  intro wE hwE
  rw [f_X7_bits] at hf
  refine Ct.beg cX7_bits 2 (some .int) [(0, .int x0), (1, .int x1)] RX7 (by decide) rfl rfl (Nat.le_of_ble_eq_true rfl) rfl (fun p e s m below meth c A hx hb hr hts hown hlk hml hnm hK hP hD hS hA hG ls hl => ?_)
  refine lv_iconst (v := (1 : Int32)) hx hb dX7_bits_0 (by decide) ?_
  refine lv_iload_n hx hb dX7_bits_1 rfl (lv_at hl 1 rfl) ?_
  refine lv_ishl hx hb dX7_bits_2 ?_
  refine lv_iconst (v := (1 : Int32)) hx hb dX7_bits_3 (by decide) ?_
  refine lv_isub hx hb dX7_bits_4 ?_
  refine lv_iload_n hx hb dX7_bits_5 rfl (lv_at hl 0 rfl) ?_
  refine lv_ishl hx hb dX7_bits_6 ?_
  cases hf
  subst hwE
  exact endI hx hb hr hlk hK hP hD hS rfl dX7_bits_7
-- X8_ones
set_option maxHeartbeats 4000000 in
set_option maxRecDepth 100000 in
theorem c_X8_ones (l : Launch) (D : va_G) (cI cC : ClassId) (N sz : Nat) (x0 : Int32) (z0 : Int32) (hf : f_X8_ones N x0 = some (z0)) : Ct l yX8_ones wsX8_ones ⟨0, 0, 0, 0⟩ [.int x0] D cI cC [] sz (fun A => (QI D cI cC A [] z0)) := by
  suffices h : ∀ wE : va_W, wE = [] → Ct l yX8_ones wsX8_ones ⟨0, 0, 0, 0⟩ [.int x0] D cI cC [] sz (fun A => (QI D cI cC A wE z0)) from h _ rfl
  intro wE hwE
  rw [f_X8_ones] at hf
  refine Ct.beg cX8_ones 3 (some .int) [(0, .int x0)] RX8 (by decide) rfl rfl (Nat.le_of_ble_eq_true rfl) rfl (fun p e s m below meth c A hx hb hr hts hown hlk hml hnm hK hP hD hS hA hG ls hl => ?_)
  refine lv_iconst (v := (0 : Int32)) hx hb dX8_ones_0 (by decide) ?_
  refine lv_istore_n (lv' := [(1, .int (0 : Int32)), (0, .int x0)]) hx hb dX8_ones_1 rfl hl (by decide) rfl (fun ls hl => ?_)
  refine lv_iconst (v := (0 : Int32)) hx hb dX8_ones_2 (by decide) ?_
  refine lv_istore_n (lv' := [(2, .int (0 : Int32)), (1, .int (0 : Int32)), (0, .int x0)]) hx hb dX8_ones_3 rfl hl (by decide) rfl (fun ls hl => ?_)
  have hL1 : ∀ (n : Nat) (y2 : Int32) (y3 : Int32) (H : Heap) (locs : List Loc) (ls : Array Slot), va_P D vwCl [] H → va_D A [] → va_S A s.heap H locs → lv_has ls 3 [(0, .int x0), (1, .int y2), (2, .int y3)] → f_X8_ones_L4 N x0 n y2 y3 = some (z0) → W p l e ⟨0, 0, 0, 0⟩ s m ([.int x0] : List Value).toArray below meth c H locs 0 0 (MQ below (QI D cI cC A wE z0) ([.int x0] : List Value).toArray s 0 0 A) (F0 m 4 ls []) := by
    intro n
    induction n with
    | zero => intro y2 y3 H locs ls hP hD hS hl hf; rw [f_X8_ones_L4] at hf; cases hf
    | succ n ih =>
      intro y2 y3 H locs ls hP hD hS hl hf
      rw [f_X8_ones_L4] at hf
      refine lv_iload_n hx hb dX8_ones_4 rfl (lv_at hl 2 rfl) ?_
      refine lv_bipush (v := (10 : Int32)) hx hb dX8_ones_5 (by decide) ?_
      refine lv_icmp_ge (tgt := 24) hx hb dX8_ones_7 (by decide) (fun c4 => ?_) (fun c4 => ?_)
      · have hf := ip c4 hf
        refine lv_iload_n hx hb dX8_ones_24 rfl (lv_at hl 1 rfl) ?_
        cases hf
        subst hwE
        exact endI hx hb hr hlk hK hP hD hS rfl dX8_ones_25
      · have hf := iq c4 hf
        refine lv_iload_n hx hb dX8_ones_10 rfl (lv_at hl 1 rfl) ?_
        refine lv_iload_n hx hb dX8_ones_11 rfl (lv_at hl 0 rfl) ?_
        refine lv_iload_n hx hb dX8_ones_12 rfl (lv_at hl 2 rfl) ?_
        refine lv_ishr hx hb dX8_ones_13 ?_
        refine lv_iconst (v := (1 : Int32)) hx hb dX8_ones_14 (by decide) ?_
        refine lv_iand hx hb dX8_ones_15 ?_
        refine lv_iadd hx hb dX8_ones_16 ?_
        refine lv_istore_n (lv' := [(1, .int (y2 + ((x0 >>> (y3 &&& 31)) &&& (1 : Int32)))), (0, .int x0), (2, .int y3)]) hx hb dX8_ones_17 rfl hl (by decide) rfl (fun ls hl => ?_)
        refine lv_iinc (v := y3 + (1 : Int32)) (lv' := [(2, .int (y3 + (1 : Int32))), (1, .int (y2 + ((x0 >>> (y3 &&& 31)) &&& (1 : Int32)))), (0, .int x0)]) hx hb dX8_ones_18 hl (k := 2) rfl rfl (by decide) rfl (fun ls hl => ?_)
        refine lv_goto (tgt := 4) hx hb dX8_ones_21 (by decide) ?_
        exact ih (y2 + ((x0 >>> (y3 &&& 31)) &&& (1 : Int32))) (y3 + (1 : Int32)) _ _ _ hP hD hS (lv_sub hl [2, 1, 0] rfl) hf
  exact hL1 N (0 : Int32) (0 : Int32) _ _ _ hP hD hS (lv_sub hl [2, 1, 0] rfl) hf
-- X6_fallen
set_option maxRecDepth 20000 in
theorem in_X6_fallen_6 : ∀ w ∈ wsX60, w ∈ wsX6_fallen := by decide +kernel
set_option maxHeartbeats 4000000 in
set_option maxRecDepth 100000 in
theorem c_X6_fallen (l : Launch) (D : va_G) (cI cC : ClassId) (N sz : Nat) (q_t q_t_firsts q_t_counts q_t_taken : Nat) (v_t_size : Int32) (v_t_takesRight : Int32) (v_t_takesLeft : Int32) (r_t_taken : Nat → Int32) (r_t_firsts : Nat → Int32) (r_t_counts : Nat → Int32) (x1 : Int32) (x2 : Int32) (z0 : Int32) (hf : f_X6_fallen N v_t_size v_t_takesRight v_t_takesLeft r_t_taken r_t_firsts r_t_counts x1 x2 = some (z0)) : Ct l yX6_fallen wsX6_fallen ⟨0, 0, 0, 0⟩ [.ref q_t, .int x1, .int x2] D cI cC [(q_t, .inr (6, [.int v_t_size, .ref q_t_firsts, .ref q_t_counts, .ref q_t_taken, .int v_t_takesRight, .int v_t_takesLeft])), (q_t_taken, .inl (cI, 27, .inl r_t_taken)), (q_t_firsts, .inl (cI, 27, .inl r_t_firsts)), (q_t_counts, .inl (cI, 27, .inl r_t_counts))] sz (fun A => (QI D cI cC A [(q_t, .inr (6, [.int v_t_size, .ref q_t_firsts, .ref q_t_counts, .ref q_t_taken, .int v_t_takesRight, .int v_t_takesLeft])), (q_t_taken, .inl (cI, 27, .inl r_t_taken)), (q_t_firsts, .inl (cI, 27, .inl r_t_firsts)), (q_t_counts, .inl (cI, 27, .inl r_t_counts))] z0)) := by
  suffices h : ∀ wE : va_W, wE = [(q_t, .inr (6, [.int v_t_size, .ref q_t_firsts, .ref q_t_counts, .ref q_t_taken, .int v_t_takesRight, .int v_t_takesLeft])), (q_t_taken, .inl (cI, 27, .inl r_t_taken)), (q_t_firsts, .inl (cI, 27, .inl r_t_firsts)), (q_t_counts, .inl (cI, 27, .inl r_t_counts))] → Ct l yX6_fallen wsX6_fallen ⟨0, 0, 0, 0⟩ [.ref q_t, .int x1, .int x2] D cI cC [(q_t, .inr (6, [.int v_t_size, .ref q_t_firsts, .ref q_t_counts, .ref q_t_taken, .int v_t_takesRight, .int v_t_takesLeft])), (q_t_taken, .inl (cI, 27, .inl r_t_taken)), (q_t_firsts, .inl (cI, 27, .inl r_t_firsts)), (q_t_counts, .inl (cI, 27, .inl r_t_counts))] sz (fun A => (QI D cI cC A wE z0)) from h _ rfl
  intro wE hwE
  rw [f_X6_fallen] at hf
  refine Ct.beg cX6_fallen 6 (some .int) [(0, .ref q_t), (1, .int x1), (2, .int x2)] RX6 (by decide) rfl rfl (Nat.le_of_ble_eq_true rfl) rfl (fun p e s m below meth c A hx hb hr hts hown hlk hml hnm hK hP hD hS hA hG ls hl => ?_)
  refine lv_iload_n hx hb dX6_fallen_0 rfl (lv_at hl 1 rfl) ?_
  refine lv_if_lt (tgt := 29) hx hb dX6_fallen_1 (by decide) (fun c1 => ?_) (fun c1 => ?_)
  · have hf := ip c1 hf
    refine lv_iconst (v := (0 : Int32)) hx hb dX6_fallen_29 (by decide) ?_
    cases hf
    subst hwE
    exact endI hx hb hr hlk hK hP hD hS rfl dX6_fallen_30
  · have hf := iq c1 hf
    refine lv_iload_n hx hb dX6_fallen_4 rfl (lv_at hl 1 rfl) ?_
    refine lv_aload_n hx hb dX6_fallen_5 rfl (lv_at hl 0 rfl) ?_
    refine va_get (D := D) (ci := 6) (v := .int v_t_size) (C := RX6) (T := TX6) (N := 6) hx hb hts in_X6_fallen_6 hown hK hP 0 rfl rfl 0 (by decide) (hts (.fieldLink RX6 21 "PinLanes$Strikes" "size" "I") (by decide +kernel)) (fun _ h9 => h9) rfl dX6_fallen_6 ?_
    refine lv_icmp_ge (tgt := 29) hx hb dX6_fallen_9 (by decide) (fun c2 => ?_) (fun c2 => ?_)
    · have hf := ip c2 hf
      refine lv_iconst (v := (0 : Int32)) hx hb dX6_fallen_29 (by decide) ?_
      cases hf
      subst hwE
      exact endI hx hb hr hlk hK hP hD hS rfl dX6_fallen_30
    · have hf := iq c2 hf
      refine lv_iload_n hx hb dX6_fallen_12 rfl (lv_at hl 2 rfl) ?_
      refine lv_aload_n hx hb dX6_fallen_13 rfl (lv_at hl 0 rfl) ?_
      refine va_get (D := D) (ci := 6) (v := .ref q_t_taken) (C := RX6) (T := TX6) (N := 6) hx hb hts in_X6_fallen_6 hown hK hP 0 rfl rfl 3 (by decide) (hts (.fieldLink RX6 18 "PinLanes$Strikes" "taken" "[I") (by decide +kernel)) (fun _ h9 => h9) rfl dX6_fallen_14 ?_
      refine lv_iload_n hx hb dX6_fallen_17 rfl (lv_at hl 1 rfl) ?_
      obtain ⟨b3, hf⟩ := gd_e hf
      refine va_iald hx hb hK hP 1 0 rfl rfl (inb_in b3) dX6_fallen_18 ?_
      refine lv_iand hx hb dX6_fallen_19 ?_
      refine lv_aload_n hx hb dX6_fallen_20 rfl (lv_at hl 0 rfl) ?_
      refine va_get (D := D) (ci := 6) (v := .ref q_t_taken) (C := RX6) (T := TX6) (N := 6) hx hb hts in_X6_fallen_6 hown hK hP 0 rfl rfl 3 (by decide) (hts (.fieldLink RX6 18 "PinLanes$Strikes" "taken" "[I") (by decide +kernel)) (fun _ h9 => h9) rfl dX6_fallen_21 ?_
      refine lv_iload_n hx hb dX6_fallen_24 rfl (lv_at hl 1 rfl) ?_
      obtain ⟨b4, hf⟩ := gd_e hf
      refine va_iald hx hb hK hP 1 0 rfl rfl (inb_in b4) dX6_fallen_25 ?_
      refine lv_icmp_eq (tgt := 31) hx hb dX6_fallen_26 (by decide) (fun c5 => ?_) (fun c5 => ?_)
      · have hf := ip c5 hf
        refine lv_aload_n hx hb dX6_fallen_31 rfl (lv_at hl 0 rfl) ?_
        refine va_get (D := D) (ci := 6) (v := .ref q_t_taken) (C := RX6) (T := TX6) (N := 6) hx hb hts in_X6_fallen_6 hown hK hP 0 rfl rfl 3 (by decide) (hts (.fieldLink RX6 18 "PinLanes$Strikes" "taken" "[I") (by decide +kernel)) (fun _ h9 => h9) rfl dX6_fallen_32 ?_
        refine lv_iload_n hx hb dX6_fallen_35 rfl (lv_at hl 1 rfl) ?_
        obtain ⟨b6, hf⟩ := gd_e hf
        refine va_iald hx hb hK hP 1 0 rfl rfl (inb_in b6) dX6_fallen_36 ?_
        refine lv_istore_n (lv' := [(3, .int (r_t_taken x1.toNatClampNeg)), (0, .ref q_t), (1, .int x1), (2, .int x2)]) hx hb dX6_fallen_37 rfl hl (by decide) rfl (fun ls hl => ?_)
        refine lv_aload_n hx hb dX6_fallen_38 rfl (lv_at hl 1 rfl) ?_
        refine va_get (D := D) (ci := 6) (v := .ref q_t_firsts) (C := RX6) (T := TX6) (N := 6) hx hb hts in_X6_fallen_6 hown hK hP 0 rfl rfl 1 (by decide) (hts (.fieldLink RX6 11 "PinLanes$Strikes" "firsts" "[I") (by decide +kernel)) (fun _ h9 => h9) rfl dX6_fallen_39 ?_
        refine lv_iload_n hx hb dX6_fallen_42 rfl (lv_at hl 2 rfl) ?_
        obtain ⟨b7, hf⟩ := gd_e hf
        refine va_iald hx hb hK hP 2 0 rfl rfl (inb_in b7) dX6_fallen_43 ?_
        refine lv_aload_n hx hb dX6_fallen_44 rfl (lv_at hl 1 rfl) ?_
        refine va_get (D := D) (ci := 6) (v := .ref q_t_counts) (C := RX6) (T := TX6) (N := 6) hx hb hts in_X6_fallen_6 hown hK hP 0 rfl rfl 2 (by decide) (hts (.fieldLink RX6 15 "PinLanes$Strikes" "counts" "[I") (by decide +kernel)) (fun _ h9 => h9) rfl dX6_fallen_45 ?_
        refine lv_iload_n hx hb dX6_fallen_48 rfl (lv_at hl 2 rfl) ?_
        obtain ⟨b8, hf⟩ := gd_e hf
        refine va_iald hx hb hK hP 3 0 rfl rfl (inb_in b8) dX6_fallen_49 ?_
        refine lv_iadd hx hb dX6_fallen_50 ?_
        refine lv_iconst (v := (1 : Int32)) hx hb dX6_fallen_51 (by decide) ?_
        refine lv_isub hx hb dX6_fallen_52 ?_
        refine lv_istore (lv' := [(4, .int (((r_t_firsts x1.toNatClampNeg) + (r_t_counts x1.toNatClampNeg)) - (1 : Int32))), (3, .int (r_t_taken x1.toNatClampNeg)), (0, .ref q_t), (1, .int x1), (2, .int x2)]) hx hb dX6_fallen_53 hl (by decide) rfl (fun ls hl => ?_)
        have hL9 : ∀ (kk12 : Int32 → Option (Int32)), (∀ (y13 : Int32) (H : Heap) (locs : List Loc) (ls : Array Slot), va_P D vwCl [(q_t, .inr (6, [.int v_t_size, .ref q_t_firsts, .ref q_t_counts, .ref q_t_taken, .int v_t_takesRight, .int v_t_takesLeft])), (q_t_taken, .inl (cI, 27, .inl r_t_taken)), (q_t_firsts, .inl (cI, 27, .inl r_t_firsts)), (q_t_counts, .inl (cI, 27, .inl r_t_counts))] H → va_D A [(q_t, .inr (6, [.int v_t_size, .ref q_t_firsts, .ref q_t_counts, .ref q_t_taken, .int v_t_takesRight, .int v_t_takesLeft])), (q_t_taken, .inl (cI, 27, .inl r_t_taken)), (q_t_firsts, .inl (cI, 27, .inl r_t_firsts)), (q_t_counts, .inl (cI, 27, .inl r_t_counts))] → va_S A s.heap H locs → lv_has ls 6 [(0, .ref q_t), (1, .int x1), (2, .int x2), (3, .int y13)] → kk12 y13 = some (z0) → W p l e ⟨0, 0, 0, 0⟩ s m ([.ref q_t, .int x1, .int x2] : List Value).toArray below meth c H locs 0 0 (MQ below (QI D cI cC A wE z0) ([.ref q_t, .int x1, .int x2] : List Value).toArray s 0 0 A) (F0 m 97 ls [])) → ∀ (n : Nat) (y10 : Int32) (y11 : Int32) (H : Heap) (locs : List Loc) (ls : Array Slot), va_P D vwCl [(q_t, .inr (6, [.int v_t_size, .ref q_t_firsts, .ref q_t_counts, .ref q_t_taken, .int v_t_takesRight, .int v_t_takesLeft])), (q_t_taken, .inl (cI, 27, .inl r_t_taken)), (q_t_firsts, .inl (cI, 27, .inl r_t_firsts)), (q_t_counts, .inl (cI, 27, .inl r_t_counts))] H → va_D A [(q_t, .inr (6, [.int v_t_size, .ref q_t_firsts, .ref q_t_counts, .ref q_t_taken, .int v_t_takesRight, .int v_t_takesLeft])), (q_t_taken, .inl (cI, 27, .inl r_t_taken)), (q_t_firsts, .inl (cI, 27, .inl r_t_firsts)), (q_t_counts, .inl (cI, 27, .inl r_t_counts))] → va_S A s.heap H locs → lv_has ls 6 [(0, .ref q_t), (1, .int x1), (2, .int x2), (3, .int y10), (4, .int y11)] → f_X6_fallen_L55 N x2 v_t_takesRight kk12 n y10 y11 = some (z0) → W p l e ⟨0, 0, 0, 0⟩ s m ([.ref q_t, .int x1, .int x2] : List Value).toArray below meth c H locs 0 0 (MQ below (QI D cI cC A wE z0) ([.ref q_t, .int x1, .int x2] : List Value).toArray s 0 0 A) (F0 m 55 ls []) := by
          intro kk12 hk14 n
          induction n with
          | zero => intro y10 y11 H locs ls hP hD hS hl hf; rw [f_X6_fallen_L55] at hf; cases hf
          | succ n ih =>
            intro y10 y11 H locs ls hP hD hS hl hf
            rw [f_X6_fallen_L55] at hf
            refine lv_iload hx hb dX6_fallen_55 (lv_at hl 4 rfl) ?_
            refine lv_iconst (v := (1 : Int32)) hx hb dX6_fallen_57 (by decide) ?_
            refine lv_iadd hx hb dX6_fallen_58 ?_
            refine lv_bipush (v := (9 : Int32)) hx hb dX6_fallen_59 (by decide) ?_
            refine lv_icmp_ge (tgt := 97) hx hb dX6_fallen_61 (by decide) (fun c15 => ?_) (fun c15 => ?_)
            · have hf := ip c15 hf
              exact hk14 y10 _ _ _ hP hD hS (lv_sub hl [0, 1, 2, 3] rfl) hf
            · have hf := iq c15 hf
              refine lv_aload_n hx hb dX6_fallen_64 rfl (lv_at hl 0 rfl) ?_
              refine va_get (D := D) (ci := 6) (v := .int v_t_takesRight) (C := RX6) (T := TX6) (N := 6) hx hb hts in_X6_fallen_6 hown hK hP 0 rfl rfl 4 (by decide) (hts (.fieldLink RX6 25 "PinLanes$Strikes" "takesRight" "I") (by decide +kernel)) (fun _ h9 => h9) rfl dX6_fallen_65 ?_
              refine lv_iload hx hb dX6_fallen_68 (lv_at hl 4 rfl) ?_
              refine lv_ishr hx hb dX6_fallen_70 ?_
              refine lv_iload_n hx hb dX6_fallen_71 rfl (lv_at hl 2 rfl) ?_
              refine lv_iload hx hb dX6_fallen_72 (lv_at hl 4 rfl) ?_
              refine lv_iconst (v := (1 : Int32)) hx hb dX6_fallen_74 (by decide) ?_
              refine lv_iadd hx hb dX6_fallen_75 ?_
              refine lv_ishr hx hb dX6_fallen_76 ?_
              refine lv_iand hx hb dX6_fallen_77 ?_
              refine lv_iconst (v := (1 : Int32)) hx hb dX6_fallen_78 (by decide) ?_
              refine lv_iand hx hb dX6_fallen_79 ?_
              refine lv_iconst (v := (1 : Int32)) hx hb dX6_fallen_80 (by decide) ?_
              refine lv_icmp_ne (tgt := 97) hx hb dX6_fallen_81 (by decide) (fun c16 => ?_) (fun c16 => ?_)
              · have hf := iq c16 hf
                exact hk14 y10 _ _ _ hP hD hS (lv_sub hl [0, 1, 2, 3] rfl) hf
              · have hf := ip c16 hf
                refine lv_iinc (v := y11 + (1 : Int32)) (lv' := [(4, .int (y11 + (1 : Int32))), (0, .ref q_t), (1, .int x1), (2, .int x2), (3, .int y10)]) hx hb dX6_fallen_84 hl (k := 4) rfl rfl (by decide) rfl (fun ls hl => ?_)
                refine lv_iload_n hx hb dX6_fallen_87 rfl (lv_at hl 4 rfl) ?_
                refine lv_iconst (v := (1 : Int32)) hx hb dX6_fallen_88 (by decide) ?_
                refine lv_iload hx hb dX6_fallen_89 (lv_at hl 0 rfl) ?_
                refine lv_ishl hx hb dX6_fallen_91 ?_
                refine lv_ior hx hb dX6_fallen_92 ?_
                refine lv_istore_n (lv' := [(3, .int (y10 ||| ((1 : Int32) <<< ((y11 + (1 : Int32)) &&& 31)))), (4, .int (y11 + (1 : Int32))), (0, .ref q_t), (1, .int x1), (2, .int x2)]) hx hb dX6_fallen_93 rfl hl (by decide) rfl (fun ls hl => ?_)
                refine lv_goto (tgt := 55) hx hb dX6_fallen_94 (by decide) ?_
                exact ih (y10 ||| ((1 : Int32) <<< ((y11 + (1 : Int32)) &&& 31))) (y11 + (1 : Int32)) _ _ _ hP hD hS (lv_sub hl [2, 3, 4, 0, 1] rfl) hf
        refine hL9 _ (fun y13 H locs ls hP hD hS hl hf => ?_) N (r_t_taken x1.toNatClampNeg) (((r_t_firsts x1.toNatClampNeg) + (r_t_counts x1.toNatClampNeg)) - (1 : Int32)) _ _ _ hP hD hS (lv_sub hl [2, 3, 4, 1, 0] rfl) hf
        refine lv_aload_n hx hb dX6_fallen_97 rfl (lv_at hl 0 rfl) ?_
        refine va_get (D := D) (ci := 6) (v := .ref q_t_firsts) (C := RX6) (T := TX6) (N := 6) hx hb hts in_X6_fallen_6 hown hK hP 0 rfl rfl 1 (by decide) (hts (.fieldLink RX6 11 "PinLanes$Strikes" "firsts" "[I") (by decide +kernel)) (fun _ h9 => h9) rfl dX6_fallen_98 ?_
        refine lv_iload_n hx hb dX6_fallen_101 rfl (lv_at hl 1 rfl) ?_
        obtain ⟨b17, hf⟩ := gd_e hf
        refine va_iald hx hb hK hP 2 0 rfl rfl (inb_in b17) dX6_fallen_102 ?_
        refine lv_istore (lv' := [(5, .int (r_t_firsts x1.toNatClampNeg)), (0, .ref q_t), (1, .int x1), (2, .int x2), (3, .int y13)]) hx hb dX6_fallen_103 hl (by decide) rfl (fun ls hl => ?_)
        have hL18 : ∀ (n : Nat) (y19 : Int32) (y20 : Int32) (H : Heap) (locs : List Loc) (ls : Array Slot), va_P D vwCl [(q_t, .inr (6, [.int v_t_size, .ref q_t_firsts, .ref q_t_counts, .ref q_t_taken, .int v_t_takesRight, .int v_t_takesLeft])), (q_t_taken, .inl (cI, 27, .inl r_t_taken)), (q_t_firsts, .inl (cI, 27, .inl r_t_firsts)), (q_t_counts, .inl (cI, 27, .inl r_t_counts))] H → va_D A [(q_t, .inr (6, [.int v_t_size, .ref q_t_firsts, .ref q_t_counts, .ref q_t_taken, .int v_t_takesRight, .int v_t_takesLeft])), (q_t_taken, .inl (cI, 27, .inl r_t_taken)), (q_t_firsts, .inl (cI, 27, .inl r_t_firsts)), (q_t_counts, .inl (cI, 27, .inl r_t_counts))] → va_S A s.heap H locs → lv_has ls 6 [(0, .ref q_t), (2, .int x2), (3, .int y19), (5, .int y20)] → f_X6_fallen_L105 N x2 v_t_takesLeft n y19 y20 = some (z0) → W p l e ⟨0, 0, 0, 0⟩ s m ([.ref q_t, .int x1, .int x2] : List Value).toArray below meth c H locs 0 0 (MQ below (QI D cI cC A wE z0) ([.ref q_t, .int x1, .int x2] : List Value).toArray s 0 0 A) (F0 m 105 ls []) := by
          intro n
          induction n with
          | zero => intro y19 y20 H locs ls hP hD hS hl hf; rw [f_X6_fallen_L105] at hf; cases hf
          | succ n ih =>
            intro y19 y20 H locs ls hP hD hS hl hf
            rw [f_X6_fallen_L105] at hf
            refine lv_iload hx hb dX6_fallen_105 (lv_at hl 3 rfl) ?_
            refine lv_if_le (tgt := 143) hx hb dX6_fallen_107 (by decide) (fun c21 => ?_) (fun c21 => ?_)
            · have hf := ip c21 hf
              refine lv_iload_n hx hb dX6_fallen_143 rfl (lv_at hl 2 rfl) ?_
              cases hf
              subst hwE
              exact endI hx hb hr hlk hK hP hD hS rfl dX6_fallen_144
            · have hf := iq c21 hf
              refine lv_aload_n hx hb dX6_fallen_110 rfl (lv_at hl 0 rfl) ?_
              refine va_get (D := D) (ci := 6) (v := .int v_t_takesLeft) (C := RX6) (T := TX6) (N := 6) hx hb hts in_X6_fallen_6 hown hK hP 0 rfl rfl 5 (by decide) (hts (.fieldLink RX6 28 "PinLanes$Strikes" "takesLeft" "I") (by decide +kernel)) (fun _ h9 => h9) rfl dX6_fallen_111 ?_
              refine lv_iload hx hb dX6_fallen_114 (lv_at hl 3 rfl) ?_
              refine lv_ishr hx hb dX6_fallen_116 ?_
              refine lv_iload_n hx hb dX6_fallen_117 rfl (lv_at hl 1 rfl) ?_
              refine lv_iload hx hb dX6_fallen_118 (lv_at hl 3 rfl) ?_
              refine lv_iconst (v := (1 : Int32)) hx hb dX6_fallen_120 (by decide) ?_
              refine lv_isub hx hb dX6_fallen_121 ?_
              refine lv_ishr hx hb dX6_fallen_122 ?_
              refine lv_iand hx hb dX6_fallen_123 ?_
              refine lv_iconst (v := (1 : Int32)) hx hb dX6_fallen_124 (by decide) ?_
              refine lv_iand hx hb dX6_fallen_125 ?_
              refine lv_iconst (v := (1 : Int32)) hx hb dX6_fallen_126 (by decide) ?_
              refine lv_icmp_ne (tgt := 143) hx hb dX6_fallen_127 (by decide) (fun c22 => ?_) (fun c22 => ?_)
              · have hf := iq c22 hf
                refine lv_iload_n hx hb dX6_fallen_143 rfl (lv_at hl 2 rfl) ?_
                cases hf
                subst hwE
                exact endI hx hb hr hlk hK hP hD hS rfl dX6_fallen_144
              · have hf := ip c22 hf
                refine lv_iinc (v := y20 + (-1 : Int32)) (lv' := [(5, .int (y20 + (-1 : Int32))), (0, .ref q_t), (2, .int x2), (3, .int y19)]) hx hb dX6_fallen_130 hl (k := 3) rfl rfl (by decide) rfl (fun ls hl => ?_)
                refine lv_iload_n hx hb dX6_fallen_133 rfl (lv_at hl 3 rfl) ?_
                refine lv_iconst (v := (1 : Int32)) hx hb dX6_fallen_134 (by decide) ?_
                refine lv_iload hx hb dX6_fallen_135 (lv_at hl 0 rfl) ?_
                refine lv_ishl hx hb dX6_fallen_137 ?_
                refine lv_ior hx hb dX6_fallen_138 ?_
                refine lv_istore_n (lv' := [(3, .int (y19 ||| ((1 : Int32) <<< ((y20 + (-1 : Int32)) &&& 31)))), (5, .int (y20 + (-1 : Int32))), (0, .ref q_t), (2, .int x2)]) hx hb dX6_fallen_139 rfl hl (by decide) rfl (fun ls hl => ?_)
                refine lv_goto (tgt := 105) hx hb dX6_fallen_140 (by decide) ?_
                exact ih (y19 ||| ((1 : Int32) <<< ((y20 + (-1 : Int32)) &&& 31))) (y20 + (-1 : Int32)) _ _ _ hP hD hS (lv_sub hl [2, 3, 0, 1] rfl) hf
        exact hL18 N y13 (r_t_firsts x1.toNatClampNeg) _ _ _ hP hD hS (lv_sub hl [1, 3, 4, 0] rfl) hf
      · have hf := iq c5 hf
        refine lv_iconst (v := (0 : Int32)) hx hb dX6_fallen_29 (by decide) ?_
        cases hf
        subst hwE
        exact endI hx hb hr hlk hK hP hD hS rfl dX6_fallen_30
-- X8_canBe
set_option maxRecDepth 20000 in
theorem in_X8_canBe_8 : ∀ w ∈ wsX80, w ∈ wsX8_canBe := by decide +kernel
set_option maxHeartbeats 4000000 in
set_option maxRecDepth 100000 in
theorem c_X8_canBe (l : Launch) (D : va_G) (cI cC : ClassId) (N sz : Nat) (q_t q_t_page q_t_readKinds q_t_readOf q_t_kinds q_t_laneOf q_t_numbers q_t_rows q_t_winning q_t_shortest q_t_longest q_t_chances q_t_sights q_t_keptKinds q_t_keptSights : Nat) (v_t_pageMany : Int32) (v_t_readPins : Int32) (v_t_readLanes : Int32) (v_t_readHere : Int32) (v_t_readBehind : Int32) (v_t_pins : Int32) (v_t_lanes : Int32) (v_t_standing : Int32) (v_t_most : Int32) (v_t_law : Int32) (v_t_strikes : Int32) (v_t_greensRead : Int32) (v_t_seenMany : Int32) (v_t_seedNow : Int32) (v_t_keptGreen : Int32) (v_t_keptStanding : Int32) (v_t_keptMost : Int32) (v_t_keptLaw : Int32) (v_t_keptStrikes : Int32) (v_t_keptSeen : Int32) (v_t_hash : Int64) (r_t_laneOf : Nat → Int32) (r_t_kinds : Nat → Int32) (x1 : Int32) (x2 : Int32) (x3 : Int32) (z0 : Int32) (hf : f_X8_canBe N v_t_pins v_t_most r_t_laneOf r_t_kinds x1 x2 x3 = some (z0)) : Ct l yX8_canBe wsX8_canBe ⟨0, 0, 0, 0⟩ [.ref q_t, .int x1, .int x2, .int x3] D cI cC [(q_t, .inr (8, [.ref q_t_page, .int v_t_pageMany, .int v_t_readPins, .int v_t_readLanes, .int v_t_readHere, .int v_t_readBehind, .ref q_t_readKinds, .ref q_t_readOf, .int v_t_pins, .int v_t_lanes, .int v_t_standing, .int v_t_most, .int v_t_law, .int v_t_strikes, .int v_t_greensRead, .ref q_t_kinds, .ref q_t_laneOf, .ref q_t_numbers, .ref q_t_rows, .ref q_t_winning, .ref q_t_shortest, .ref q_t_longest, .ref q_t_chances, .int v_t_seenMany, .ref q_t_sights, .int v_t_seedNow, .int v_t_keptGreen, .int v_t_keptStanding, .int v_t_keptMost, .int v_t_keptLaw, .int v_t_keptStrikes, .int v_t_keptSeen, .ref q_t_keptKinds, .ref q_t_keptSights, .long v_t_hash])), (q_t_laneOf, .inl (cI, 9, .inl r_t_laneOf)), (q_t_kinds, .inl (cI, 9, .inl r_t_kinds))] sz (fun A => (QI D cI cC A [(q_t, .inr (8, [.ref q_t_page, .int v_t_pageMany, .int v_t_readPins, .int v_t_readLanes, .int v_t_readHere, .int v_t_readBehind, .ref q_t_readKinds, .ref q_t_readOf, .int v_t_pins, .int v_t_lanes, .int v_t_standing, .int v_t_most, .int v_t_law, .int v_t_strikes, .int v_t_greensRead, .ref q_t_kinds, .ref q_t_laneOf, .ref q_t_numbers, .ref q_t_rows, .ref q_t_winning, .ref q_t_shortest, .ref q_t_longest, .ref q_t_chances, .int v_t_seenMany, .ref q_t_sights, .int v_t_seedNow, .int v_t_keptGreen, .int v_t_keptStanding, .int v_t_keptMost, .int v_t_keptLaw, .int v_t_keptStrikes, .int v_t_keptSeen, .ref q_t_keptKinds, .ref q_t_keptSights, .long v_t_hash])), (q_t_laneOf, .inl (cI, 9, .inl r_t_laneOf)), (q_t_kinds, .inl (cI, 9, .inl r_t_kinds))] z0)) := by
  suffices h : ∀ wE : va_W, wE = [(q_t, .inr (8, [.ref q_t_page, .int v_t_pageMany, .int v_t_readPins, .int v_t_readLanes, .int v_t_readHere, .int v_t_readBehind, .ref q_t_readKinds, .ref q_t_readOf, .int v_t_pins, .int v_t_lanes, .int v_t_standing, .int v_t_most, .int v_t_law, .int v_t_strikes, .int v_t_greensRead, .ref q_t_kinds, .ref q_t_laneOf, .ref q_t_numbers, .ref q_t_rows, .ref q_t_winning, .ref q_t_shortest, .ref q_t_longest, .ref q_t_chances, .int v_t_seenMany, .ref q_t_sights, .int v_t_seedNow, .int v_t_keptGreen, .int v_t_keptStanding, .int v_t_keptMost, .int v_t_keptLaw, .int v_t_keptStrikes, .int v_t_keptSeen, .ref q_t_keptKinds, .ref q_t_keptSights, .long v_t_hash])), (q_t_laneOf, .inl (cI, 9, .inl r_t_laneOf)), (q_t_kinds, .inl (cI, 9, .inl r_t_kinds))] → Ct l yX8_canBe wsX8_canBe ⟨0, 0, 0, 0⟩ [.ref q_t, .int x1, .int x2, .int x3] D cI cC [(q_t, .inr (8, [.ref q_t_page, .int v_t_pageMany, .int v_t_readPins, .int v_t_readLanes, .int v_t_readHere, .int v_t_readBehind, .ref q_t_readKinds, .ref q_t_readOf, .int v_t_pins, .int v_t_lanes, .int v_t_standing, .int v_t_most, .int v_t_law, .int v_t_strikes, .int v_t_greensRead, .ref q_t_kinds, .ref q_t_laneOf, .ref q_t_numbers, .ref q_t_rows, .ref q_t_winning, .ref q_t_shortest, .ref q_t_longest, .ref q_t_chances, .int v_t_seenMany, .ref q_t_sights, .int v_t_seedNow, .int v_t_keptGreen, .int v_t_keptStanding, .int v_t_keptMost, .int v_t_keptLaw, .int v_t_keptStrikes, .int v_t_keptSeen, .ref q_t_keptKinds, .ref q_t_keptSights, .long v_t_hash])), (q_t_laneOf, .inl (cI, 9, .inl r_t_laneOf)), (q_t_kinds, .inl (cI, 9, .inl r_t_kinds))] sz (fun A => (QI D cI cC A wE z0)) from h _ rfl
  intro wE hwE
  rw [f_X8_canBe] at hf
  refine Ct.beg cX8_canBe 6 (some .boolean) [(0, .ref q_t), (1, .int x1), (2, .int x2), (3, .int x3)] RX8 (by decide) rfl rfl (Nat.le_of_ble_eq_true rfl) rfl (fun p e s m below meth c A hx hb hr hts hown hlk hml hnm hK hP hD hS hA hG ls hl => ?_)
  refine lv_iload_n hx hb dX8_canBe_0 rfl (lv_at hl 3 rfl) ?_
  refine lv_aload_n hx hb dX8_canBe_1 rfl (lv_at hl 0 rfl) ?_
  refine va_get (D := D) (ci := 8) (v := .int v_t_most) (C := RX8) (T := TX8) (N := 35) hx hb hts in_X8_canBe_8 hown hK hP 0 rfl rfl 11 (by decide) (hts (.fieldLink RX8 106 "PinLanesModel" "most" "I") (by decide +kernel)) (fun _ h9 => h9) rfl dX8_canBe_2 ?_
  obtain ⟨j2, ej2, hf⟩ := jm_e hf
  have hj2 : ∀ (y1 : Int32) (H : Heap) (locs : List Loc) (ls : Array Slot), va_P D vwCl [(q_t, .inr (8, [.ref q_t_page, .int v_t_pageMany, .int v_t_readPins, .int v_t_readLanes, .int v_t_readHere, .int v_t_readBehind, .ref q_t_readKinds, .ref q_t_readOf, .int v_t_pins, .int v_t_lanes, .int v_t_standing, .int v_t_most, .int v_t_law, .int v_t_strikes, .int v_t_greensRead, .ref q_t_kinds, .ref q_t_laneOf, .ref q_t_numbers, .ref q_t_rows, .ref q_t_winning, .ref q_t_shortest, .ref q_t_longest, .ref q_t_chances, .int v_t_seenMany, .ref q_t_sights, .int v_t_seedNow, .int v_t_keptGreen, .int v_t_keptStanding, .int v_t_keptMost, .int v_t_keptLaw, .int v_t_keptStrikes, .int v_t_keptSeen, .ref q_t_keptKinds, .ref q_t_keptSights, .long v_t_hash])), (q_t_laneOf, .inl (cI, 9, .inl r_t_laneOf)), (q_t_kinds, .inl (cI, 9, .inl r_t_kinds))] H → va_D A [(q_t, .inr (8, [.ref q_t_page, .int v_t_pageMany, .int v_t_readPins, .int v_t_readLanes, .int v_t_readHere, .int v_t_readBehind, .ref q_t_readKinds, .ref q_t_readOf, .int v_t_pins, .int v_t_lanes, .int v_t_standing, .int v_t_most, .int v_t_law, .int v_t_strikes, .int v_t_greensRead, .ref q_t_kinds, .ref q_t_laneOf, .ref q_t_numbers, .ref q_t_rows, .ref q_t_winning, .ref q_t_shortest, .ref q_t_longest, .ref q_t_chances, .int v_t_seenMany, .ref q_t_sights, .int v_t_seedNow, .int v_t_keptGreen, .int v_t_keptStanding, .int v_t_keptMost, .int v_t_keptLaw, .int v_t_keptStrikes, .int v_t_keptSeen, .ref q_t_keptKinds, .ref q_t_keptSights, .long v_t_hash])), (q_t_laneOf, .inl (cI, 9, .inl r_t_laneOf)), (q_t_kinds, .inl (cI, 9, .inl r_t_kinds))] → va_S A s.heap H locs → lv_has ls 6 [(0, .ref q_t), (1, .int x1), (2, .int x2), (3, .int x3)] → j2 y1 = some (z0) → W p l e ⟨0, 0, 0, 0⟩ s m ([.ref q_t, .int x1, .int x2, .int x3] : List Value).toArray below meth c H locs 0 0 (MQ below (QI D cI cC A wE z0) ([.ref q_t, .int x1, .int x2, .int x3] : List Value).toArray s 0 0 A) (F0 m 23 ls [.int y1]) := by
    intro y1 H locs ls hP hD hS hl hf
    rw [ej2] at hf
    refine lv_istore (lv' := [(4, .int y1), (0, .ref q_t), (1, .int x1), (2, .int x2), (3, .int x3)]) hx hb dX8_canBe_23 hl (by decide) rfl (fun ls hl => ?_)
    refine lv_iload_n hx hb dX8_canBe_25 rfl (lv_at hl 3 rfl) ?_
    refine lv_istore (lv' := [(5, .int x2), (4, .int y1), (0, .ref q_t), (1, .int x1), (2, .int x2), (3, .int x3)]) hx hb dX8_canBe_26 hl (by decide) rfl (fun ls hl => ?_)
    have hL3 : ∀ (n : Nat) (y4 : Int32) (y5 : Int32) (H : Heap) (locs : List Loc) (ls : Array Slot), va_P D vwCl [(q_t, .inr (8, [.ref q_t_page, .int v_t_pageMany, .int v_t_readPins, .int v_t_readLanes, .int v_t_readHere, .int v_t_readBehind, .ref q_t_readKinds, .ref q_t_readOf, .int v_t_pins, .int v_t_lanes, .int v_t_standing, .int v_t_most, .int v_t_law, .int v_t_strikes, .int v_t_greensRead, .ref q_t_kinds, .ref q_t_laneOf, .ref q_t_numbers, .ref q_t_rows, .ref q_t_winning, .ref q_t_shortest, .ref q_t_longest, .ref q_t_chances, .int v_t_seenMany, .ref q_t_sights, .int v_t_seedNow, .int v_t_keptGreen, .int v_t_keptStanding, .int v_t_keptMost, .int v_t_keptLaw, .int v_t_keptStrikes, .int v_t_keptSeen, .ref q_t_keptKinds, .ref q_t_keptSights, .long v_t_hash])), (q_t_laneOf, .inl (cI, 9, .inl r_t_laneOf)), (q_t_kinds, .inl (cI, 9, .inl r_t_kinds))] H → va_D A [(q_t, .inr (8, [.ref q_t_page, .int v_t_pageMany, .int v_t_readPins, .int v_t_readLanes, .int v_t_readHere, .int v_t_readBehind, .ref q_t_readKinds, .ref q_t_readOf, .int v_t_pins, .int v_t_lanes, .int v_t_standing, .int v_t_most, .int v_t_law, .int v_t_strikes, .int v_t_greensRead, .ref q_t_kinds, .ref q_t_laneOf, .ref q_t_numbers, .ref q_t_rows, .ref q_t_winning, .ref q_t_shortest, .ref q_t_longest, .ref q_t_chances, .int v_t_seenMany, .ref q_t_sights, .int v_t_seedNow, .int v_t_keptGreen, .int v_t_keptStanding, .int v_t_keptMost, .int v_t_keptLaw, .int v_t_keptStrikes, .int v_t_keptSeen, .ref q_t_keptKinds, .ref q_t_keptSights, .long v_t_hash])), (q_t_laneOf, .inl (cI, 9, .inl r_t_laneOf)), (q_t_kinds, .inl (cI, 9, .inl r_t_kinds))] → va_S A s.heap H locs → lv_has ls 6 [(0, .ref q_t), (1, .int x1), (2, .int x2), (3, .int x3), (4, .int y4), (5, .int y5)] → f_X8_canBe_L28 N x1 x2 x3 r_t_laneOf r_t_kinds n y4 y5 = some (z0) → W p l e ⟨0, 0, 0, 0⟩ s m ([.ref q_t, .int x1, .int x2, .int x3] : List Value).toArray below meth c H locs 0 0 (MQ below (QI D cI cC A wE z0) ([.ref q_t, .int x1, .int x2, .int x3] : List Value).toArray s 0 0 A) (F0 m 28 ls []) := by
      intro n
      induction n with
      | zero => intro y4 y5 H locs ls hP hD hS hl hf; rw [f_X8_canBe_L28] at hf; cases hf
      | succ n ih =>
        intro y4 y5 H locs ls hP hD hS hl hf
        rw [f_X8_canBe_L28] at hf
        refine lv_iload hx hb dX8_canBe_28 (lv_at hl 5 rfl) ?_
        refine lv_iload_n hx hb dX8_canBe_30 rfl (lv_at hl 2 rfl) ?_
        refine lv_iload_n hx hb dX8_canBe_31 rfl (lv_at hl 3 rfl) ?_
        refine lv_iadd hx hb dX8_canBe_32 ?_
        refine lv_icmp_ge (tgt := 107) hx hb dX8_canBe_33 (by decide) (fun c6 => ?_) (fun c6 => ?_)
        · have hf := ip c6 hf
          refine lv_iload hx hb dX8_canBe_107 (lv_at hl 4 rfl) ?_
          obtain ⟨b7, hf⟩ := gd_e hf
          cases hf
          subst hwE
          exact endZ hx hb hr (bz_n b7) hlk hK hP hD hS rfl dX8_canBe_109
        · have hf := iq c6 hf
          refine lv_iload hx hb dX8_canBe_36 (lv_at hl 4 rfl) ?_
          refine lv_if_eq (tgt := 107) hx hb dX8_canBe_38 (by decide) (fun c8 => ?_) (fun c8 => ?_)
          · have hf := ip c8 hf
            refine lv_iload hx hb dX8_canBe_107 (lv_at hl 4 rfl) ?_
            obtain ⟨b9, hf⟩ := gd_e hf
            cases hf
            subst hwE
            exact endZ hx hb hr (bz_n b9) hlk hK hP hD hS rfl dX8_canBe_109
          · have hf := iq c8 hf
            refine lv_iload_n hx hb dX8_canBe_41 rfl (lv_at hl 1 rfl) ?_
            refine lv_iload hx hb dX8_canBe_42 (lv_at hl 5 rfl) ?_
            refine lv_ishr hx hb dX8_canBe_44 ?_
            refine lv_iconst (v := (1 : Int32)) hx hb dX8_canBe_45 (by decide) ?_
            refine lv_iand hx hb dX8_canBe_46 ?_
            refine lv_iconst (v := (1 : Int32)) hx hb dX8_canBe_47 (by decide) ?_
            obtain ⟨j11, ej11, hf⟩ := jm_e hf
            have hj11 : ∀ (y10 : Int32) (H : Heap) (locs : List Loc) (ls : Array Slot), va_P D vwCl [(q_t, .inr (8, [.ref q_t_page, .int v_t_pageMany, .int v_t_readPins, .int v_t_readLanes, .int v_t_readHere, .int v_t_readBehind, .ref q_t_readKinds, .ref q_t_readOf, .int v_t_pins, .int v_t_lanes, .int v_t_standing, .int v_t_most, .int v_t_law, .int v_t_strikes, .int v_t_greensRead, .ref q_t_kinds, .ref q_t_laneOf, .ref q_t_numbers, .ref q_t_rows, .ref q_t_winning, .ref q_t_shortest, .ref q_t_longest, .ref q_t_chances, .int v_t_seenMany, .ref q_t_sights, .int v_t_seedNow, .int v_t_keptGreen, .int v_t_keptStanding, .int v_t_keptMost, .int v_t_keptLaw, .int v_t_keptStrikes, .int v_t_keptSeen, .ref q_t_keptKinds, .ref q_t_keptSights, .long v_t_hash])), (q_t_laneOf, .inl (cI, 9, .inl r_t_laneOf)), (q_t_kinds, .inl (cI, 9, .inl r_t_kinds))] H → va_D A [(q_t, .inr (8, [.ref q_t_page, .int v_t_pageMany, .int v_t_readPins, .int v_t_readLanes, .int v_t_readHere, .int v_t_readBehind, .ref q_t_readKinds, .ref q_t_readOf, .int v_t_pins, .int v_t_lanes, .int v_t_standing, .int v_t_most, .int v_t_law, .int v_t_strikes, .int v_t_greensRead, .ref q_t_kinds, .ref q_t_laneOf, .ref q_t_numbers, .ref q_t_rows, .ref q_t_winning, .ref q_t_shortest, .ref q_t_longest, .ref q_t_chances, .int v_t_seenMany, .ref q_t_sights, .int v_t_seedNow, .int v_t_keptGreen, .int v_t_keptStanding, .int v_t_keptMost, .int v_t_keptLaw, .int v_t_keptStrikes, .int v_t_keptSeen, .ref q_t_keptKinds, .ref q_t_keptSights, .long v_t_hash])), (q_t_laneOf, .inl (cI, 9, .inl r_t_laneOf)), (q_t_kinds, .inl (cI, 9, .inl r_t_kinds))] → va_S A s.heap H locs → lv_has ls 6 [(0, .ref q_t), (1, .int x1), (2, .int x2), (3, .int x3), (5, .int y5)] → j11 y10 = some (z0) → W p l e ⟨0, 0, 0, 0⟩ s m ([.ref q_t, .int x1, .int x2, .int x3] : List Value).toArray below meth c H locs 0 0 (MQ below (QI D cI cC A wE z0) ([.ref q_t, .int x1, .int x2, .int x3] : List Value).toArray s 0 0 A) (F0 m 99 ls [.int y10]) := by
              intro y10 H locs ls hP hD hS hl hf
              rw [ej11] at hf
              refine lv_istore (lv' := [(4, .int y10), (0, .ref q_t), (1, .int x1), (2, .int x2), (3, .int x3), (5, .int y5)]) hx hb dX8_canBe_99 hl (by decide) rfl (fun ls hl => ?_)
              refine lv_iinc (v := y5 + (1 : Int32)) (lv' := [(5, .int (y5 + (1 : Int32))), (4, .int y10), (0, .ref q_t), (1, .int x1), (2, .int x2), (3, .int x3)]) hx hb dX8_canBe_101 hl (k := 5) rfl rfl (by decide) rfl (fun ls hl => ?_)
              refine lv_goto (tgt := 28) hx hb dX8_canBe_104 (by decide) ?_
              exact ih y10 (y5 + (1 : Int32)) _ _ _ hP hD hS (lv_sub hl [2, 3, 4, 5, 1, 0] rfl) hf
            obtain ⟨j12, ej12, hf⟩ := jm_e hf
            have hj12 : ∀ (u0 : Unit) (H : Heap) (locs : List Loc) (ls : Array Slot), va_P D vwCl [(q_t, .inr (8, [.ref q_t_page, .int v_t_pageMany, .int v_t_readPins, .int v_t_readLanes, .int v_t_readHere, .int v_t_readBehind, .ref q_t_readKinds, .ref q_t_readOf, .int v_t_pins, .int v_t_lanes, .int v_t_standing, .int v_t_most, .int v_t_law, .int v_t_strikes, .int v_t_greensRead, .ref q_t_kinds, .ref q_t_laneOf, .ref q_t_numbers, .ref q_t_rows, .ref q_t_winning, .ref q_t_shortest, .ref q_t_longest, .ref q_t_chances, .int v_t_seenMany, .ref q_t_sights, .int v_t_seedNow, .int v_t_keptGreen, .int v_t_keptStanding, .int v_t_keptMost, .int v_t_keptLaw, .int v_t_keptStrikes, .int v_t_keptSeen, .ref q_t_keptKinds, .ref q_t_keptSights, .long v_t_hash])), (q_t_laneOf, .inl (cI, 9, .inl r_t_laneOf)), (q_t_kinds, .inl (cI, 9, .inl r_t_kinds))] H → va_D A [(q_t, .inr (8, [.ref q_t_page, .int v_t_pageMany, .int v_t_readPins, .int v_t_readLanes, .int v_t_readHere, .int v_t_readBehind, .ref q_t_readKinds, .ref q_t_readOf, .int v_t_pins, .int v_t_lanes, .int v_t_standing, .int v_t_most, .int v_t_law, .int v_t_strikes, .int v_t_greensRead, .ref q_t_kinds, .ref q_t_laneOf, .ref q_t_numbers, .ref q_t_rows, .ref q_t_winning, .ref q_t_shortest, .ref q_t_longest, .ref q_t_chances, .int v_t_seenMany, .ref q_t_sights, .int v_t_seedNow, .int v_t_keptGreen, .int v_t_keptStanding, .int v_t_keptMost, .int v_t_keptLaw, .int v_t_keptStrikes, .int v_t_keptSeen, .ref q_t_keptKinds, .ref q_t_keptSights, .long v_t_hash])), (q_t_laneOf, .inl (cI, 9, .inl r_t_laneOf)), (q_t_kinds, .inl (cI, 9, .inl r_t_kinds))] → va_S A s.heap H locs → lv_has ls 6 [(0, .ref q_t), (1, .int x1), (2, .int x2), (3, .int x3), (5, .int y5)] → j12 u0 = some (z0) → W p l e ⟨0, 0, 0, 0⟩ s m ([.ref q_t, .int x1, .int x2, .int x3] : List Value).toArray below meth c H locs 0 0 (MQ below (QI D cI cC A wE z0) ([.ref q_t, .int x1, .int x2, .int x3] : List Value).toArray s 0 0 A) (F0 m 98 ls []) := by
              intro u0 H locs ls hP hD hS hl hf
              rw [ej12] at hf
              refine lv_iconst (v := (0 : Int32)) hx hb dX8_canBe_98 (by decide) ?_
              exact hj11 (0 : Int32) _ _ _ hP hD hS (lv_sub hl [0, 1, 2, 3, 4] rfl) hf
            refine lv_icmp_ne (tgt := 98) hx hb dX8_canBe_48 (by decide) (fun c13 => ?_) (fun c13 => ?_)
            · have hf := iq c13 hf
              exact hj12 () _ _ _ hP hD hS (lv_sub hl [0, 1, 2, 3, 5] rfl) hf
            · have hf := ip c13 hf
              refine lv_aload_n hx hb dX8_canBe_51 rfl (lv_at hl 0 rfl) ?_
              refine va_get (D := D) (ci := 8) (v := .ref q_t_laneOf) (C := RX8) (T := TX8) (N := 35) hx hb hts in_X8_canBe_8 hown hK hP 0 rfl rfl 16 (by decide) (hts (.fieldLink RX8 22 "PinLanesModel" "laneOf" "[I") (by decide +kernel)) (fun _ h9 => h9) rfl dX8_canBe_52 ?_
              refine lv_iload hx hb dX8_canBe_55 (lv_at hl 5 rfl) ?_
              obtain ⟨b14, hf⟩ := gd_e hf
              refine va_iald hx hb hK hP 1 0 rfl rfl (inb_in b14) dX8_canBe_57 ?_
              refine lv_aload_n hx hb dX8_canBe_58 rfl (lv_at hl 0 rfl) ?_
              refine va_get (D := D) (ci := 8) (v := .ref q_t_laneOf) (C := RX8) (T := TX8) (N := 35) hx hb hts in_X8_canBe_8 hown hK hP 0 rfl rfl 16 (by decide) (hts (.fieldLink RX8 22 "PinLanesModel" "laneOf" "[I") (by decide +kernel)) (fun _ h9 => h9) rfl dX8_canBe_59 ?_
              refine lv_iload_n hx hb dX8_canBe_62 rfl (lv_at hl 2 rfl) ?_
              obtain ⟨b15, hf⟩ := gd_e hf
              refine va_iald hx hb hK hP 1 0 rfl rfl (inb_in b15) dX8_canBe_63 ?_
              refine lv_icmp_ne (tgt := 98) hx hb dX8_canBe_64 (by decide) (fun c16 => ?_) (fun c16 => ?_)
              · have hf := iq c16 hf
                exact hj12 () _ _ _ hP hD hS (lv_sub hl [0, 1, 2, 3, 5] rfl) hf
              · have hf := ip c16 hf
                refine lv_aload_n hx hb dX8_canBe_67 rfl (lv_at hl 0 rfl) ?_
                refine va_get (D := D) (ci := 8) (v := .ref q_t_kinds) (C := RX8) (T := TX8) (N := 35) hx hb hts in_X8_canBe_8 hown hK hP 0 rfl rfl 15 (by decide) (hts (.fieldLink RX8 19 "PinLanesModel" "kinds" "[I") (by decide +kernel)) (fun _ h9 => h9) rfl dX8_canBe_68 ?_
                refine lv_iload hx hb dX8_canBe_71 (lv_at hl 5 rfl) ?_
                obtain ⟨b17, hf⟩ := gd_e hf
                refine va_iald hx hb hK hP 2 0 rfl rfl (inb_in b17) dX8_canBe_73 ?_
                refine lv_iconst (v := (3 : Int32)) hx hb dX8_canBe_74 (by decide) ?_
                refine lv_icmp_eq (tgt := 98) hx hb dX8_canBe_75 (by decide) (fun c18 => ?_) (fun c18 => ?_)
                · have hf := ip c18 hf
                  exact hj12 () _ _ _ hP hD hS (lv_sub hl [0, 1, 2, 3, 5] rfl) hf
                · have hf := iq c18 hf
                  refine lv_aload_n hx hb dX8_canBe_78 rfl (lv_at hl 0 rfl) ?_
                  refine va_get (D := D) (ci := 8) (v := .ref q_t_kinds) (C := RX8) (T := TX8) (N := 35) hx hb hts in_X8_canBe_8 hown hK hP 0 rfl rfl 15 (by decide) (hts (.fieldLink RX8 19 "PinLanesModel" "kinds" "[I") (by decide +kernel)) (fun _ h9 => h9) rfl dX8_canBe_79 ?_
                  refine lv_iload hx hb dX8_canBe_82 (lv_at hl 5 rfl) ?_
                  obtain ⟨b19, hf⟩ := gd_e hf
                  refine va_iald hx hb hK hP 2 0 rfl rfl (inb_in b19) dX8_canBe_84 ?_
                  refine lv_iconst (v := (2 : Int32)) hx hb dX8_canBe_85 (by decide) ?_
                  obtain ⟨j20, ej20, hf⟩ := jm_e hf
                  have hj20 : ∀ (u0 : Unit) (H : Heap) (locs : List Loc) (ls : Array Slot), va_P D vwCl [(q_t, .inr (8, [.ref q_t_page, .int v_t_pageMany, .int v_t_readPins, .int v_t_readLanes, .int v_t_readHere, .int v_t_readBehind, .ref q_t_readKinds, .ref q_t_readOf, .int v_t_pins, .int v_t_lanes, .int v_t_standing, .int v_t_most, .int v_t_law, .int v_t_strikes, .int v_t_greensRead, .ref q_t_kinds, .ref q_t_laneOf, .ref q_t_numbers, .ref q_t_rows, .ref q_t_winning, .ref q_t_shortest, .ref q_t_longest, .ref q_t_chances, .int v_t_seenMany, .ref q_t_sights, .int v_t_seedNow, .int v_t_keptGreen, .int v_t_keptStanding, .int v_t_keptMost, .int v_t_keptLaw, .int v_t_keptStrikes, .int v_t_keptSeen, .ref q_t_keptKinds, .ref q_t_keptSights, .long v_t_hash])), (q_t_laneOf, .inl (cI, 9, .inl r_t_laneOf)), (q_t_kinds, .inl (cI, 9, .inl r_t_kinds))] H → va_D A [(q_t, .inr (8, [.ref q_t_page, .int v_t_pageMany, .int v_t_readPins, .int v_t_readLanes, .int v_t_readHere, .int v_t_readBehind, .ref q_t_readKinds, .ref q_t_readOf, .int v_t_pins, .int v_t_lanes, .int v_t_standing, .int v_t_most, .int v_t_law, .int v_t_strikes, .int v_t_greensRead, .ref q_t_kinds, .ref q_t_laneOf, .ref q_t_numbers, .ref q_t_rows, .ref q_t_winning, .ref q_t_shortest, .ref q_t_longest, .ref q_t_chances, .int v_t_seenMany, .ref q_t_sights, .int v_t_seedNow, .int v_t_keptGreen, .int v_t_keptStanding, .int v_t_keptMost, .int v_t_keptLaw, .int v_t_keptStrikes, .int v_t_keptSeen, .ref q_t_keptKinds, .ref q_t_keptSights, .long v_t_hash])), (q_t_laneOf, .inl (cI, 9, .inl r_t_laneOf)), (q_t_kinds, .inl (cI, 9, .inl r_t_kinds))] → va_S A s.heap H locs → lv_has ls 6 [(0, .ref q_t), (1, .int x1), (2, .int x2), (3, .int x3), (5, .int y5)] → j20 u0 = some (z0) → W p l e ⟨0, 0, 0, 0⟩ s m ([.ref q_t, .int x1, .int x2, .int x3] : List Value).toArray below meth c H locs 0 0 (MQ below (QI D cI cC A wE z0) ([.ref q_t, .int x1, .int x2, .int x3] : List Value).toArray s 0 0 A) (F0 m 94 ls []) := by
                    intro u0 H locs ls hP hD hS hl hf
                    rw [ej20] at hf
                    refine lv_iconst (v := (1 : Int32)) hx hb dX8_canBe_94 (by decide) ?_
                    refine lv_goto (tgt := 99) hx hb dX8_canBe_95 (by decide) ?_
                    exact hj11 (1 : Int32) _ _ _ hP hD hS (lv_sub hl [0, 1, 2, 3, 4] rfl) hf
                  refine lv_icmp_ne (tgt := 94) hx hb dX8_canBe_86 (by decide) (fun c21 => ?_) (fun c21 => ?_)
                  · have hf := iq c21 hf
                    exact hj20 () _ _ _ hP hD hS (lv_sub hl [0, 1, 2, 3, 5] rfl) hf
                  · have hf := ip c21 hf
                    refine lv_iload_n hx hb dX8_canBe_89 rfl (lv_at hl 3 rfl) ?_
                    refine lv_iconst (v := (1 : Int32)) hx hb dX8_canBe_90 (by decide) ?_
                    refine lv_icmp_ne (tgt := 98) hx hb dX8_canBe_91 (by decide) (fun c22 => ?_) (fun c22 => ?_)
                    · have hf := iq c22 hf
                      exact hj12 () _ _ _ hP hD hS (lv_sub hl [0, 1, 2, 3, 5] rfl) hf
                    · have hf := ip c22 hf
                      exact hj20 () _ _ _ hP hD hS (lv_sub hl [0, 1, 2, 3, 5] rfl) hf
    exact hL3 N y1 x2 _ _ _ hP hD hS (lv_sub hl [2, 3, 4, 5, 1, 0] rfl) hf
  obtain ⟨j23, ej23, hf⟩ := jm_e hf
  have hj23 : ∀ (u0 : Unit) (H : Heap) (locs : List Loc) (ls : Array Slot), va_P D vwCl [(q_t, .inr (8, [.ref q_t_page, .int v_t_pageMany, .int v_t_readPins, .int v_t_readLanes, .int v_t_readHere, .int v_t_readBehind, .ref q_t_readKinds, .ref q_t_readOf, .int v_t_pins, .int v_t_lanes, .int v_t_standing, .int v_t_most, .int v_t_law, .int v_t_strikes, .int v_t_greensRead, .ref q_t_kinds, .ref q_t_laneOf, .ref q_t_numbers, .ref q_t_rows, .ref q_t_winning, .ref q_t_shortest, .ref q_t_longest, .ref q_t_chances, .int v_t_seenMany, .ref q_t_sights, .int v_t_seedNow, .int v_t_keptGreen, .int v_t_keptStanding, .int v_t_keptMost, .int v_t_keptLaw, .int v_t_keptStrikes, .int v_t_keptSeen, .ref q_t_keptKinds, .ref q_t_keptSights, .long v_t_hash])), (q_t_laneOf, .inl (cI, 9, .inl r_t_laneOf)), (q_t_kinds, .inl (cI, 9, .inl r_t_kinds))] H → va_D A [(q_t, .inr (8, [.ref q_t_page, .int v_t_pageMany, .int v_t_readPins, .int v_t_readLanes, .int v_t_readHere, .int v_t_readBehind, .ref q_t_readKinds, .ref q_t_readOf, .int v_t_pins, .int v_t_lanes, .int v_t_standing, .int v_t_most, .int v_t_law, .int v_t_strikes, .int v_t_greensRead, .ref q_t_kinds, .ref q_t_laneOf, .ref q_t_numbers, .ref q_t_rows, .ref q_t_winning, .ref q_t_shortest, .ref q_t_longest, .ref q_t_chances, .int v_t_seenMany, .ref q_t_sights, .int v_t_seedNow, .int v_t_keptGreen, .int v_t_keptStanding, .int v_t_keptMost, .int v_t_keptLaw, .int v_t_keptStrikes, .int v_t_keptSeen, .ref q_t_keptKinds, .ref q_t_keptSights, .long v_t_hash])), (q_t_laneOf, .inl (cI, 9, .inl r_t_laneOf)), (q_t_kinds, .inl (cI, 9, .inl r_t_kinds))] → va_S A s.heap H locs → lv_has ls 6 [(0, .ref q_t), (1, .int x1), (2, .int x2), (3, .int x3)] → j23 u0 = some (z0) → W p l e ⟨0, 0, 0, 0⟩ s m ([.ref q_t, .int x1, .int x2, .int x3] : List Value).toArray below meth c H locs 0 0 (MQ below (QI D cI cC A wE z0) ([.ref q_t, .int x1, .int x2, .int x3] : List Value).toArray s 0 0 A) (F0 m 22 ls []) := by
    intro u0 H locs ls hP hD hS hl hf
    rw [ej23] at hf
    refine lv_iconst (v := (0 : Int32)) hx hb dX8_canBe_22 (by decide) ?_
    exact hj2 (0 : Int32) _ _ _ hP hD hS (lv_sub hl [0, 1, 2, 3] rfl) hf
  refine lv_icmp_gt (tgt := 22) hx hb dX8_canBe_5 (by decide) (fun c24 => ?_) (fun c24 => ?_)
  · have hf := ip c24 hf
    exact hj23 () _ _ _ hP hD hS (lv_sub hl [0, 1, 2, 3] rfl) hf
  · have hf := iq c24 hf
    refine lv_iload_n hx hb dX8_canBe_8 rfl (lv_at hl 2 rfl) ?_
    refine lv_iload_n hx hb dX8_canBe_9 rfl (lv_at hl 3 rfl) ?_
    refine lv_iadd hx hb dX8_canBe_10 ?_
    refine lv_aload_n hx hb dX8_canBe_11 rfl (lv_at hl 0 rfl) ?_
    refine va_get (D := D) (ci := 8) (v := .int v_t_pins) (C := RX8) (T := TX8) (N := 35) hx hb hts in_X8_canBe_8 hown hK hP 0 rfl rfl 8 (by decide) (hts (.fieldLink RX8 96 "PinLanesModel" "pins" "I") (by decide +kernel)) (fun _ h9 => h9) rfl dX8_canBe_12 ?_
    refine lv_icmp_gt (tgt := 22) hx hb dX8_canBe_15 (by decide) (fun c25 => ?_) (fun c25 => ?_)
    · have hf := ip c25 hf
      exact hj23 () _ _ _ hP hD hS (lv_sub hl [0, 1, 2, 3] rfl) hf
    · have hf := iq c25 hf
      refine lv_iconst (v := (1 : Int32)) hx hb dX8_canBe_18 (by decide) ?_
      refine lv_goto (tgt := 23) hx hb dX8_canBe_19 (by decide) ?_
      exact hj2 (1 : Int32) _ _ _ hP hD hS (lv_sub hl [0, 1, 2, 3] rfl) hf
-- X8_copy
set_option maxHeartbeats 4000000 in
set_option maxRecDepth 100000 in
theorem c_X8_copy (l : Launch) (D : va_G) (cI cC : ClassId) (N sz : Nat) (q_o0 q_o1 : Nat) (n_o0 : Nat) (n_o1 : Nat) (r_o0 : Nat → Int32) (r_o1 : Nat → Int32) (z_r_o1 : Nat → Int32) (hf : f_X8_copy N n_o0 n_o1 r_o0 r_o1 = some (z_r_o1)) : Ct l yX8_copy wsX8_copy ⟨0, 0, 0, 0⟩ [.ref q_o0, .ref q_o1] D cI cC [(q_o0, .inl (cI, n_o0, .inl r_o0)), (q_o1, .inl (cI, n_o1, .inl r_o1))] sz (fun A => (QV D cI cC A [(q_o0, .inl (cI, n_o0, .inl r_o0)), (q_o1, .inl (cI, n_o1, .inl z_r_o1))])) := by
  suffices h : ∀ wE : va_W, wE = [(q_o0, .inl (cI, n_o0, .inl r_o0)), (q_o1, .inl (cI, n_o1, .inl z_r_o1))] → Ct l yX8_copy wsX8_copy ⟨0, 0, 0, 0⟩ [.ref q_o0, .ref q_o1] D cI cC [(q_o0, .inl (cI, n_o0, .inl r_o0)), (q_o1, .inl (cI, n_o1, .inl r_o1))] sz (fun A => (QV D cI cC A wE)) from h _ rfl
  intro wE hwE
  rw [f_X8_copy] at hf
  refine Ct.beg cX8_copy 3 none [(0, .ref q_o0), (1, .ref q_o1)] RX8 (by decide) rfl rfl (Nat.le_of_ble_eq_true rfl) rfl (fun p e s m below meth c A hx hb hr hts hown hlk hml hnm hK hP hD hS hA hG ls hl => ?_)
  refine lv_iconst (v := (0 : Int32)) hx hb dX8_copy_0 (by decide) ?_
  refine lv_istore_n (lv' := [(2, .int (0 : Int32)), (0, .ref q_o0), (1, .ref q_o1)]) hx hb dX8_copy_1 rfl hl (by decide) rfl (fun ls hl => ?_)
  have hL1 : ∀ (n : Nat) (y2 : Int32) (y3 : Nat → Int32) (H : Heap) (locs : List Loc) (ls : Array Slot), va_P D vwCl [(q_o0, .inl (cI, n_o0, .inl r_o0)), (q_o1, .inl (cI, n_o1, .inl y3))] H → va_D A [(q_o0, .inl (cI, n_o0, .inl r_o0)), (q_o1, .inl (cI, n_o1, .inl y3))] → va_S A s.heap H locs → lv_has ls 3 [(0, .ref q_o0), (1, .ref q_o1), (2, .int y2)] → f_X8_copy_L2 N n_o0 n_o1 r_o0 n y2 y3 = some (z_r_o1) → W p l e ⟨0, 0, 0, 0⟩ s m ([.ref q_o0, .ref q_o1] : List Value).toArray below meth c H locs 0 0 (MQ below (QV D cI cC A wE) ([.ref q_o0, .ref q_o1] : List Value).toArray s 0 0 A) (F0 m 2 ls []) := by
    intro n
    induction n with
    | zero => intro y2 y3 H locs ls hP hD hS hl hf; rw [f_X8_copy_L2] at hf; cases hf
    | succ n ih =>
      intro y2 y3 H locs ls hP hD hS hl hf
      rw [f_X8_copy_L2] at hf
      refine lv_iload_n hx hb dX8_copy_2 rfl (lv_at hl 2 rfl) ?_
      refine lv_aload_n hx hb dX8_copy_3 rfl (lv_at hl 0 rfl) ?_
      refine va_alen (v := Int32.ofNat n_o0) hx hb hK hP 0 0 rfl rfl rfl dX8_copy_4 ?_
      refine lv_icmp_ge (tgt := 20) hx hb dX8_copy_5 (by decide) (fun c4 => ?_) (fun c4 => ?_)
      · have hf := ip c4 hf
        cases hf
        subst hwE
        exact endV hx hb hr hlk hK hP hD hS dX8_copy_20
      · have hf := iq c4 hf
        refine lv_aload_n hx hb dX8_copy_8 rfl (lv_at hl 1 rfl) ?_
        refine lv_iload_n hx hb dX8_copy_9 rfl (lv_at hl 2 rfl) ?_
        refine lv_aload_n hx hb dX8_copy_10 rfl (lv_at hl 0 rfl) ?_
        refine lv_iload_n hx hb dX8_copy_11 rfl (lv_at hl 2 rfl) ?_
        obtain ⟨b5, hf⟩ := gd_e hf
        refine va_iald hx hb hK hP 0 0 rfl rfl (inb_in b5) dX8_copy_12 ?_
        obtain ⟨b6, hf⟩ := gd_e hf
        refine va_iast hx hb hK hP hD hS 1 0 rfl rfl (inb_in b6) dX8_copy_13 (fun H locs hP hD hS => ?_)
        have hP : va_P D vwCl [(q_o0, .inl (cI, n_o0, .inl r_o0)), (q_o1, .inl (cI, n_o1, .inl (upd y3 y2.toNatClampNeg (r_o0 y2.toNatClampNeg))))] H := hP
        have hD : va_D A [(q_o0, .inl (cI, n_o0, .inl r_o0)), (q_o1, .inl (cI, n_o1, .inl (upd y3 y2.toNatClampNeg (r_o0 y2.toNatClampNeg))))] := hD
        refine lv_iinc (v := y2 + (1 : Int32)) (lv' := [(2, .int (y2 + (1 : Int32))), (0, .ref q_o0), (1, .ref q_o1)]) hx hb dX8_copy_14 hl (k := 2) rfl rfl (by decide) rfl (fun ls hl => ?_)
        refine lv_goto (tgt := 2) hx hb dX8_copy_17 (by decide) ?_
        exact ih (y2 + (1 : Int32)) (upd y3 y2.toNatClampNeg (r_o0 y2.toNatClampNeg)) _ _ _ hP hD hS (lv_sub hl [1, 2, 0] rfl) hf
  exact hL1 N (0 : Int32) r_o1 _ _ _ hP hD hS (lv_sub hl [1, 2, 0] rfl) hf
