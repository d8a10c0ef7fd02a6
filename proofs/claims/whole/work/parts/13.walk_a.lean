-- X5_wayFor
set_option maxHeartbeats 4000000 in
set_option maxRecDepth 100000 in
theorem c_X5_wayFor (l : Launch) (D : va_G) (cI cC : ClassId) (N sz : Nat) (x0 : Int32) (z0 : Int32) (hf : f_X5_wayFor N x0 = some (z0)) : Ct l yX5_wayFor wsX5_wayFor ⟨2, 0, 0, 46⟩ [.int x0] D cI cC [] sz (fun A => (QI D cI cC A [] z0)) := by
  suffices h : ∀ wE : va_W, wE = [] → Ct l yX5_wayFor wsX5_wayFor ⟨2, 0, 0, 46⟩ [.int x0] D cI cC [] sz (fun A => (QI D cI cC A wE z0)) from h _ rfl
  intro wE hwE
  rw [f_X5_wayFor] at hf
  refine Ct.beg cX5_wayFor 1 (some .int) [(0, .int x0)] RX5 (by decide) rfl rfl (Nat.le_of_ble_eq_true rfl) rfl (fun p e s m below meth c A hx hb hr hts hown hlk hml hnm hK hP hD hS hA hG ls hl => ?_)
  refine lv_iload_n hx hb dX5_wayFor_0 rfl (lv_at hl 0 rfl) ?_
  refine lv_if_ne (tgt := 6) hx hb dX5_wayFor_1 (by decide) (fun c1 => ?_) (fun c1 => ?_)
  · have hf := iq c1 hf
    refine lv_iload_n hx hb dX5_wayFor_6 rfl (lv_at hl 0 rfl) ?_
    refine lv_iconst (v := (1 : Int32)) hx hb dX5_wayFor_7 (by decide) ?_
    obtain ⟨a2, hra2, hf⟩ := ob1_e hf
    refine callSi (As := [.int x0, .int (1 : Int32)]) (rest := []) (wn := []) ⟨hx, hb, hml, hown, hts⟩ (c_X5_leftAtWorst l D cI cC N _ x0 (1 : Int32) a2 hra2) (va_cwS 2 hts gX5_wayFor_X5_leftAtWorst rfl rfl rfl (by decide +kernel) ⟨Nat.le_of_ble_eq_true rfl, Nat.le_of_ble_eq_true rfl⟩) hK hP hD hS hA hG (Cut.mk [] [] [] [] rfl rfl rfl rfl (by decide) rfl rfl) rfl hl.1 rfl (Nat.le_of_ble_eq_true rfl) ⟨Nat.zero_le _, Nat.zero_le _⟩ dX5_wayFor_8 (fun H locs hP hD hS => ?_)
    refine lv_iload_n hx hb dX5_wayFor_11 rfl (lv_at hl 0 rfl) ?_
    refine lv_iconst (v := (0 : Int32)) hx hb dX5_wayFor_12 (by decide) ?_
    obtain ⟨a3, hra3, hf⟩ := ob1_e hf
    refine callSi (As := [.int x0, .int (0 : Int32)]) (rest := [.int a2]) (wn := []) ⟨hx, hb, hml, hown, hts⟩ (c_X5_leftAtWorst l D cI cC N _ x0 (0 : Int32) a3 hra3) (va_cwS 2 hts gX5_wayFor_X5_leftAtWorst rfl rfl rfl (by decide +kernel) ⟨Nat.le_of_ble_eq_true rfl, Nat.le_of_ble_eq_true rfl⟩) hK hP hD hS hA hG (Cut.mk [] [] [] [] rfl rfl rfl rfl (by decide) rfl rfl) rfl hl.1 rfl (Nat.le_of_ble_eq_true rfl) ⟨Nat.zero_le _, Nat.zero_le _⟩ dX5_wayFor_13 (fun H locs hP hD hS => ?_)
    refine lv_icmp_ge (tgt := 23) hx hb dX5_wayFor_16 (by decide) (fun c4 => ?_) (fun c4 => ?_)
    · have hf := ip c4 hf
      refine lv_iconst (v := (0 : Int32)) hx hb dX5_wayFor_23 (by decide) ?_
      have e1_ := Option.some.inj hf
      exact endI hx hb hr hlk hK (by rw [hwE]; exact hP) (by rw [hwE]; exact hD) hS e1_ dX5_wayFor_24
    · have hf := iq c4 hf
      refine lv_iconst (v := (1 : Int32)) hx hb dX5_wayFor_19 (by decide) ?_
      refine lv_goto (tgt := 24) hx hb dX5_wayFor_20 (by decide) ?_
      have e1_ := Option.some.inj hf
      exact endI hx hb hr hlk hK (by rw [hwE]; exact hP) (by rw [hwE]; exact hD) hS e1_ dX5_wayFor_24
  · have hf := ip c1 hf
    refine lv_iconst (v := (-1 : Int32)) hx hb dX5_wayFor_4 (by decide) ?_
    have e1_ := Option.some.inj hf
    exact endI hx hb hr hlk hK (by rw [hwE]; exact hP) (by rw [hwE]; exact hD) hS e1_ dX5_wayFor_5
-- X6_add
set_option maxRecDepth 20000 in
theorem in_X6_add_6 : ∀ w ∈ wsX60, w ∈ wsX6_add := by decide +kernel
set_option maxHeartbeats 4000000 in
set_option maxRecDepth 100000 in
theorem c_X6_add (l : Launch) (D : va_G) (cI cC : ClassId) (N sz : Nat) (q_t q_t_firsts q_t_counts q_t_taken : Nat) (v_t_size : Int32) (v_t_takesRight : Int32) (v_t_takesLeft : Int32) (r_t_firsts : Nat → Int32) (r_t_counts : Nat → Int32) (r_t_taken : Nat → Int32) (x1 : Int32) (x2 : Int32) (z_v_t_size : Int32) (z_r_t_firsts : Nat → Int32) (z_r_t_counts : Nat → Int32) (z_r_t_taken : Nat → Int32) (hf : f_X6_add N v_t_size r_t_firsts r_t_counts r_t_taken x1 x2 = some (z_v_t_size, z_r_t_firsts, z_r_t_counts, z_r_t_taken)) : Ct l yX6_add wsX6_add ⟨1, 0, 0, 21⟩ [.ref q_t, .int x1, .int x2] D cI cC [(q_t, .inr (6, [.int v_t_size, .ref q_t_firsts, .ref q_t_counts, .ref q_t_taken, .int v_t_takesRight, .int v_t_takesLeft])), (q_t_firsts, .inl (cI, 27, .inl r_t_firsts)), (q_t_counts, .inl (cI, 27, .inl r_t_counts)), (q_t_taken, .inl (cI, 27, .inl r_t_taken))] sz (fun A => (QV D cI cC A [(q_t, .inr (6, [.int z_v_t_size, .ref q_t_firsts, .ref q_t_counts, .ref q_t_taken, .int v_t_takesRight, .int v_t_takesLeft])), (q_t_firsts, .inl (cI, 27, .inl z_r_t_firsts)), (q_t_counts, .inl (cI, 27, .inl z_r_t_counts)), (q_t_taken, .inl (cI, 27, .inl z_r_t_taken))])) := by
  suffices h : ∀ wE : va_W, wE = [(q_t, .inr (6, [.int z_v_t_size, .ref q_t_firsts, .ref q_t_counts, .ref q_t_taken, .int v_t_takesRight, .int v_t_takesLeft])), (q_t_firsts, .inl (cI, 27, .inl z_r_t_firsts)), (q_t_counts, .inl (cI, 27, .inl z_r_t_counts)), (q_t_taken, .inl (cI, 27, .inl z_r_t_taken))] → Ct l yX6_add wsX6_add ⟨1, 0, 0, 21⟩ [.ref q_t, .int x1, .int x2] D cI cC [(q_t, .inr (6, [.int v_t_size, .ref q_t_firsts, .ref q_t_counts, .ref q_t_taken, .int v_t_takesRight, .int v_t_takesLeft])), (q_t_firsts, .inl (cI, 27, .inl r_t_firsts)), (q_t_counts, .inl (cI, 27, .inl r_t_counts)), (q_t_taken, .inl (cI, 27, .inl r_t_taken))] sz (fun A => (QV D cI cC A wE)) from h _ rfl
  intro wE hwE
  rw [f_X6_add] at hf
  refine Ct.beg cX6_add 3 none [(0, .ref q_t), (1, .int x1), (2, .int x2)] RX6 (by decide) rfl rfl (Nat.le_of_ble_eq_true rfl) rfl (fun p e s m below meth c A hx hb hr hts hown hlk hml hnm hK hP hD hS hA hG ls hl => ?_)
  refine lv_aload_n hx hb dX6_add_0 rfl (lv_at hl 0 rfl) ?_
  refine va_get (D := D) (ci := 6) (v := .int v_t_size) (C := RX6) (T := TX6) (N := 6) hx hb hts in_X6_add_6 hown hK hP 0 rfl rfl 0 (by decide) (hts (.fieldLink RX6 21 "PinLanes$Strikes" "size" "I") (by decide +kernel)) (fun _ h9 => h9) rfl dX6_add_1 ?_
  refine lv_bipush (v := (27 : Int32)) hx hb dX6_add_4 (by decide) ?_
  refine lv_icmp_lt (tgt := 10) hx hb dX6_add_6 (by decide) (fun c1 => ?_) (fun c1 => ?_)
  · have hf := ip c1 hf
    refine lv_aload_n hx hb dX6_add_10 rfl (lv_at hl 0 rfl) ?_
    refine va_get (D := D) (ci := 6) (v := .ref q_t_firsts) (C := RX6) (T := TX6) (N := 6) hx hb hts in_X6_add_6 hown hK hP 0 rfl rfl 1 (by decide) (hts (.fieldLink RX6 11 "PinLanes$Strikes" "firsts" "[I") (by decide +kernel)) (fun _ h9 => h9) rfl dX6_add_11 ?_
    refine lv_aload_n hx hb dX6_add_14 rfl (lv_at hl 0 rfl) ?_
    refine va_get (D := D) (ci := 6) (v := .int v_t_size) (C := RX6) (T := TX6) (N := 6) hx hb hts in_X6_add_6 hown hK hP 0 rfl rfl 0 (by decide) (hts (.fieldLink RX6 21 "PinLanes$Strikes" "size" "I") (by decide +kernel)) (fun _ h9 => h9) rfl dX6_add_15 ?_
    refine lv_iload_n hx hb dX6_add_18 rfl (lv_at hl 1 rfl) ?_
    obtain ⟨b2, hf⟩ := gd_e hf
    refine va_iast hx hb hK hP hD hS 1 0 rfl rfl (inb_in b2) dX6_add_19 (fun H locs hP hD hS => ?_)
    have hP : va_P D vwCl [(q_t, .inr (6, [.int v_t_size, .ref q_t_firsts, .ref q_t_counts, .ref q_t_taken, .int v_t_takesRight, .int v_t_takesLeft])), (q_t_firsts, .inl (cI, 27, .inl (upd r_t_firsts v_t_size.toNatClampNeg x1))), (q_t_counts, .inl (cI, 27, .inl r_t_counts)), (q_t_taken, .inl (cI, 27, .inl r_t_taken))] H := hP
    have hD : va_D A [(q_t, .inr (6, [.int v_t_size, .ref q_t_firsts, .ref q_t_counts, .ref q_t_taken, .int v_t_takesRight, .int v_t_takesLeft])), (q_t_firsts, .inl (cI, 27, .inl (upd r_t_firsts v_t_size.toNatClampNeg x1))), (q_t_counts, .inl (cI, 27, .inl r_t_counts)), (q_t_taken, .inl (cI, 27, .inl r_t_taken))] := hD
    refine lv_aload_n hx hb dX6_add_20 rfl (lv_at hl 0 rfl) ?_
    refine va_get (D := D) (ci := 6) (v := .ref q_t_counts) (C := RX6) (T := TX6) (N := 6) hx hb hts in_X6_add_6 hown hK hP 0 rfl rfl 2 (by decide) (hts (.fieldLink RX6 15 "PinLanes$Strikes" "counts" "[I") (by decide +kernel)) (fun _ h9 => h9) rfl dX6_add_21 ?_
    refine lv_aload_n hx hb dX6_add_24 rfl (lv_at hl 0 rfl) ?_
    refine va_get (D := D) (ci := 6) (v := .int v_t_size) (C := RX6) (T := TX6) (N := 6) hx hb hts in_X6_add_6 hown hK hP 0 rfl rfl 0 (by decide) (hts (.fieldLink RX6 21 "PinLanes$Strikes" "size" "I") (by decide +kernel)) (fun _ h9 => h9) rfl dX6_add_25 ?_
    refine lv_iload_n hx hb dX6_add_28 rfl (lv_at hl 2 rfl) ?_
    obtain ⟨b3, hf⟩ := gd_e hf
    refine va_iast hx hb hK hP hD hS 2 0 rfl rfl (inb_in b3) dX6_add_29 (fun H locs hP hD hS => ?_)
    have hP : va_P D vwCl [(q_t, .inr (6, [.int v_t_size, .ref q_t_firsts, .ref q_t_counts, .ref q_t_taken, .int v_t_takesRight, .int v_t_takesLeft])), (q_t_firsts, .inl (cI, 27, .inl (upd r_t_firsts v_t_size.toNatClampNeg x1))), (q_t_counts, .inl (cI, 27, .inl (upd r_t_counts v_t_size.toNatClampNeg x2))), (q_t_taken, .inl (cI, 27, .inl r_t_taken))] H := hP
    have hD : va_D A [(q_t, .inr (6, [.int v_t_size, .ref q_t_firsts, .ref q_t_counts, .ref q_t_taken, .int v_t_takesRight, .int v_t_takesLeft])), (q_t_firsts, .inl (cI, 27, .inl (upd r_t_firsts v_t_size.toNatClampNeg x1))), (q_t_counts, .inl (cI, 27, .inl (upd r_t_counts v_t_size.toNatClampNeg x2))), (q_t_taken, .inl (cI, 27, .inl r_t_taken))] := hD
    refine lv_aload_n hx hb dX6_add_30 rfl (lv_at hl 0 rfl) ?_
    refine va_get (D := D) (ci := 6) (v := .ref q_t_taken) (C := RX6) (T := TX6) (N := 6) hx hb hts in_X6_add_6 hown hK hP 0 rfl rfl 3 (by decide) (hts (.fieldLink RX6 18 "PinLanes$Strikes" "taken" "[I") (by decide +kernel)) (fun _ h9 => h9) rfl dX6_add_31 ?_
    refine lv_aload_n hx hb dX6_add_34 rfl (lv_at hl 0 rfl) ?_
    refine va_get (D := D) (ci := 6) (v := .int v_t_size) (C := RX6) (T := TX6) (N := 6) hx hb hts in_X6_add_6 hown hK hP 0 rfl rfl 0 (by decide) (hts (.fieldLink RX6 21 "PinLanes$Strikes" "size" "I") (by decide +kernel)) (fun _ h9 => h9) rfl dX6_add_35 ?_
    refine lv_iload_n hx hb dX6_add_38 rfl (lv_at hl 1 rfl) ?_
    refine lv_iload_n hx hb dX6_add_39 rfl (lv_at hl 2 rfl) ?_
    obtain ⟨a4, hra4, hf⟩ := ob1_e hf
    refine callNi (As := [.int x1, .int x2]) (rest := [.int v_t_size, .ref q_t_taken]) (wn := [(q_t, .inr (6, [.int v_t_size, .ref q_t_firsts, .ref q_t_counts, .ref q_t_taken, .int v_t_takesRight, .int v_t_takesLeft])), (q_t_firsts, .inl (cI, 27, .inl (upd r_t_firsts v_t_size.toNatClampNeg x1))), (q_t_counts, .inl (cI, 27, .inl (upd r_t_counts v_t_size.toNatClampNeg x2))), (q_t_taken, .inl (cI, 27, .inl r_t_taken))]) ⟨hx, hb, hml, hown, hts⟩ (c_X7_bits l D cI cC N _ x1 x2 a4 hra4) ⟨va_cnB 2 hts gX6_add_X7_bits_n50 rfl rfl rfl (hG.1 (.methodLinkNest "PinLanes$Strikes" 50 yX7_bits "PinLanes") (by decide +kernel)) (hts (.initialized RX7) (by decide +kernel)) (by decide +kernel) ⟨Nat.le_of_ble_eq_true rfl, Nat.le_of_ble_eq_true rfl⟩, hts (.static yX7_bits) (by decide +kernel), trivial⟩ hK hP hD hS hA hG (Cut.mk [] [0, 1, 2, 3] [0, 1, 2, 3] [(q_t, .inr (6, [.int v_t_size, .ref q_t_firsts, .ref q_t_counts, .ref q_t_taken, .int v_t_takesRight, .int v_t_takesLeft])), (q_t_firsts, .inl (cI, 27, .inl (upd r_t_firsts v_t_size.toNatClampNeg x1))), (q_t_counts, .inl (cI, 27, .inl (upd r_t_counts v_t_size.toNatClampNeg x2))), (q_t_taken, .inl (cI, 27, .inl r_t_taken))] rfl rfl rfl rfl (by decide) rfl rfl) rfl hl.1 rfl (Nat.le_of_ble_eq_true rfl) ⟨Nat.zero_le _, Nat.zero_le _⟩ dX6_add_40 (fun H locs hP hD hS => ?_)
    obtain ⟨b5, hf⟩ := gd_e hf
    refine va_iast hx hb hK hP hD hS 3 0 rfl rfl (inb_in b5) dX6_add_43 (fun H locs hP hD hS => ?_)
    have hP : va_P D vwCl [(q_t, .inr (6, [.int v_t_size, .ref q_t_firsts, .ref q_t_counts, .ref q_t_taken, .int v_t_takesRight, .int v_t_takesLeft])), (q_t_firsts, .inl (cI, 27, .inl (upd r_t_firsts v_t_size.toNatClampNeg x1))), (q_t_counts, .inl (cI, 27, .inl (upd r_t_counts v_t_size.toNatClampNeg x2))), (q_t_taken, .inl (cI, 27, .inl (upd r_t_taken v_t_size.toNatClampNeg a4)))] H := hP
    have hD : va_D A [(q_t, .inr (6, [.int v_t_size, .ref q_t_firsts, .ref q_t_counts, .ref q_t_taken, .int v_t_takesRight, .int v_t_takesLeft])), (q_t_firsts, .inl (cI, 27, .inl (upd r_t_firsts v_t_size.toNatClampNeg x1))), (q_t_counts, .inl (cI, 27, .inl (upd r_t_counts v_t_size.toNatClampNeg x2))), (q_t_taken, .inl (cI, 27, .inl (upd r_t_taken v_t_size.toNatClampNeg a4)))] := hD
    refine lv_aload_n hx hb dX6_add_44 rfl (lv_at hl 0 rfl) ?_
    refine lv_dup hx hb dX6_add_45 rfl ?_
    refine va_get (D := D) (ci := 6) (v := .int v_t_size) (C := RX6) (T := TX6) (N := 6) hx hb hts in_X6_add_6 hown hK hP 0 rfl rfl 0 (by decide) (hts (.fieldLink RX6 21 "PinLanes$Strikes" "size" "I") (by decide +kernel)) (fun _ h9 => h9) rfl dX6_add_46 ?_
    refine lv_iconst (v := (1 : Int32)) hx hb dX6_add_49 (by decide) ?_
    refine lv_iadd hx hb dX6_add_50 ?_
    refine va_put (D := D) (ci := 6) (v := .int (v_t_size + (1 : Int32))) (ty := .int) (C := RX6) (T := TX6) (N := 6) hx hb hts in_X6_add_6 tyX6 tyX6_ok nmX6 hown hK hP hD hS 0 rfl rfl 0 (by decide) (hts (.fieldLink RX6 21 "PinLanes$Strikes" "size" "I") (by decide +kernel)) (fun _ h9 => h9) rfl (by decide +kernel) rfl rfl (Nat.le_of_ble_eq_true rfl) dX6_add_51 (fun H locs hP hD hS => ?_)
    have hP : va_P D vwCl [(q_t, .inr (6, [.int (v_t_size + (1 : Int32)), .ref q_t_firsts, .ref q_t_counts, .ref q_t_taken, .int v_t_takesRight, .int v_t_takesLeft])), (q_t_firsts, .inl (cI, 27, .inl (upd r_t_firsts v_t_size.toNatClampNeg x1))), (q_t_counts, .inl (cI, 27, .inl (upd r_t_counts v_t_size.toNatClampNeg x2))), (q_t_taken, .inl (cI, 27, .inl (upd r_t_taken v_t_size.toNatClampNeg a4)))] H := hP
    have hD : va_D A [(q_t, .inr (6, [.int (v_t_size + (1 : Int32)), .ref q_t_firsts, .ref q_t_counts, .ref q_t_taken, .int v_t_takesRight, .int v_t_takesLeft])), (q_t_firsts, .inl (cI, 27, .inl (upd r_t_firsts v_t_size.toNatClampNeg x1))), (q_t_counts, .inl (cI, 27, .inl (upd r_t_counts v_t_size.toNatClampNeg x2))), (q_t_taken, .inl (cI, 27, .inl (upd r_t_taken v_t_size.toNatClampNeg a4)))] := hD
    obtain ⟨e1_, e2_, e3_, e4_⟩ := so4 hf
    exact endV hx hb hr hlk hK (by rw [hwE, ← e1_, ← e2_, ← e3_, ← e4_]; exact hP) (by rw [hwE, ← e1_, ← e2_, ← e3_, ← e4_]; exact hD) hS dX6_add_54
  · have hf := iq c1 hf
    obtain ⟨e1_, e2_, e3_, e4_⟩ := so4 hf
    exact endV hx hb hr hlk hK (by rw [hwE, ← e1_, ← e2_, ← e3_, ← e4_]; exact hP) (by rw [hwE, ← e1_, ← e2_, ← e3_, ← e4_]; exact hD) hS dX6_add_9
-- X6_find
set_option maxRecDepth 20000 in
theorem in_X6_find_6 : ∀ w ∈ wsX60, w ∈ wsX6_find := by decide +kernel
set_option maxHeartbeats 4000000 in
set_option maxRecDepth 100000 in
theorem c_X6_find (l : Launch) (D : va_G) (cI cC : ClassId) (N sz : Nat) (q_t q_t_firsts q_t_counts q_t_taken : Nat) (v_t_size : Int32) (v_t_takesRight : Int32) (v_t_takesLeft : Int32) (r_t_firsts : Nat → Int32) (r_t_counts : Nat → Int32) (x1 : Int32) (x2 : Int32) (z0 : Int32) (hf : f_X6_find N v_t_size r_t_firsts r_t_counts x1 x2 = some (z0)) : Ct l yX6_find wsX6_find ⟨0, 0, 0, 0⟩ [.ref q_t, .int x1, .int x2] D cI cC [(q_t, .inr (6, [.int v_t_size, .ref q_t_firsts, .ref q_t_counts, .ref q_t_taken, .int v_t_takesRight, .int v_t_takesLeft])), (q_t_firsts, .inl (cI, 27, .inl r_t_firsts)), (q_t_counts, .inl (cI, 27, .inl r_t_counts))] sz (fun A => (QI D cI cC A [(q_t, .inr (6, [.int v_t_size, .ref q_t_firsts, .ref q_t_counts, .ref q_t_taken, .int v_t_takesRight, .int v_t_takesLeft])), (q_t_firsts, .inl (cI, 27, .inl r_t_firsts)), (q_t_counts, .inl (cI, 27, .inl r_t_counts))] z0)) := by
  suffices h : ∀ wE : va_W, wE = [(q_t, .inr (6, [.int v_t_size, .ref q_t_firsts, .ref q_t_counts, .ref q_t_taken, .int v_t_takesRight, .int v_t_takesLeft])), (q_t_firsts, .inl (cI, 27, .inl r_t_firsts)), (q_t_counts, .inl (cI, 27, .inl r_t_counts))] → Ct l yX6_find wsX6_find ⟨0, 0, 0, 0⟩ [.ref q_t, .int x1, .int x2] D cI cC [(q_t, .inr (6, [.int v_t_size, .ref q_t_firsts, .ref q_t_counts, .ref q_t_taken, .int v_t_takesRight, .int v_t_takesLeft])), (q_t_firsts, .inl (cI, 27, .inl r_t_firsts)), (q_t_counts, .inl (cI, 27, .inl r_t_counts))] sz (fun A => (QI D cI cC A wE z0)) from h _ rfl
  intro wE hwE
  rw [f_X6_find] at hf
  refine Ct.beg cX6_find 4 (some .int) [(0, .ref q_t), (1, .int x1), (2, .int x2)] RX6 (by decide) rfl rfl (Nat.le_of_ble_eq_true rfl) rfl (fun p e s m below meth c A hx hb hr hts hown hlk hml hnm hK hP hD hS hA hG ls hl => ?_)
  refine lv_iconst (v := (0 : Int32)) hx hb dX6_find_0 (by decide) ?_
  refine lv_istore_n (lv' := [(3, .int (0 : Int32)), (0, .ref q_t), (1, .int x1), (2, .int x2)]) hx hb dX6_find_1 rfl hl (by decide) rfl (fun ls hl => ?_)
  have hL1 : ∀ (n : Nat) (y2 : Int32) (H : Heap) (locs : List Loc) (ls : Array Slot), va_P D vwCl [(q_t, .inr (6, [.int v_t_size, .ref q_t_firsts, .ref q_t_counts, .ref q_t_taken, .int v_t_takesRight, .int v_t_takesLeft])), (q_t_firsts, .inl (cI, 27, .inl r_t_firsts)), (q_t_counts, .inl (cI, 27, .inl r_t_counts))] H → va_D A [(q_t, .inr (6, [.int v_t_size, .ref q_t_firsts, .ref q_t_counts, .ref q_t_taken, .int v_t_takesRight, .int v_t_takesLeft])), (q_t_firsts, .inl (cI, 27, .inl r_t_firsts)), (q_t_counts, .inl (cI, 27, .inl r_t_counts))] → va_S A s.heap H locs → lv_has ls 4 [(0, .ref q_t), (1, .int x1), (2, .int x2), (3, .int y2)] → f_X6_find_L2 N x1 x2 v_t_size r_t_firsts r_t_counts n y2 = some (z0) → W p l e ⟨0, 0, 0, 0⟩ s m ([.ref q_t, .int x1, .int x2] : List Value).toArray below meth c H locs 0 0 (MQ below (QI D cI cC A wE z0) ([.ref q_t, .int x1, .int x2] : List Value).toArray s 0 0 A) (F0 m 2 ls []) := by
    intro n
    induction n with
    | zero => intro y2 H locs ls hP hD hS hl hf; rw [f_X6_find_L2] at hf; cases hf
    | succ n ih =>
      intro y2 H locs ls hP hD hS hl hf
      rw [f_X6_find_L2] at hf
      refine lv_iload_n hx hb dX6_find_2 rfl (lv_at hl 3 rfl) ?_
      refine lv_aload_n hx hb dX6_find_3 rfl (lv_at hl 0 rfl) ?_
      refine va_get (D := D) (ci := 6) (v := .int v_t_size) (C := RX6) (T := TX6) (N := 6) hx hb hts in_X6_find_6 hown hK hP 0 rfl rfl 0 (by decide) (hts (.fieldLink RX6 21 "PinLanes$Strikes" "size" "I") (by decide +kernel)) (fun _ h9 => h9) rfl dX6_find_4 ?_
      refine lv_icmp_ge (tgt := 38) hx hb dX6_find_7 (by decide) (fun c3 => ?_) (fun c3 => ?_)
      · have hf := ip c3 hf
        refine lv_iconst (v := (-1 : Int32)) hx hb dX6_find_38 (by decide) ?_
        have e1_ := Option.some.inj hf
        exact endI hx hb hr hlk hK (by rw [hwE]; exact hP) (by rw [hwE]; exact hD) hS e1_ dX6_find_39
      · have hf := iq c3 hf
        refine lv_aload_n hx hb dX6_find_10 rfl (lv_at hl 0 rfl) ?_
        refine va_get (D := D) (ci := 6) (v := .ref q_t_firsts) (C := RX6) (T := TX6) (N := 6) hx hb hts in_X6_find_6 hown hK hP 0 rfl rfl 1 (by decide) (hts (.fieldLink RX6 11 "PinLanes$Strikes" "firsts" "[I") (by decide +kernel)) (fun _ h9 => h9) rfl dX6_find_11 ?_
        refine lv_iload_n hx hb dX6_find_14 rfl (lv_at hl 3 rfl) ?_
        obtain ⟨b4, hf⟩ := gd_e hf
        refine va_iald hx hb hK hP 1 0 rfl rfl (inb_in b4) dX6_find_15 ?_
        refine lv_iload_n hx hb dX6_find_16 rfl (lv_at hl 1 rfl) ?_
        obtain ⟨j5, ej5, hf⟩ := jm_e hf
        have hj5 : ∀ (u0 : Unit) (H : Heap) (locs : List Loc) (ls : Array Slot), va_P D vwCl [(q_t, .inr (6, [.int v_t_size, .ref q_t_firsts, .ref q_t_counts, .ref q_t_taken, .int v_t_takesRight, .int v_t_takesLeft])), (q_t_firsts, .inl (cI, 27, .inl r_t_firsts)), (q_t_counts, .inl (cI, 27, .inl r_t_counts))] H → va_D A [(q_t, .inr (6, [.int v_t_size, .ref q_t_firsts, .ref q_t_counts, .ref q_t_taken, .int v_t_takesRight, .int v_t_takesLeft])), (q_t_firsts, .inl (cI, 27, .inl r_t_firsts)), (q_t_counts, .inl (cI, 27, .inl r_t_counts))] → va_S A s.heap H locs → lv_has ls 4 [(0, .ref q_t), (1, .int x1), (2, .int x2), (3, .int y2)] → j5 u0 = some (z0) → W p l e ⟨0, 0, 0, 0⟩ s m ([.ref q_t, .int x1, .int x2] : List Value).toArray below meth c H locs 0 0 (MQ below (QI D cI cC A wE z0) ([.ref q_t, .int x1, .int x2] : List Value).toArray s 0 0 A) (F0 m 32 ls []) := by
          intro u0 H locs ls hP hD hS hl hf
          rw [ej5] at hf
          refine lv_iinc (v := y2 + (1 : Int32)) (lv' := [(3, .int (y2 + (1 : Int32))), (0, .ref q_t), (1, .int x1), (2, .int x2)]) hx hb dX6_find_32 hl (k := 3) rfl rfl (by decide) rfl (fun ls hl => ?_)
          refine lv_goto (tgt := 2) hx hb dX6_find_35 (by decide) ?_
          exact ih (y2 + (1 : Int32)) _ _ _ hP hD hS (lv_sub hl [1, 2, 3, 0] rfl) hf
        refine lv_icmp_ne (tgt := 32) hx hb dX6_find_17 (by decide) (fun c6 => ?_) (fun c6 => ?_)
        · have hf := iq c6 hf
          exact hj5 () _ _ _ hP hD hS (lv_sub hl [0, 1, 2, 3] rfl) hf
        · have hf := ip c6 hf
          refine lv_aload_n hx hb dX6_find_20 rfl (lv_at hl 0 rfl) ?_
          refine va_get (D := D) (ci := 6) (v := .ref q_t_counts) (C := RX6) (T := TX6) (N := 6) hx hb hts in_X6_find_6 hown hK hP 0 rfl rfl 2 (by decide) (hts (.fieldLink RX6 15 "PinLanes$Strikes" "counts" "[I") (by decide +kernel)) (fun _ h9 => h9) rfl dX6_find_21 ?_
          refine lv_iload_n hx hb dX6_find_24 rfl (lv_at hl 3 rfl) ?_
          obtain ⟨b7, hf⟩ := gd_e hf
          refine va_iald hx hb hK hP 2 0 rfl rfl (inb_in b7) dX6_find_25 ?_
          refine lv_iload_n hx hb dX6_find_26 rfl (lv_at hl 2 rfl) ?_
          refine lv_icmp_ne (tgt := 32) hx hb dX6_find_27 (by decide) (fun c8 => ?_) (fun c8 => ?_)
          · have hf := iq c8 hf
            exact hj5 () _ _ _ hP hD hS (lv_sub hl [0, 1, 2, 3] rfl) hf
          · have hf := ip c8 hf
            refine lv_iload_n hx hb dX6_find_30 rfl (lv_at hl 3 rfl) ?_
            have e1_ := Option.some.inj hf
            exact endI hx hb hr hlk hK (by rw [hwE]; exact hP) (by rw [hwE]; exact hD) hS e1_ dX6_find_31
  exact hL1 N (0 : Int32) _ _ _ hP hD hS (lv_sub hl [1, 2, 3, 0] rfl) hf
-- X6_listFor
set_option maxRecDepth 20000 in
theorem in_X6_listFor_1 : ∀ w ∈ wsX10, w ∈ wsX6_listFor := by decide +kernel
set_option maxRecDepth 20000 in
theorem in_X6_listFor_6 : ∀ w ∈ wsX60, w ∈ wsX6_listFor := by decide +kernel
set_option maxHeartbeats 4000000 in
set_option maxRecDepth 100000 in
theorem c_X6_listFor (l : Launch) (D : va_G) (cI cC : ClassId) (N sz : Nat) (q_t q_t_firsts q_t_counts q_t_taken q_o1 q_o1_kinds q_o1_laneOf q_o1_firsts q_o1_lengths q_o1_seen : Nat) (v_t_size : Int32) (v_t_takesRight : Int32) (v_t_takesLeft : Int32) (v_o1_pins : Int32) (v_o1_lanes : Int32) (v_o1_ball : Int32) (v_o1_law : Int32) (v_o1_standing : Int32) (v_o1_struck : Int32) (r_o1_laneOf : Nat → Int32) (r_o1_kinds : Nat → Int32) (r_t_firsts : Nat → Int32) (r_t_counts : Nat → Int32) (r_t_taken : Nat → Int32) (z_v_t_size : Int32) (z_v_t_takesRight : Int32) (z_v_t_takesLeft : Int32) (z_r_t_firsts : Nat → Int32) (z_r_t_counts : Nat → Int32) (z_r_t_taken : Nat → Int32) (hf : f_X6_listFor N v_o1_pins v_o1_ball r_o1_laneOf r_o1_kinds r_t_firsts r_t_counts r_t_taken = some (z_v_t_size, z_v_t_takesRight, z_v_t_takesLeft, z_r_t_firsts, z_r_t_counts, z_r_t_taken)) : Ct l yX6_listFor wsX6_listFor ⟨2, 0, 0, 45⟩ [.ref q_t, .ref q_o1] D cI cC [(q_t, .inr (6, [.int v_t_size, .ref q_t_firsts, .ref q_t_counts, .ref q_t_taken, .int v_t_takesRight, .int v_t_takesLeft])), (q_o1, .inr (1, [.int v_o1_pins, .int v_o1_lanes, .ref q_o1_kinds, .ref q_o1_laneOf, .ref q_o1_firsts, .ref q_o1_lengths, .int v_o1_ball, .int v_o1_law, .int v_o1_standing, .int v_o1_struck, .ref q_o1_seen])), (q_o1_laneOf, .inl (cI, 9, .inl r_o1_laneOf)), (q_o1_kinds, .inl (cI, 9, .inl r_o1_kinds)), (q_t_firsts, .inl (cI, 27, .inl r_t_firsts)), (q_t_counts, .inl (cI, 27, .inl r_t_counts)), (q_t_taken, .inl (cI, 27, .inl r_t_taken))] sz (fun A => (QV D cI cC A [(q_t, .inr (6, [.int z_v_t_size, .ref q_t_firsts, .ref q_t_counts, .ref q_t_taken, .int z_v_t_takesRight, .int z_v_t_takesLeft])), (q_o1, .inr (1, [.int v_o1_pins, .int v_o1_lanes, .ref q_o1_kinds, .ref q_o1_laneOf, .ref q_o1_firsts, .ref q_o1_lengths, .int v_o1_ball, .int v_o1_law, .int v_o1_standing, .int v_o1_struck, .ref q_o1_seen])), (q_o1_laneOf, .inl (cI, 9, .inl r_o1_laneOf)), (q_o1_kinds, .inl (cI, 9, .inl r_o1_kinds)), (q_t_firsts, .inl (cI, 27, .inl z_r_t_firsts)), (q_t_counts, .inl (cI, 27, .inl z_r_t_counts)), (q_t_taken, .inl (cI, 27, .inl z_r_t_taken))])) := by
  suffices h : ∀ wE : va_W, wE = [(q_t, .inr (6, [.int z_v_t_size, .ref q_t_firsts, .ref q_t_counts, .ref q_t_taken, .int z_v_t_takesRight, .int z_v_t_takesLeft])), (q_o1, .inr (1, [.int v_o1_pins, .int v_o1_lanes, .ref q_o1_kinds, .ref q_o1_laneOf, .ref q_o1_firsts, .ref q_o1_lengths, .int v_o1_ball, .int v_o1_law, .int v_o1_standing, .int v_o1_struck, .ref q_o1_seen])), (q_o1_laneOf, .inl (cI, 9, .inl r_o1_laneOf)), (q_o1_kinds, .inl (cI, 9, .inl r_o1_kinds)), (q_t_firsts, .inl (cI, 27, .inl z_r_t_firsts)), (q_t_counts, .inl (cI, 27, .inl z_r_t_counts)), (q_t_taken, .inl (cI, 27, .inl z_r_t_taken))] → Ct l yX6_listFor wsX6_listFor ⟨2, 0, 0, 45⟩ [.ref q_t, .ref q_o1] D cI cC [(q_t, .inr (6, [.int v_t_size, .ref q_t_firsts, .ref q_t_counts, .ref q_t_taken, .int v_t_takesRight, .int v_t_takesLeft])), (q_o1, .inr (1, [.int v_o1_pins, .int v_o1_lanes, .ref q_o1_kinds, .ref q_o1_laneOf, .ref q_o1_firsts, .ref q_o1_lengths, .int v_o1_ball, .int v_o1_law, .int v_o1_standing, .int v_o1_struck, .ref q_o1_seen])), (q_o1_laneOf, .inl (cI, 9, .inl r_o1_laneOf)), (q_o1_kinds, .inl (cI, 9, .inl r_o1_kinds)), (q_t_firsts, .inl (cI, 27, .inl r_t_firsts)), (q_t_counts, .inl (cI, 27, .inl r_t_counts)), (q_t_taken, .inl (cI, 27, .inl r_t_taken))] sz (fun A => (QV D cI cC A wE)) from h _ rfl
  intro wE hwE
  rw [f_X6_listFor] at hf
  refine Ct.beg cX6_listFor 4 none [(0, .ref q_t), (1, .ref q_o1)] RX6 (by decide) rfl rfl (Nat.le_of_ble_eq_true rfl) rfl (fun p e s m below meth c A hx hb hr hts hown hlk hml hnm hK hP hD hS hA hG ls hl => ?_)
  refine lv_aload_n hx hb dX6_listFor_0 rfl (lv_at hl 0 rfl) ?_
  refine lv_iconst (v := (0 : Int32)) hx hb dX6_listFor_1 (by decide) ?_
  refine va_put (D := D) (ci := 6) (v := .int (0 : Int32)) (ty := .int) (C := RX6) (T := TX6) (N := 6) hx hb hts in_X6_listFor_6 tyX6 tyX6_ok nmX6 hown hK hP hD hS 0 rfl rfl 0 (by decide) (hts (.fieldLink RX6 21 "PinLanes$Strikes" "size" "I") (by decide +kernel)) (fun _ h9 => h9) rfl (by decide +kernel) rfl rfl (Nat.le_of_ble_eq_true rfl) dX6_listFor_2 (fun H locs hP hD hS => ?_)
  have hP : va_P D vwCl [(q_t, .inr (6, [.int (0 : Int32), .ref q_t_firsts, .ref q_t_counts, .ref q_t_taken, .int v_t_takesRight, .int v_t_takesLeft])), (q_o1, .inr (1, [.int v_o1_pins, .int v_o1_lanes, .ref q_o1_kinds, .ref q_o1_laneOf, .ref q_o1_firsts, .ref q_o1_lengths, .int v_o1_ball, .int v_o1_law, .int v_o1_standing, .int v_o1_struck, .ref q_o1_seen])), (q_o1_laneOf, .inl (cI, 9, .inl r_o1_laneOf)), (q_o1_kinds, .inl (cI, 9, .inl r_o1_kinds)), (q_t_firsts, .inl (cI, 27, .inl r_t_firsts)), (q_t_counts, .inl (cI, 27, .inl r_t_counts)), (q_t_taken, .inl (cI, 27, .inl r_t_taken))] H := hP
  have hD : va_D A [(q_t, .inr (6, [.int (0 : Int32), .ref q_t_firsts, .ref q_t_counts, .ref q_t_taken, .int v_t_takesRight, .int v_t_takesLeft])), (q_o1, .inr (1, [.int v_o1_pins, .int v_o1_lanes, .ref q_o1_kinds, .ref q_o1_laneOf, .ref q_o1_firsts, .ref q_o1_lengths, .int v_o1_ball, .int v_o1_law, .int v_o1_standing, .int v_o1_struck, .ref q_o1_seen])), (q_o1_laneOf, .inl (cI, 9, .inl r_o1_laneOf)), (q_o1_kinds, .inl (cI, 9, .inl r_o1_kinds)), (q_t_firsts, .inl (cI, 27, .inl r_t_firsts)), (q_t_counts, .inl (cI, 27, .inl r_t_counts)), (q_t_taken, .inl (cI, 27, .inl r_t_taken))] := hD
  refine lv_aload_n hx hb dX6_listFor_5 rfl (lv_at hl 0 rfl) ?_
  refine lv_iconst (v := (0 : Int32)) hx hb dX6_listFor_6 (by decide) ?_
  refine va_put (D := D) (ci := 6) (v := .int (0 : Int32)) (ty := .int) (C := RX6) (T := TX6) (N := 6) hx hb hts in_X6_listFor_6 tyX6 tyX6_ok nmX6 hown hK hP hD hS 0 rfl rfl 4 (by decide) (hts (.fieldLink RX6 25 "PinLanes$Strikes" "takesRight" "I") (by decide +kernel)) (fun _ h9 => h9) rfl (by decide +kernel) rfl rfl (Nat.le_of_ble_eq_true rfl) dX6_listFor_7 (fun H locs hP hD hS => ?_)
  have hP : va_P D vwCl [(q_t, .inr (6, [.int (0 : Int32), .ref q_t_firsts, .ref q_t_counts, .ref q_t_taken, .int (0 : Int32), .int v_t_takesLeft])), (q_o1, .inr (1, [.int v_o1_pins, .int v_o1_lanes, .ref q_o1_kinds, .ref q_o1_laneOf, .ref q_o1_firsts, .ref q_o1_lengths, .int v_o1_ball, .int v_o1_law, .int v_o1_standing, .int v_o1_struck, .ref q_o1_seen])), (q_o1_laneOf, .inl (cI, 9, .inl r_o1_laneOf)), (q_o1_kinds, .inl (cI, 9, .inl r_o1_kinds)), (q_t_firsts, .inl (cI, 27, .inl r_t_firsts)), (q_t_counts, .inl (cI, 27, .inl r_t_counts)), (q_t_taken, .inl (cI, 27, .inl r_t_taken))] H := hP
  have hD : va_D A [(q_t, .inr (6, [.int (0 : Int32), .ref q_t_firsts, .ref q_t_counts, .ref q_t_taken, .int (0 : Int32), .int v_t_takesLeft])), (q_o1, .inr (1, [.int v_o1_pins, .int v_o1_lanes, .ref q_o1_kinds, .ref q_o1_laneOf, .ref q_o1_firsts, .ref q_o1_lengths, .int v_o1_ball, .int v_o1_law, .int v_o1_standing, .int v_o1_struck, .ref q_o1_seen])), (q_o1_laneOf, .inl (cI, 9, .inl r_o1_laneOf)), (q_o1_kinds, .inl (cI, 9, .inl r_o1_kinds)), (q_t_firsts, .inl (cI, 27, .inl r_t_firsts)), (q_t_counts, .inl (cI, 27, .inl r_t_counts)), (q_t_taken, .inl (cI, 27, .inl r_t_taken))] := hD
  refine lv_aload_n hx hb dX6_listFor_10 rfl (lv_at hl 0 rfl) ?_
  refine lv_iconst (v := (0 : Int32)) hx hb dX6_listFor_11 (by decide) ?_
  refine va_put (D := D) (ci := 6) (v := .int (0 : Int32)) (ty := .int) (C := RX6) (T := TX6) (N := 6) hx hb hts in_X6_listFor_6 tyX6 tyX6_ok nmX6 hown hK hP hD hS 0 rfl rfl 5 (by decide) (hts (.fieldLink RX6 28 "PinLanes$Strikes" "takesLeft" "I") (by decide +kernel)) (fun _ h9 => h9) rfl (by decide +kernel) rfl rfl (Nat.le_of_ble_eq_true rfl) dX6_listFor_12 (fun H locs hP hD hS => ?_)
  have hP : va_P D vwCl [(q_t, .inr (6, [.int (0 : Int32), .ref q_t_firsts, .ref q_t_counts, .ref q_t_taken, .int (0 : Int32), .int (0 : Int32)])), (q_o1, .inr (1, [.int v_o1_pins, .int v_o1_lanes, .ref q_o1_kinds, .ref q_o1_laneOf, .ref q_o1_firsts, .ref q_o1_lengths, .int v_o1_ball, .int v_o1_law, .int v_o1_standing, .int v_o1_struck, .ref q_o1_seen])), (q_o1_laneOf, .inl (cI, 9, .inl r_o1_laneOf)), (q_o1_kinds, .inl (cI, 9, .inl r_o1_kinds)), (q_t_firsts, .inl (cI, 27, .inl r_t_firsts)), (q_t_counts, .inl (cI, 27, .inl r_t_counts)), (q_t_taken, .inl (cI, 27, .inl r_t_taken))] H := hP
  have hD : va_D A [(q_t, .inr (6, [.int (0 : Int32), .ref q_t_firsts, .ref q_t_counts, .ref q_t_taken, .int (0 : Int32), .int (0 : Int32)])), (q_o1, .inr (1, [.int v_o1_pins, .int v_o1_lanes, .ref q_o1_kinds, .ref q_o1_laneOf, .ref q_o1_firsts, .ref q_o1_lengths, .int v_o1_ball, .int v_o1_law, .int v_o1_standing, .int v_o1_struck, .ref q_o1_seen])), (q_o1_laneOf, .inl (cI, 9, .inl r_o1_laneOf)), (q_o1_kinds, .inl (cI, 9, .inl r_o1_kinds)), (q_t_firsts, .inl (cI, 27, .inl r_t_firsts)), (q_t_counts, .inl (cI, 27, .inl r_t_counts)), (q_t_taken, .inl (cI, 27, .inl r_t_taken))] := hD
  refine lv_iconst (v := (0 : Int32)) hx hb dX6_listFor_15 (by decide) ?_
  refine lv_istore_n (lv' := [(2, .int (0 : Int32)), (0, .ref q_t), (1, .ref q_o1)]) hx hb dX6_listFor_16 rfl hl (by decide) rfl (fun ls hl => ?_)
  have hL1 : ∀ (n : Nat) (y2 : Int32) (y3 : Int32) (y4 : Int32) (y5 : Int32) (y6 : Nat → Int32) (y7 : Nat → Int32) (y8 : Nat → Int32) (H : Heap) (locs : List Loc) (ls : Array Slot), va_P D vwCl [(q_t, .inr (6, [.int y3, .ref q_t_firsts, .ref q_t_counts, .ref q_t_taken, .int y4, .int y5])), (q_o1, .inr (1, [.int v_o1_pins, .int v_o1_lanes, .ref q_o1_kinds, .ref q_o1_laneOf, .ref q_o1_firsts, .ref q_o1_lengths, .int v_o1_ball, .int v_o1_law, .int v_o1_standing, .int v_o1_struck, .ref q_o1_seen])), (q_o1_laneOf, .inl (cI, 9, .inl r_o1_laneOf)), (q_o1_kinds, .inl (cI, 9, .inl r_o1_kinds)), (q_t_firsts, .inl (cI, 27, .inl y6)), (q_t_counts, .inl (cI, 27, .inl y7)), (q_t_taken, .inl (cI, 27, .inl y8))] H → va_D A [(q_t, .inr (6, [.int y3, .ref q_t_firsts, .ref q_t_counts, .ref q_t_taken, .int y4, .int y5])), (q_o1, .inr (1, [.int v_o1_pins, .int v_o1_lanes, .ref q_o1_kinds, .ref q_o1_laneOf, .ref q_o1_firsts, .ref q_o1_lengths, .int v_o1_ball, .int v_o1_law, .int v_o1_standing, .int v_o1_struck, .ref q_o1_seen])), (q_o1_laneOf, .inl (cI, 9, .inl r_o1_laneOf)), (q_o1_kinds, .inl (cI, 9, .inl r_o1_kinds)), (q_t_firsts, .inl (cI, 27, .inl y6)), (q_t_counts, .inl (cI, 27, .inl y7)), (q_t_taken, .inl (cI, 27, .inl y8))] → va_S A s.heap H locs → lv_has ls 4 [(0, .ref q_t), (1, .ref q_o1), (2, .int y2)] → f_X6_listFor_L17 N v_o1_pins v_o1_ball r_o1_laneOf r_o1_kinds n y2 y3 y4 y5 y6 y7 y8 = some (z_v_t_size, z_v_t_takesRight, z_v_t_takesLeft, z_r_t_firsts, z_r_t_counts, z_r_t_taken) → W p l e ⟨2, 0, 0, 45⟩ s m ([.ref q_t, .ref q_o1] : List Value).toArray below meth c H locs 0 0 (MQ below (QV D cI cC A wE) ([.ref q_t, .ref q_o1] : List Value).toArray s 0 0 A) (F0 m 17 ls []) := by
    intro n
    induction n with
    | zero => intro y2 y3 y4 y5 y6 y7 y8 H locs ls hP hD hS hl hf; rw [f_X6_listFor_L17] at hf; cases hf
    | succ n ih =>
      intro y2 y3 y4 y5 y6 y7 y8 H locs ls hP hD hS hl hf
      rw [f_X6_listFor_L17] at hf
      refine lv_iload_n hx hb dX6_listFor_17 rfl (lv_at hl 2 rfl) ?_
      refine lv_aload_n hx hb dX6_listFor_18 rfl (lv_at hl 1 rfl) ?_
      refine va_get (D := D) (ci := 1) (v := .int v_o1_pins) (C := RX1) (T := TX1) (N := 11) hx hb hts in_X6_listFor_1 hown hK hP 1 rfl rfl 0 (by decide) (hts (.fieldLink RX6 31 "PinLanes$Green" "pins" "I") (by decide +kernel)) (fun _ h9 => h9) rfl dX6_listFor_19 ?_
      refine lv_icmp_ge (tgt := 116) hx hb dX6_listFor_22 (by decide) (fun c9 => ?_) (fun c9 => ?_)
      · have hf := ip c9 hf
        obtain ⟨e1_, e2_, e3_, e4_, e5_, e6_⟩ := so6 hf
        exact endV hx hb hr hlk hK (by rw [hwE, ← e1_, ← e2_, ← e3_, ← e4_, ← e5_, ← e6_]; exact hP) (by rw [hwE, ← e1_, ← e2_, ← e3_, ← e4_, ← e5_, ← e6_]; exact hD) hS dX6_listFor_116
      · have hf := iq c9 hf
        refine lv_iconst (v := (1 : Int32)) hx hb dX6_listFor_25 (by decide) ?_
        refine lv_istore_n (lv' := [(3, .int (1 : Int32)), (0, .ref q_t), (1, .ref q_o1), (2, .int y2)]) hx hb dX6_listFor_26 rfl hl (by decide) rfl (fun ls hl => ?_)
        have hL10 : ∀ (kk16 : Int32 → (Nat → Int32) → (Nat → Int32) → (Nat → Int32) → Option (Int32 × Int32 × Int32 × (Nat → Int32) × (Nat → Int32) × (Nat → Int32))), (∀ (y17 : Int32) (y18 : Nat → Int32) (y19 : Nat → Int32) (y20 : Nat → Int32) (H : Heap) (locs : List Loc) (ls : Array Slot), va_P D vwCl [(q_t, .inr (6, [.int y17, .ref q_t_firsts, .ref q_t_counts, .ref q_t_taken, .int y4, .int y5])), (q_o1, .inr (1, [.int v_o1_pins, .int v_o1_lanes, .ref q_o1_kinds, .ref q_o1_laneOf, .ref q_o1_firsts, .ref q_o1_lengths, .int v_o1_ball, .int v_o1_law, .int v_o1_standing, .int v_o1_struck, .ref q_o1_seen])), (q_o1_laneOf, .inl (cI, 9, .inl r_o1_laneOf)), (q_o1_kinds, .inl (cI, 9, .inl r_o1_kinds)), (q_t_firsts, .inl (cI, 27, .inl y18)), (q_t_counts, .inl (cI, 27, .inl y19)), (q_t_taken, .inl (cI, 27, .inl y20))] H → va_D A [(q_t, .inr (6, [.int y17, .ref q_t_firsts, .ref q_t_counts, .ref q_t_taken, .int y4, .int y5])), (q_o1, .inr (1, [.int v_o1_pins, .int v_o1_lanes, .ref q_o1_kinds, .ref q_o1_laneOf, .ref q_o1_firsts, .ref q_o1_lengths, .int v_o1_ball, .int v_o1_law, .int v_o1_standing, .int v_o1_struck, .ref q_o1_seen])), (q_o1_laneOf, .inl (cI, 9, .inl r_o1_laneOf)), (q_o1_kinds, .inl (cI, 9, .inl r_o1_kinds)), (q_t_firsts, .inl (cI, 27, .inl y18)), (q_t_counts, .inl (cI, 27, .inl y19)), (q_t_taken, .inl (cI, 27, .inl y20))] → va_S A s.heap H locs → lv_has ls 4 [(0, .ref q_t), (1, .ref q_o1), (2, .int y2)] → kk16 y17 y18 y19 y20 = some (z_v_t_size, z_v_t_takesRight, z_v_t_takesLeft, z_r_t_firsts, z_r_t_counts, z_r_t_taken) → W p l e ⟨2, 0, 0, 45⟩ s m ([.ref q_t, .ref q_o1] : List Value).toArray below meth c H locs 0 0 (MQ below (QV D cI cC A wE) ([.ref q_t, .ref q_o1] : List Value).toArray s 0 0 A) (F0 m 56 ls [])) → ∀ (n : Nat) (y11 : Int32) (y12 : Int32) (y13 : Nat → Int32) (y14 : Nat → Int32) (y15 : Nat → Int32) (H : Heap) (locs : List Loc) (ls : Array Slot), va_P D vwCl [(q_t, .inr (6, [.int y12, .ref q_t_firsts, .ref q_t_counts, .ref q_t_taken, .int y4, .int y5])), (q_o1, .inr (1, [.int v_o1_pins, .int v_o1_lanes, .ref q_o1_kinds, .ref q_o1_laneOf, .ref q_o1_firsts, .ref q_o1_lengths, .int v_o1_ball, .int v_o1_law, .int v_o1_standing, .int v_o1_struck, .ref q_o1_seen])), (q_o1_laneOf, .inl (cI, 9, .inl r_o1_laneOf)), (q_o1_kinds, .inl (cI, 9, .inl r_o1_kinds)), (q_t_firsts, .inl (cI, 27, .inl y13)), (q_t_counts, .inl (cI, 27, .inl y14)), (q_t_taken, .inl (cI, 27, .inl y15))] H → va_D A [(q_t, .inr (6, [.int y12, .ref q_t_firsts, .ref q_t_counts, .ref q_t_taken, .int y4, .int y5])), (q_o1, .inr (1, [.int v_o1_pins, .int v_o1_lanes, .ref q_o1_kinds, .ref q_o1_laneOf, .ref q_o1_firsts, .ref q_o1_lengths, .int v_o1_ball, .int v_o1_law, .int v_o1_standing, .int v_o1_struck, .ref q_o1_seen])), (q_o1_laneOf, .inl (cI, 9, .inl r_o1_laneOf)), (q_o1_kinds, .inl (cI, 9, .inl r_o1_kinds)), (q_t_firsts, .inl (cI, 27, .inl y13)), (q_t_counts, .inl (cI, 27, .inl y14)), (q_t_taken, .inl (cI, 27, .inl y15))] → va_S A s.heap H locs → lv_has ls 4 [(0, .ref q_t), (1, .ref q_o1), (2, .int y2), (3, .int y11)] → f_X6_listFor_L27 N y2 v_o1_pins v_o1_ball r_o1_laneOf r_o1_kinds kk16 n y11 y12 y13 y14 y15 = some (z_v_t_size, z_v_t_takesRight, z_v_t_takesLeft, z_r_t_firsts, z_r_t_counts, z_r_t_taken) → W p l e ⟨2, 0, 0, 45⟩ s m ([.ref q_t, .ref q_o1] : List Value).toArray below meth c H locs 0 0 (MQ below (QV D cI cC A wE) ([.ref q_t, .ref q_o1] : List Value).toArray s 0 0 A) (F0 m 27 ls []) := by
          intro kk16 hk21 n
          induction n with
          | zero => intro y11 y12 y13 y14 y15 H locs ls hP hD hS hl hf; rw [f_X6_listFor_L27] at hf; cases hf
          | succ n ih =>
            intro y11 y12 y13 y14 y15 H locs ls hP hD hS hl hf
            rw [f_X6_listFor_L27] at hf
            refine lv_iload_n hx hb dX6_listFor_27 rfl (lv_at hl 3 rfl) ?_
            refine lv_aload_n hx hb dX6_listFor_28 rfl (lv_at hl 1 rfl) ?_
            refine va_get (D := D) (ci := 1) (v := .int v_o1_ball) (C := RX1) (T := TX1) (N := 11) hx hb hts in_X6_listFor_1 hown hK hP 1 rfl rfl 6 (by decide) (hts (.fieldLink RX6 36 "PinLanes$Green" "ball" "I") (by decide +kernel)) (fun _ h9 => h9) rfl dX6_listFor_29 ?_
            refine lv_icmp_gt (tgt := 56) hx hb dX6_listFor_32 (by decide) (fun c22 => ?_) (fun c22 => ?_)
            · have hf := ip c22 hf
              exact hk21 y12 y13 y14 y15 _ _ _ hP hD hS (lv_sub hl [0, 1, 2] rfl) hf
            · have hf := iq c22 hf
              refine lv_aload_n hx hb dX6_listFor_35 rfl (lv_at hl 1 rfl) ?_
              refine lv_iload_n hx hb dX6_listFor_36 rfl (lv_at hl 2 rfl) ?_
              refine lv_iload_n hx hb dX6_listFor_37 rfl (lv_at hl 3 rfl) ?_
              obtain ⟨a23, hra23, hf⟩ := ob1_e hf
              refine callVi (As := [.int y2, .int y11]) (rest := []) (wn := [(q_t, .inr (6, [.int y12, .ref q_t_firsts, .ref q_t_counts, .ref q_t_taken, .int y4, .int y5])), (q_o1, .inr (1, [.int v_o1_pins, .int v_o1_lanes, .ref q_o1_kinds, .ref q_o1_laneOf, .ref q_o1_firsts, .ref q_o1_lengths, .int v_o1_ball, .int v_o1_law, .int v_o1_standing, .int v_o1_struck, .ref q_o1_seen])), (q_o1_laneOf, .inl (cI, 9, .inl r_o1_laneOf)), (q_o1_kinds, .inl (cI, 9, .inl r_o1_kinds)), (q_t_firsts, .inl (cI, 27, .inl y13)), (q_t_counts, .inl (cI, 27, .inl y14)), (q_t_taken, .inl (cI, 27, .inl y15))]) (q0 := 0) (ci := 1) ⟨hx, hb, hml, hown, hts⟩ (c_X1_canBeTaken l D cI cC N _ q_o1 q_o1_kinds q_o1_laneOf q_o1_firsts q_o1_lengths q_o1_seen v_o1_pins v_o1_lanes v_o1_ball v_o1_law v_o1_standing v_o1_struck r_o1_laneOf r_o1_kinds y2 y11 a23 hra23) (cwV 2 hts gX6_listFor_X1_canBeTaken rfl rfl rfl (by decide +kernel) ⟨Nat.le_of_ble_eq_true rfl, Nat.le_of_ble_eq_true rfl⟩) hK hP hD hS hA hG (Cut.mk [1, 2, 3] [0, 4, 5, 6] [0, 4, 5, 6, 1, 2, 3] [(q_t, .inr (6, [.int y12, .ref q_t_firsts, .ref q_t_counts, .ref q_t_taken, .int y4, .int y5])), (q_t_firsts, .inl (cI, 27, .inl y13)), (q_t_counts, .inl (cI, 27, .inl y14)), (q_t_taken, .inl (cI, 27, .inl y15))] rfl rfl rfl rfl (by decide) rfl rfl) rfl rfl rfl rfl hl.1 rfl (Nat.le_of_ble_eq_true rfl) ⟨Nat.zero_le _, Nat.zero_le _⟩ dX6_listFor_38 (fun H locs hP hD hS => ?_)
              obtain ⟨j28, ej28, hf⟩ := jm_e hf
              have hj28 : ∀ (y24 : Int32) (y25 : Nat → Int32) (y26 : Nat → Int32) (y27 : Nat → Int32) (H : Heap) (locs : List Loc) (ls : Array Slot), va_P D vwCl [(q_t, .inr (6, [.int y24, .ref q_t_firsts, .ref q_t_counts, .ref q_t_taken, .int y4, .int y5])), (q_o1, .inr (1, [.int v_o1_pins, .int v_o1_lanes, .ref q_o1_kinds, .ref q_o1_laneOf, .ref q_o1_firsts, .ref q_o1_lengths, .int v_o1_ball, .int v_o1_law, .int v_o1_standing, .int v_o1_struck, .ref q_o1_seen])), (q_o1_laneOf, .inl (cI, 9, .inl r_o1_laneOf)), (q_o1_kinds, .inl (cI, 9, .inl r_o1_kinds)), (q_t_firsts, .inl (cI, 27, .inl y25)), (q_t_counts, .inl (cI, 27, .inl y26)), (q_t_taken, .inl (cI, 27, .inl y27))] H → va_D A [(q_t, .inr (6, [.int y24, .ref q_t_firsts, .ref q_t_counts, .ref q_t_taken, .int y4, .int y5])), (q_o1, .inr (1, [.int v_o1_pins, .int v_o1_lanes, .ref q_o1_kinds, .ref q_o1_laneOf, .ref q_o1_firsts, .ref q_o1_lengths, .int v_o1_ball, .int v_o1_law, .int v_o1_standing, .int v_o1_struck, .ref q_o1_seen])), (q_o1_laneOf, .inl (cI, 9, .inl r_o1_laneOf)), (q_o1_kinds, .inl (cI, 9, .inl r_o1_kinds)), (q_t_firsts, .inl (cI, 27, .inl y25)), (q_t_counts, .inl (cI, 27, .inl y26)), (q_t_taken, .inl (cI, 27, .inl y27))] → va_S A s.heap H locs → lv_has ls 4 [(0, .ref q_t), (1, .ref q_o1), (2, .int y2), (3, .int y11)] → j28 y24 y25 y26 y27 = some (z_v_t_size, z_v_t_takesRight, z_v_t_takesLeft, z_r_t_firsts, z_r_t_counts, z_r_t_taken) → W p l e ⟨2, 0, 0, 45⟩ s m ([.ref q_t, .ref q_o1] : List Value).toArray below meth c H locs 0 0 (MQ below (QV D cI cC A wE) ([.ref q_t, .ref q_o1] : List Value).toArray s 0 0 A) (F0 m 50 ls []) := by
                intro y24 y25 y26 y27 H locs ls hP hD hS hl hf
                rw [ej28] at hf
                refine lv_iinc (v := y11 + (1 : Int32)) (lv' := [(3, .int (y11 + (1 : Int32))), (0, .ref q_t), (1, .ref q_o1), (2, .int y2)]) hx hb dX6_listFor_50 hl (k := 3) rfl rfl (by decide) rfl (fun ls hl => ?_)
                refine lv_goto (tgt := 27) hx hb dX6_listFor_53 (by decide) ?_
                exact ih (y11 + (1 : Int32)) y24 y25 y26 y27 _ _ _ hP hD hS (lv_sub hl [1, 2, 3, 0] rfl) hf
              refine lv_if_eq (tgt := 50) hx hb dX6_listFor_41 (by decide) (fun c29 => ?_) (fun c29 => ?_)
              · have hf := ip c29 hf
                exact hj28 y12 y13 y14 y15 _ _ _ hP hD hS (lv_sub hl [0, 1, 2, 3] rfl) hf
              · have hf := iq c29 hf
                refine lv_aload_n hx hb dX6_listFor_44 rfl (lv_at hl 0 rfl) ?_
                refine lv_iload_n hx hb dX6_listFor_45 rfl (lv_at hl 2 rfl) ?_
                refine lv_iload_n hx hb dX6_listFor_46 rfl (lv_at hl 3 rfl) ?_
                obtain ⟨a30, a31, a32, a33, hra30, hf⟩ := ob4_e hf
                refine callVv (As := [.int y2, .int y11]) (rest := []) (wn := [(q_t, .inr (6, [.int a30, .ref q_t_firsts, .ref q_t_counts, .ref q_t_taken, .int y4, .int y5])), (q_o1, .inr (1, [.int v_o1_pins, .int v_o1_lanes, .ref q_o1_kinds, .ref q_o1_laneOf, .ref q_o1_firsts, .ref q_o1_lengths, .int v_o1_ball, .int v_o1_law, .int v_o1_standing, .int v_o1_struck, .ref q_o1_seen])), (q_o1_laneOf, .inl (cI, 9, .inl r_o1_laneOf)), (q_o1_kinds, .inl (cI, 9, .inl r_o1_kinds)), (q_t_firsts, .inl (cI, 27, .inl a31)), (q_t_counts, .inl (cI, 27, .inl a32)), (q_t_taken, .inl (cI, 27, .inl a33))]) (q0 := 0) (ci := 6) ⟨hx, hb, hml, hown, hts⟩ (c_X6_add l D cI cC N _ q_t q_t_firsts q_t_counts q_t_taken y12 y4 y5 y13 y14 y15 y2 y11 a30 a31 a32 a33 hra30) (cwV 2 hts gX6_listFor_X6_add rfl rfl rfl (by decide +kernel) ⟨Nat.le_of_ble_eq_true rfl, Nat.le_of_ble_eq_true rfl⟩) hK hP hD hS hA hG (Cut.mk [0, 4, 5, 6] [1, 2, 3] [3, 0, 1, 2, 4, 5, 6] [(q_o1, .inr (1, [.int v_o1_pins, .int v_o1_lanes, .ref q_o1_kinds, .ref q_o1_laneOf, .ref q_o1_firsts, .ref q_o1_lengths, .int v_o1_ball, .int v_o1_law, .int v_o1_standing, .int v_o1_struck, .ref q_o1_seen])), (q_o1_laneOf, .inl (cI, 9, .inl r_o1_laneOf)), (q_o1_kinds, .inl (cI, 9, .inl r_o1_kinds))] rfl rfl rfl rfl (by decide) rfl rfl) rfl rfl rfl rfl hl.1 rfl (Nat.le_of_ble_eq_true rfl) ⟨Nat.zero_le _, Nat.zero_le _⟩ dX6_listFor_47 (fun H locs hP hD hS => ?_)
                exact hj28 a30 a31 a32 a33 _ _ _ hP hD hS (lv_sub hl [0, 1, 2, 3] rfl) hf
        refine hL10 _ (fun y17 y18 y19 y20 H locs ls hP hD hS hl hf => ?_) N (1 : Int32) y3 y6 y7 y8 _ _ _ hP hD hS (lv_sub hl [1, 2, 3, 0] rfl) hf
        refine lv_aload_n hx hb dX6_listFor_56 rfl (lv_at hl 0 rfl) ?_
        refine lv_dup hx hb dX6_listFor_57 rfl ?_
        refine va_get (D := D) (ci := 6) (v := .int y4) (C := RX6) (T := TX6) (N := 6) hx hb hts in_X6_listFor_6 hown hK hP 0 rfl rfl 4 (by decide) (hts (.fieldLink RX6 25 "PinLanes$Strikes" "takesRight" "I") (by decide +kernel)) (fun _ h9 => h9) rfl dX6_listFor_58 ?_
        refine lv_aload_n hx hb dX6_listFor_61 rfl (lv_at hl 1 rfl) ?_
        refine lv_iload_n hx hb dX6_listFor_62 rfl (lv_at hl 2 rfl) ?_
        refine lv_iload_n hx hb dX6_listFor_63 rfl (lv_at hl 2 rfl) ?_
        refine lv_iconst (v := (1 : Int32)) hx hb dX6_listFor_64 (by decide) ?_
        refine lv_iadd hx hb dX6_listFor_65 ?_
        obtain ⟨a34, hra34, hf⟩ := ob1_e hf
        refine callVi (As := [.int y2, .int (y2 + (1 : Int32))]) (rest := [.int y4, .ref q_t]) (wn := [(q_t, .inr (6, [.int y17, .ref q_t_firsts, .ref q_t_counts, .ref q_t_taken, .int y4, .int y5])), (q_o1, .inr (1, [.int v_o1_pins, .int v_o1_lanes, .ref q_o1_kinds, .ref q_o1_laneOf, .ref q_o1_firsts, .ref q_o1_lengths, .int v_o1_ball, .int v_o1_law, .int v_o1_standing, .int v_o1_struck, .ref q_o1_seen])), (q_o1_laneOf, .inl (cI, 9, .inl r_o1_laneOf)), (q_o1_kinds, .inl (cI, 9, .inl r_o1_kinds)), (q_t_firsts, .inl (cI, 27, .inl y18)), (q_t_counts, .inl (cI, 27, .inl y19)), (q_t_taken, .inl (cI, 27, .inl y20))]) (q0 := 0) (ci := 1) ⟨hx, hb, hml, hown, hts⟩ (c_X1_takesAlong l D cI cC N _ q_o1 q_o1_kinds q_o1_laneOf q_o1_firsts q_o1_lengths q_o1_seen v_o1_pins v_o1_lanes v_o1_ball v_o1_law v_o1_standing v_o1_struck r_o1_laneOf r_o1_kinds y2 (y2 + (1 : Int32)) a34 hra34) (cwV 2 hts gX6_listFor_X1_takesAlong rfl rfl rfl (by decide +kernel) ⟨Nat.le_of_ble_eq_true rfl, Nat.le_of_ble_eq_true rfl⟩) hK hP hD hS hA hG (Cut.mk [1, 2, 3] [0, 4, 5, 6] [0, 4, 5, 6, 1, 2, 3] [(q_t, .inr (6, [.int y17, .ref q_t_firsts, .ref q_t_counts, .ref q_t_taken, .int y4, .int y5])), (q_t_firsts, .inl (cI, 27, .inl y18)), (q_t_counts, .inl (cI, 27, .inl y19)), (q_t_taken, .inl (cI, 27, .inl y20))] rfl rfl rfl rfl (by decide) rfl rfl) rfl rfl rfl rfl hl.1 rfl (Nat.le_of_ble_eq_true rfl) ⟨Nat.zero_le _, Nat.zero_le _⟩ dX6_listFor_66 (fun H locs hP hD hS => ?_)
        obtain ⟨j36, ej36, hf⟩ := jm_e hf
        have hj36 : ∀ (y35 : Int32) (H : Heap) (locs : List Loc) (ls : Array Slot), va_P D vwCl [(q_t, .inr (6, [.int y17, .ref q_t_firsts, .ref q_t_counts, .ref q_t_taken, .int y4, .int y5])), (q_o1, .inr (1, [.int v_o1_pins, .int v_o1_lanes, .ref q_o1_kinds, .ref q_o1_laneOf, .ref q_o1_firsts, .ref q_o1_lengths, .int v_o1_ball, .int v_o1_law, .int v_o1_standing, .int v_o1_struck, .ref q_o1_seen])), (q_o1_laneOf, .inl (cI, 9, .inl r_o1_laneOf)), (q_o1_kinds, .inl (cI, 9, .inl r_o1_kinds)), (q_t_firsts, .inl (cI, 27, .inl y18)), (q_t_counts, .inl (cI, 27, .inl y19)), (q_t_taken, .inl (cI, 27, .inl y20))] H → va_D A [(q_t, .inr (6, [.int y17, .ref q_t_firsts, .ref q_t_counts, .ref q_t_taken, .int y4, .int y5])), (q_o1, .inr (1, [.int v_o1_pins, .int v_o1_lanes, .ref q_o1_kinds, .ref q_o1_laneOf, .ref q_o1_firsts, .ref q_o1_lengths, .int v_o1_ball, .int v_o1_law, .int v_o1_standing, .int v_o1_struck, .ref q_o1_seen])), (q_o1_laneOf, .inl (cI, 9, .inl r_o1_laneOf)), (q_o1_kinds, .inl (cI, 9, .inl r_o1_kinds)), (q_t_firsts, .inl (cI, 27, .inl y18)), (q_t_counts, .inl (cI, 27, .inl y19)), (q_t_taken, .inl (cI, 27, .inl y20))] → va_S A s.heap H locs → lv_has ls 4 [(0, .ref q_t), (1, .ref q_o1), (2, .int y2)] → j36 y35 = some (z_v_t_size, z_v_t_takesRight, z_v_t_takesLeft, z_r_t_firsts, z_r_t_counts, z_r_t_taken) → W p l e ⟨2, 0, 0, 45⟩ s m ([.ref q_t, .ref q_o1] : List Value).toArray below meth c H locs 0 0 (MQ below (QV D cI cC A wE) ([.ref q_t, .ref q_o1] : List Value).toArray s 0 0 A) (F0 m 79 ls [.int y35, .int y4, .ref q_t]) := by
          intro y35 H locs ls hP hD hS hl hf
          rw [ej36] at hf
          refine lv_ior hx hb dX6_listFor_79 ?_
          refine va_put (D := D) (ci := 6) (v := .int (y4 ||| y35)) (ty := .int) (C := RX6) (T := TX6) (N := 6) hx hb hts in_X6_listFor_6 tyX6 tyX6_ok nmX6 hown hK hP hD hS 0 rfl rfl 4 (by decide) (hts (.fieldLink RX6 25 "PinLanes$Strikes" "takesRight" "I") (by decide +kernel)) (fun _ h9 => h9) rfl (by decide +kernel) rfl rfl (Nat.le_of_ble_eq_true rfl) dX6_listFor_80 (fun H locs hP hD hS => ?_)
          have hP : va_P D vwCl [(q_t, .inr (6, [.int y17, .ref q_t_firsts, .ref q_t_counts, .ref q_t_taken, .int (y4 ||| y35), .int y5])), (q_o1, .inr (1, [.int v_o1_pins, .int v_o1_lanes, .ref q_o1_kinds, .ref q_o1_laneOf, .ref q_o1_firsts, .ref q_o1_lengths, .int v_o1_ball, .int v_o1_law, .int v_o1_standing, .int v_o1_struck, .ref q_o1_seen])), (q_o1_laneOf, .inl (cI, 9, .inl r_o1_laneOf)), (q_o1_kinds, .inl (cI, 9, .inl r_o1_kinds)), (q_t_firsts, .inl (cI, 27, .inl y18)), (q_t_counts, .inl (cI, 27, .inl y19)), (q_t_taken, .inl (cI, 27, .inl y20))] H := hP
          have hD : va_D A [(q_t, .inr (6, [.int y17, .ref q_t_firsts, .ref q_t_counts, .ref q_t_taken, .int (y4 ||| y35), .int y5])), (q_o1, .inr (1, [.int v_o1_pins, .int v_o1_lanes, .ref q_o1_kinds, .ref q_o1_laneOf, .ref q_o1_firsts, .ref q_o1_lengths, .int v_o1_ball, .int v_o1_law, .int v_o1_standing, .int v_o1_struck, .ref q_o1_seen])), (q_o1_laneOf, .inl (cI, 9, .inl r_o1_laneOf)), (q_o1_kinds, .inl (cI, 9, .inl r_o1_kinds)), (q_t_firsts, .inl (cI, 27, .inl y18)), (q_t_counts, .inl (cI, 27, .inl y19)), (q_t_taken, .inl (cI, 27, .inl y20))] := hD
          refine lv_aload_n hx hb dX6_listFor_83 rfl (lv_at hl 0 rfl) ?_
          refine lv_dup hx hb dX6_listFor_84 rfl ?_
          refine va_get (D := D) (ci := 6) (v := .int y5) (C := RX6) (T := TX6) (N := 6) hx hb hts in_X6_listFor_6 hown hK hP 0 rfl rfl 5 (by decide) (hts (.fieldLink RX6 28 "PinLanes$Strikes" "takesLeft" "I") (by decide +kernel)) (fun _ h9 => h9) rfl dX6_listFor_85 ?_
          refine lv_aload_n hx hb dX6_listFor_88 rfl (lv_at hl 1 rfl) ?_
          refine lv_iload_n hx hb dX6_listFor_89 rfl (lv_at hl 2 rfl) ?_
          refine lv_iload_n hx hb dX6_listFor_90 rfl (lv_at hl 2 rfl) ?_
          refine lv_iconst (v := (1 : Int32)) hx hb dX6_listFor_91 (by decide) ?_
          refine lv_isub hx hb dX6_listFor_92 ?_
          obtain ⟨a37, hra37, hf⟩ := ob1_e hf
          refine callVi (As := [.int y2, .int (y2 - (1 : Int32))]) (rest := [.int y5, .ref q_t]) (wn := [(q_t, .inr (6, [.int y17, .ref q_t_firsts, .ref q_t_counts, .ref q_t_taken, .int (y4 ||| y35), .int y5])), (q_o1, .inr (1, [.int v_o1_pins, .int v_o1_lanes, .ref q_o1_kinds, .ref q_o1_laneOf, .ref q_o1_firsts, .ref q_o1_lengths, .int v_o1_ball, .int v_o1_law, .int v_o1_standing, .int v_o1_struck, .ref q_o1_seen])), (q_o1_laneOf, .inl (cI, 9, .inl r_o1_laneOf)), (q_o1_kinds, .inl (cI, 9, .inl r_o1_kinds)), (q_t_firsts, .inl (cI, 27, .inl y18)), (q_t_counts, .inl (cI, 27, .inl y19)), (q_t_taken, .inl (cI, 27, .inl y20))]) (q0 := 0) (ci := 1) ⟨hx, hb, hml, hown, hts⟩ (c_X1_takesAlong l D cI cC N _ q_o1 q_o1_kinds q_o1_laneOf q_o1_firsts q_o1_lengths q_o1_seen v_o1_pins v_o1_lanes v_o1_ball v_o1_law v_o1_standing v_o1_struck r_o1_laneOf r_o1_kinds y2 (y2 - (1 : Int32)) a37 hra37) (cwV 2 hts gX6_listFor_X1_takesAlong rfl rfl rfl (by decide +kernel) ⟨Nat.le_of_ble_eq_true rfl, Nat.le_of_ble_eq_true rfl⟩) hK hP hD hS hA hG (Cut.mk [1, 2, 3] [0, 4, 5, 6] [0, 4, 5, 6, 1, 2, 3] [(q_t, .inr (6, [.int y17, .ref q_t_firsts, .ref q_t_counts, .ref q_t_taken, .int (y4 ||| y35), .int y5])), (q_t_firsts, .inl (cI, 27, .inl y18)), (q_t_counts, .inl (cI, 27, .inl y19)), (q_t_taken, .inl (cI, 27, .inl y20))] rfl rfl rfl rfl (by decide) rfl rfl) rfl rfl rfl rfl hl.1 rfl (Nat.le_of_ble_eq_true rfl) ⟨Nat.zero_le _, Nat.zero_le _⟩ dX6_listFor_93 (fun H locs hP hD hS => ?_)
          obtain ⟨j39, ej39, hf⟩ := jm_e hf
          have hj39 : ∀ (y38 : Int32) (H : Heap) (locs : List Loc) (ls : Array Slot), va_P D vwCl [(q_t, .inr (6, [.int y17, .ref q_t_firsts, .ref q_t_counts, .ref q_t_taken, .int (y4 ||| y35), .int y5])), (q_o1, .inr (1, [.int v_o1_pins, .int v_o1_lanes, .ref q_o1_kinds, .ref q_o1_laneOf, .ref q_o1_firsts, .ref q_o1_lengths, .int v_o1_ball, .int v_o1_law, .int v_o1_standing, .int v_o1_struck, .ref q_o1_seen])), (q_o1_laneOf, .inl (cI, 9, .inl r_o1_laneOf)), (q_o1_kinds, .inl (cI, 9, .inl r_o1_kinds)), (q_t_firsts, .inl (cI, 27, .inl y18)), (q_t_counts, .inl (cI, 27, .inl y19)), (q_t_taken, .inl (cI, 27, .inl y20))] H → va_D A [(q_t, .inr (6, [.int y17, .ref q_t_firsts, .ref q_t_counts, .ref q_t_taken, .int (y4 ||| y35), .int y5])), (q_o1, .inr (1, [.int v_o1_pins, .int v_o1_lanes, .ref q_o1_kinds, .ref q_o1_laneOf, .ref q_o1_firsts, .ref q_o1_lengths, .int v_o1_ball, .int v_o1_law, .int v_o1_standing, .int v_o1_struck, .ref q_o1_seen])), (q_o1_laneOf, .inl (cI, 9, .inl r_o1_laneOf)), (q_o1_kinds, .inl (cI, 9, .inl r_o1_kinds)), (q_t_firsts, .inl (cI, 27, .inl y18)), (q_t_counts, .inl (cI, 27, .inl y19)), (q_t_taken, .inl (cI, 27, .inl y20))] → va_S A s.heap H locs → lv_has ls 4 [(0, .ref q_t), (1, .ref q_o1), (2, .int y2)] → j39 y38 = some (z_v_t_size, z_v_t_takesRight, z_v_t_takesLeft, z_r_t_firsts, z_r_t_counts, z_r_t_taken) → W p l e ⟨2, 0, 0, 45⟩ s m ([.ref q_t, .ref q_o1] : List Value).toArray below meth c H locs 0 0 (MQ below (QV D cI cC A wE) ([.ref q_t, .ref q_o1] : List Value).toArray s 0 0 A) (F0 m 106 ls [.int y38, .int y5, .ref q_t]) := by
            intro y38 H locs ls hP hD hS hl hf
            rw [ej39] at hf
            refine lv_ior hx hb dX6_listFor_106 ?_
            refine va_put (D := D) (ci := 6) (v := .int (y5 ||| y38)) (ty := .int) (C := RX6) (T := TX6) (N := 6) hx hb hts in_X6_listFor_6 tyX6 tyX6_ok nmX6 hown hK hP hD hS 0 rfl rfl 5 (by decide) (hts (.fieldLink RX6 28 "PinLanes$Strikes" "takesLeft" "I") (by decide +kernel)) (fun _ h9 => h9) rfl (by decide +kernel) rfl rfl (Nat.le_of_ble_eq_true rfl) dX6_listFor_107 (fun H locs hP hD hS => ?_)
            have hP : va_P D vwCl [(q_t, .inr (6, [.int y17, .ref q_t_firsts, .ref q_t_counts, .ref q_t_taken, .int (y4 ||| y35), .int (y5 ||| y38)])), (q_o1, .inr (1, [.int v_o1_pins, .int v_o1_lanes, .ref q_o1_kinds, .ref q_o1_laneOf, .ref q_o1_firsts, .ref q_o1_lengths, .int v_o1_ball, .int v_o1_law, .int v_o1_standing, .int v_o1_struck, .ref q_o1_seen])), (q_o1_laneOf, .inl (cI, 9, .inl r_o1_laneOf)), (q_o1_kinds, .inl (cI, 9, .inl r_o1_kinds)), (q_t_firsts, .inl (cI, 27, .inl y18)), (q_t_counts, .inl (cI, 27, .inl y19)), (q_t_taken, .inl (cI, 27, .inl y20))] H := hP
            have hD : va_D A [(q_t, .inr (6, [.int y17, .ref q_t_firsts, .ref q_t_counts, .ref q_t_taken, .int (y4 ||| y35), .int (y5 ||| y38)])), (q_o1, .inr (1, [.int v_o1_pins, .int v_o1_lanes, .ref q_o1_kinds, .ref q_o1_laneOf, .ref q_o1_firsts, .ref q_o1_lengths, .int v_o1_ball, .int v_o1_law, .int v_o1_standing, .int v_o1_struck, .ref q_o1_seen])), (q_o1_laneOf, .inl (cI, 9, .inl r_o1_laneOf)), (q_o1_kinds, .inl (cI, 9, .inl r_o1_kinds)), (q_t_firsts, .inl (cI, 27, .inl y18)), (q_t_counts, .inl (cI, 27, .inl y19)), (q_t_taken, .inl (cI, 27, .inl y20))] := hD
            refine lv_iinc (v := y2 + (1 : Int32)) (lv' := [(2, .int (y2 + (1 : Int32))), (0, .ref q_t), (1, .ref q_o1)]) hx hb dX6_listFor_110 hl (k := 2) rfl rfl (by decide) rfl (fun ls hl => ?_)
            refine lv_goto (tgt := 17) hx hb dX6_listFor_113 (by decide) ?_
            exact ih (y2 + (1 : Int32)) y17 (y4 ||| y35) (y5 ||| y38) y18 y19 y20 _ _ _ hP hD hS (lv_sub hl [1, 2, 0] rfl) hf
          refine lv_if_eq (tgt := 105) hx hb dX6_listFor_96 (by decide) (fun c40 => ?_) (fun c40 => ?_)
          · have hf := ip c40 hf
            refine lv_iconst (v := (0 : Int32)) hx hb dX6_listFor_105 (by decide) ?_
            exact hj39 (0 : Int32) _ _ _ hP hD hS (lv_sub hl [0, 1, 2] rfl) hf
          · have hf := iq c40 hf
            refine lv_iconst (v := (1 : Int32)) hx hb dX6_listFor_99 (by decide) ?_
            refine lv_iload_n hx hb dX6_listFor_100 rfl (lv_at hl 2 rfl) ?_
            refine lv_ishl hx hb dX6_listFor_101 ?_
            refine lv_goto (tgt := 106) hx hb dX6_listFor_102 (by decide) ?_
            exact hj39 ((1 : Int32) <<< (y2 &&& 31)) _ _ _ hP hD hS (lv_sub hl [0, 1, 2] rfl) hf
        refine lv_if_eq (tgt := 78) hx hb dX6_listFor_69 (by decide) (fun c41 => ?_) (fun c41 => ?_)
        · have hf := ip c41 hf
          refine lv_iconst (v := (0 : Int32)) hx hb dX6_listFor_78 (by decide) ?_
          exact hj36 (0 : Int32) _ _ _ hP hD hS (lv_sub hl [0, 1, 2] rfl) hf
        · have hf := iq c41 hf
          refine lv_iconst (v := (1 : Int32)) hx hb dX6_listFor_72 (by decide) ?_
          refine lv_iload_n hx hb dX6_listFor_73 rfl (lv_at hl 2 rfl) ?_
          refine lv_ishl hx hb dX6_listFor_74 ?_
          refine lv_goto (tgt := 79) hx hb dX6_listFor_75 (by decide) ?_
          exact hj36 ((1 : Int32) <<< (y2 &&& 31)) _ _ _ hP hD hS (lv_sub hl [0, 1, 2] rfl) hf
  exact hL1 N (0 : Int32) (0 : Int32) (0 : Int32) (0 : Int32) r_t_firsts r_t_counts r_t_taken _ _ _ hP hD hS (lv_sub hl [1, 2, 0] rfl) hf
