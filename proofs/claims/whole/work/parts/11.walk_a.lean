-- X0_draw
set_option maxRecDepth 20000 in
theorem in_X0_draw_0 : ∀ w ∈ wsX00, w ∈ wsX0_draw := by decide +kernel
set_option maxHeartbeats 4000000 in
set_option maxRecDepth 100000 in
theorem c_X0_draw (l : Launch) (D : va_G) (cI cC : ClassId) (N sz : Nat) (q_t : Nat) (v_t_won : Int32) (v_t_pinsFallen : Int32) (v_t_seed : Int64) (x1 : Int32) (z0 : Int32) (z_v_t_seed : Int64) (hf : f_X0_draw N v_t_seed x1 = some (z0, z_v_t_seed)) : Ct l yX0_draw wsX0_draw ⟨0, 0, 0, 0⟩ [.ref q_t, .int x1] D cI cC [(q_t, .inr (0, [.int v_t_won, .int v_t_pinsFallen, .long v_t_seed]))] sz (fun A => (QI D cI cC A [(q_t, .inr (0, [.int v_t_won, .int v_t_pinsFallen, .long z_v_t_seed]))] z0)) := by
  suffices h : ∀ wE : va_W, wE = [(q_t, .inr (0, [.int v_t_won, .int v_t_pinsFallen, .long z_v_t_seed]))] → Ct l yX0_draw wsX0_draw ⟨0, 0, 0, 0⟩ [.ref q_t, .int x1] D cI cC [(q_t, .inr (0, [.int v_t_won, .int v_t_pinsFallen, .long v_t_seed]))] sz (fun A => (QI D cI cC A wE z0)) from h _ rfl
  intro wE hwE
  rw [f_X0_draw] at hf
  refine Ct.beg cX0_draw 2 (some .int) [(0, .ref q_t), (1, .int x1)] RX0 (by decide) rfl rfl (Nat.le_of_ble_eq_true rfl) rfl (fun p e s m below meth c A hx hb hr hts hown hlk hml hnm hK hP hD hS hA hG ls hl => ?_)
  refine lv_aload_n hx hb dX0_draw_0 rfl (lv_at hl 0 rfl) ?_
  refine lv_ldc2 (v := (1103515245 : Int64)) hx hb hown (hts (.constantLong RX0 52 (1103515245)) (by decide +kernel)) dX0_draw_1 ?_
  refine lv_aload_n hx hb dX0_draw_4 rfl (lv_at hl 0 rfl) ?_
  refine va_get (D := D) (ci := 0) (v := .long v_t_seed) (C := RX0) (T := TX0) (N := 3) hx hb hts in_X0_draw_0 hown hK hP 0 rfl rfl 2 (by decide) (hts (.fieldLink RX0 18 "PinLanes$Games" "seed" "J") (by decide +kernel)) (fun _ h9 => h9) rfl dX0_draw_5 ?_
  refine lv_lmul hx hb dX0_draw_8 ?_
  refine lv_ldc2 (v := (12345 : Int64)) hx hb hown (hts (.constantLong RX0 54 (12345)) (by decide +kernel)) dX0_draw_9 ?_
  refine lv_ladd hx hb dX0_draw_12 ?_
  refine lv_ldc2 (v := (2147483648 : Int64)) hx hb hown (hts (.constantLong RX0 56 (2147483648)) (by decide +kernel)) dX0_draw_13 ?_
  refine lv_lrem hx hb dX0_draw_16 (by decide) ?_
  refine va_put (D := D) (ci := 0) (v := .long ((((1103515245 : Int64) * v_t_seed) + (12345 : Int64)) - (((1103515245 : Int64) * v_t_seed) + (12345 : Int64)) / (2147483648 : Int64) * (2147483648 : Int64))) (ty := .long) (C := RX0) (T := TX0) (N := 3) hx hb hts in_X0_draw_0 tyX0 tyX0_ok nmX0 hown hK hP hD hS 0 rfl rfl 2 (by decide) (hts (.fieldLink RX0 18 "PinLanes$Games" "seed" "J") (by decide +kernel)) (fun _ h9 => h9) rfl (by decide +kernel) rfl rfl (Nat.le_of_ble_eq_true rfl) dX0_draw_17 (fun H locs hP hD hS => ?_)
  have hP : va_P D vwCl [(q_t, .inr (0, [.int v_t_won, .int v_t_pinsFallen, .long ((((1103515245 : Int64) * v_t_seed) + (12345 : Int64)) - (((1103515245 : Int64) * v_t_seed) + (12345 : Int64)) / (2147483648 : Int64) * (2147483648 : Int64))]))] H := hP
  have hD : va_D A [(q_t, .inr (0, [.int v_t_won, .int v_t_pinsFallen, .long ((((1103515245 : Int64) * v_t_seed) + (12345 : Int64)) - (((1103515245 : Int64) * v_t_seed) + (12345 : Int64)) / (2147483648 : Int64) * (2147483648 : Int64))]))] := hD
  refine lv_iload_n hx hb dX0_draw_20 rfl (lv_at hl 1 rfl) ?_
  refine lv_if_le (tgt := 39) hx hb dX0_draw_21 (by decide) (fun c1 => ?_) (fun c1 => ?_)
  · have hf := ip c1 hf
    refine lv_iconst (v := (0 : Int32)) hx hb dX0_draw_39 (by decide) ?_
    obtain ⟨e1_, e2_⟩ := so2 hf
    exact endI hx hb hr hlk hK (by rw [hwE, ← e2_]; exact hP) (by rw [hwE, ← e2_]; exact hD) hS e1_ dX0_draw_40
  · have hf := iq c1 hf
    refine lv_aload_n hx hb dX0_draw_24 rfl (lv_at hl 0 rfl) ?_
    refine va_get (D := D) (ci := 0) (v := .long ((((1103515245 : Int64) * v_t_seed) + (12345 : Int64)) - (((1103515245 : Int64) * v_t_seed) + (12345 : Int64)) / (2147483648 : Int64) * (2147483648 : Int64))) (C := RX0) (T := TX0) (N := 3) hx hb hts in_X0_draw_0 hown hK hP 0 rfl rfl 2 (by decide) (hts (.fieldLink RX0 18 "PinLanes$Games" "seed" "J") (by decide +kernel)) (fun _ h9 => h9) rfl dX0_draw_25 ?_
    refine lv_ldc2 (v := (65536 : Int64)) hx hb hown (hts (.constantLong RX0 58 (65536)) (by decide +kernel)) dX0_draw_28 ?_
    refine lv_ldiv hx hb dX0_draw_31 (by decide) ?_
    refine lv_iload_n hx hb dX0_draw_32 rfl (lv_at hl 1 rfl) ?_
    refine lv_i2l (v := x1.toInt64) hx hb dX0_draw_33 rfl ?_
    obtain ⟨b2, hf⟩ := gd_e hf
    refine lv_lrem hx hb dX0_draw_34 (by simpa using b2) ?_
    refine lv_l2i hx hb dX0_draw_35 rfl ?_
    refine lv_goto (tgt := 40) hx hb dX0_draw_36 (by decide) ?_
    obtain ⟨e1_, e2_⟩ := so2 hf
    exact endI hx hb hr hlk hK (by rw [hwE, ← e2_]; exact hP) (by rw [hwE, ← e2_]; exact hD) hS e1_ dX0_draw_40
-- J6_bitCount_0f7a4
set_option maxHeartbeats 4000000 in
set_option maxRecDepth 100000 in
theorem c_J6_bitCount_0f7a4 (l : Launch) (D : va_G) (cI cC : ClassId) (N sz : Nat) (x0 : Int32) (z0 : Int32) (hf : f_J6_bitCount_0f7a4 N x0 = some (z0)) : Ct l yJ6_bitCount_0f7a4 wsJ6_bitCount_0f7a4 ⟨0, 0, 0, 0⟩ [.int x0] D cI cC [] sz (fun A => (QI D cI cC A [] z0)) := by
  suffices h : ∀ wE : va_W, wE = [] → Ct l yJ6_bitCount_0f7a4 wsJ6_bitCount_0f7a4 ⟨0, 0, 0, 0⟩ [.int x0] D cI cC [] sz (fun A => (QI D cI cC A wE z0)) from h _ rfl
  intro wE hwE
  rw [f_J6_bitCount_0f7a4] at hf
  refine Ct.beg cJ6_bitCount_0f7a4 1 (some .int) [(0, .int x0)] RJ6 (by decide) rfl rfl (Nat.le_of_ble_eq_true rfl) rfl (fun p e s m below meth c A hx hb hr hts hown hlk hml hnm hK hP hD hS hA hG ls hl => ?_)
  refine lv_iload_n hx hb dJ6_bitCount_0f7a4_0 rfl (lv_at hl 0 rfl) ?_
  refine lv_iload_n hx hb dJ6_bitCount_0f7a4_1 rfl (lv_at hl 0 rfl) ?_
  refine lv_iconst (v := (1 : Int32)) hx hb dJ6_bitCount_0f7a4_2 (by decide) ?_
  refine lv_iushr hx hb dJ6_bitCount_0f7a4_3 rfl ?_
  refine lv_ldcw (v := (1431655765 : Int32)) hx hb hown (hts (.constant RJ6 265 (1431655765)) (by decide +kernel)) dJ6_bitCount_0f7a4_4 ?_
  refine lv_iand hx hb dJ6_bitCount_0f7a4_7 ?_
  refine lv_isub hx hb dJ6_bitCount_0f7a4_8 ?_
  refine lv_istore_n (lv' := [(0, .int (x0 - (((x0.toUInt32 >>> ((1 : Int32).toUInt32 &&& Int32.toUInt32 31)).toInt32) &&& (1431655765 : Int32))))]) hx hb dJ6_bitCount_0f7a4_9 rfl hl (by decide) rfl (fun ls hl => ?_)
  refine lv_iload_n hx hb dJ6_bitCount_0f7a4_10 rfl (lv_at hl 0 rfl) ?_
  refine lv_ldcw (v := (858993459 : Int32)) hx hb hown (hts (.constant RJ6 266 (858993459)) (by decide +kernel)) dJ6_bitCount_0f7a4_11 ?_
  refine lv_iand hx hb dJ6_bitCount_0f7a4_14 ?_
  refine lv_iload_n hx hb dJ6_bitCount_0f7a4_15 rfl (lv_at hl 0 rfl) ?_
  refine lv_iconst (v := (2 : Int32)) hx hb dJ6_bitCount_0f7a4_16 (by decide) ?_
  refine lv_iushr hx hb dJ6_bitCount_0f7a4_17 rfl ?_
  refine lv_ldcw (v := (858993459 : Int32)) hx hb hown (hts (.constant RJ6 266 (858993459)) (by decide +kernel)) dJ6_bitCount_0f7a4_18 ?_
  refine lv_iand hx hb dJ6_bitCount_0f7a4_21 ?_
  refine lv_iadd hx hb dJ6_bitCount_0f7a4_22 ?_
  refine lv_istore_n (lv' := [(0, .int (((x0 - (((x0.toUInt32 >>> ((1 : Int32).toUInt32 &&& Int32.toUInt32 31)).toInt32) &&& (1431655765 : Int32))) &&& (858993459 : Int32)) + ((((x0 - (((x0.toUInt32 >>> ((1 : Int32).toUInt32 &&& Int32.toUInt32 31)).toInt32) &&& (1431655765 : Int32))).toUInt32 >>> ((2 : Int32).toUInt32 &&& Int32.toUInt32 31)).toInt32) &&& (858993459 : Int32))))]) hx hb dJ6_bitCount_0f7a4_23 rfl hl (by decide) rfl (fun ls hl => ?_)
  refine lv_iload_n hx hb dJ6_bitCount_0f7a4_24 rfl (lv_at hl 0 rfl) ?_
  refine lv_iload_n hx hb dJ6_bitCount_0f7a4_25 rfl (lv_at hl 0 rfl) ?_
  refine lv_iconst (v := (4 : Int32)) hx hb dJ6_bitCount_0f7a4_26 (by decide) ?_
  refine lv_iushr hx hb dJ6_bitCount_0f7a4_27 rfl ?_
  refine lv_iadd hx hb dJ6_bitCount_0f7a4_28 ?_
  refine lv_ldcw (v := (252645135 : Int32)) hx hb hown (hts (.constant RJ6 267 (252645135)) (by decide +kernel)) dJ6_bitCount_0f7a4_29 ?_
  refine lv_iand hx hb dJ6_bitCount_0f7a4_32 ?_
  refine lv_istore_n (lv' := [(0, .int (((((x0 - (((x0.toUInt32 >>> ((1 : Int32).toUInt32 &&& Int32.toUInt32 31)).toInt32) &&& (1431655765 : Int32))) &&& (858993459 : Int32)) + ((((x0 - (((x0.toUInt32 >>> ((1 : Int32).toUInt32 &&& Int32.toUInt32 31)).toInt32) &&& (1431655765 : Int32))).toUInt32 >>> ((2 : Int32).toUInt32 &&& Int32.toUInt32 31)).toInt32) &&& (858993459 : Int32))) + (((((x0 - (((x0.toUInt32 >>> ((1 : Int32).toUInt32 &&& Int32.toUInt32 31)).toInt32) &&& (1431655765 : Int32))) &&& (858993459 : Int32)) + ((((x0 - (((x0.toUInt32 >>> ((1 : Int32).toUInt32 &&& Int32.toUInt32 31)).toInt32) &&& (1431655765 : Int32))).toUInt32 >>> ((2 : Int32).toUInt32 &&& Int32.toUInt32 31)).toInt32) &&& (858993459 : Int32))).toUInt32 >>> ((4 : Int32).toUInt32 &&& Int32.toUInt32 31)).toInt32)) &&& (252645135 : Int32)))]) hx hb dJ6_bitCount_0f7a4_33 rfl hl (by decide) rfl (fun ls hl => ?_)
  refine lv_iload_n hx hb dJ6_bitCount_0f7a4_34 rfl (lv_at hl 0 rfl) ?_
  refine lv_iload_n hx hb dJ6_bitCount_0f7a4_35 rfl (lv_at hl 0 rfl) ?_
  refine lv_bipush (v := (8 : Int32)) hx hb dJ6_bitCount_0f7a4_36 (by decide) ?_
  refine lv_iushr hx hb dJ6_bitCount_0f7a4_38 rfl ?_
  refine lv_iadd hx hb dJ6_bitCount_0f7a4_39 ?_
  refine lv_istore_n (lv' := [(0, .int ((((((x0 - (((x0.toUInt32 >>> ((1 : Int32).toUInt32 &&& Int32.toUInt32 31)).toInt32) &&& (1431655765 : Int32))) &&& (858993459 : Int32)) + ((((x0 - (((x0.toUInt32 >>> ((1 : Int32).toUInt32 &&& Int32.toUInt32 31)).toInt32) &&& (1431655765 : Int32))).toUInt32 >>> ((2 : Int32).toUInt32 &&& Int32.toUInt32 31)).toInt32) &&& (858993459 : Int32))) + (((((x0 - (((x0.toUInt32 >>> ((1 : Int32).toUInt32 &&& Int32.toUInt32 31)).toInt32) &&& (1431655765 : Int32))) &&& (858993459 : Int32)) + ((((x0 - (((x0.toUInt32 >>> ((1 : Int32).toUInt32 &&& Int32.toUInt32 31)).toInt32) &&& (1431655765 : Int32))).toUInt32 >>> ((2 : Int32).toUInt32 &&& Int32.toUInt32 31)).toInt32) &&& (858993459 : Int32))).toUInt32 >>> ((4 : Int32).toUInt32 &&& Int32.toUInt32 31)).toInt32)) &&& (252645135 : Int32)) + (((((((x0 - (((x0.toUInt32 >>> ((1 : Int32).toUInt32 &&& Int32.toUInt32 31)).toInt32) &&& (1431655765 : Int32))) &&& (858993459 : Int32)) + ((((x0 - (((x0.toUInt32 >>> ((1 : Int32).toUInt32 &&& Int32.toUInt32 31)).toInt32) &&& (1431655765 : Int32))).toUInt32 >>> ((2 : Int32).toUInt32 &&& Int32.toUInt32 31)).toInt32) &&& (858993459 : Int32))) + (((((x0 - (((x0.toUInt32 >>> ((1 : Int32).toUInt32 &&& Int32.toUInt32 31)).toInt32) &&& (1431655765 : Int32))) &&& (858993459 : Int32)) + ((((x0 - (((x0.toUInt32 >>> ((1 : Int32).toUInt32 &&& Int32.toUInt32 31)).toInt32) &&& (1431655765 : Int32))).toUInt32 >>> ((2 : Int32).toUInt32 &&& Int32.toUInt32 31)).toInt32) &&& (858993459 : Int32))).toUInt32 >>> ((4 : Int32).toUInt32 &&& Int32.toUInt32 31)).toInt32)) &&& (252645135 : Int32)).toUInt32 >>> ((8 : Int32).toUInt32 &&& Int32.toUInt32 31)).toInt32)))]) hx hb dJ6_bitCount_0f7a4_40 rfl hl (by decide) rfl (fun ls hl => ?_)
  refine lv_iload_n hx hb dJ6_bitCount_0f7a4_41 rfl (lv_at hl 0 rfl) ?_
  refine lv_iload_n hx hb dJ6_bitCount_0f7a4_42 rfl (lv_at hl 0 rfl) ?_
  refine lv_bipush (v := (16 : Int32)) hx hb dJ6_bitCount_0f7a4_43 (by decide) ?_
  refine lv_iushr hx hb dJ6_bitCount_0f7a4_45 rfl ?_
  refine lv_iadd hx hb dJ6_bitCount_0f7a4_46 ?_
  refine lv_istore_n (lv' := [(0, .int (((((((x0 - (((x0.toUInt32 >>> ((1 : Int32).toUInt32 &&& Int32.toUInt32 31)).toInt32) &&& (1431655765 : Int32))) &&& (858993459 : Int32)) + ((((x0 - (((x0.toUInt32 >>> ((1 : Int32).toUInt32 &&& Int32.toUInt32 31)).toInt32) &&& (1431655765 : Int32))).toUInt32 >>> ((2 : Int32).toUInt32 &&& Int32.toUInt32 31)).toInt32) &&& (858993459 : Int32))) + (((((x0 - (((x0.toUInt32 >>> ((1 : Int32).toUInt32 &&& Int32.toUInt32 31)).toInt32) &&& (1431655765 : Int32))) &&& (858993459 : Int32)) + ((((x0 - (((x0.toUInt32 >>> ((1 : Int32).toUInt32 &&& Int32.toUInt32 31)).toInt32) &&& (1431655765 : Int32))).toUInt32 >>> ((2 : Int32).toUInt32 &&& Int32.toUInt32 31)).toInt32) &&& (858993459 : Int32))).toUInt32 >>> ((4 : Int32).toUInt32 &&& Int32.toUInt32 31)).toInt32)) &&& (252645135 : Int32)) + (((((((x0 - (((x0.toUInt32 >>> ((1 : Int32).toUInt32 &&& Int32.toUInt32 31)).toInt32) &&& (1431655765 : Int32))) &&& (858993459 : Int32)) + ((((x0 - (((x0.toUInt32 >>> ((1 : Int32).toUInt32 &&& Int32.toUInt32 31)).toInt32) &&& (1431655765 : Int32))).toUInt32 >>> ((2 : Int32).toUInt32 &&& Int32.toUInt32 31)).toInt32) &&& (858993459 : Int32))) + (((((x0 - (((x0.toUInt32 >>> ((1 : Int32).toUInt32 &&& Int32.toUInt32 31)).toInt32) &&& (1431655765 : Int32))) &&& (858993459 : Int32)) + ((((x0 - (((x0.toUInt32 >>> ((1 : Int32).toUInt32 &&& Int32.toUInt32 31)).toInt32) &&& (1431655765 : Int32))).toUInt32 >>> ((2 : Int32).toUInt32 &&& Int32.toUInt32 31)).toInt32) &&& (858993459 : Int32))).toUInt32 >>> ((4 : Int32).toUInt32 &&& Int32.toUInt32 31)).toInt32)) &&& (252645135 : Int32)).toUInt32 >>> ((8 : Int32).toUInt32 &&& Int32.toUInt32 31)).toInt32)) + ((((((((x0 - (((x0.toUInt32 >>> ((1 : Int32).toUInt32 &&& Int32.toUInt32 31)).toInt32) &&& (1431655765 : Int32))) &&& (858993459 : Int32)) + ((((x0 - (((x0.toUInt32 >>> ((1 : Int32).toUInt32 &&& Int32.toUInt32 31)).toInt32) &&& (1431655765 : Int32))).toUInt32 >>> ((2 : Int32).toUInt32 &&& Int32.toUInt32 31)).toInt32) &&& (858993459 : Int32))) + (((((x0 - (((x0.toUInt32 >>> ((1 : Int32).toUInt32 &&& Int32.toUInt32 31)).toInt32) &&& (1431655765 : Int32))) &&& (858993459 : Int32)) + ((((x0 - (((x0.toUInt32 >>> ((1 : Int32).toUInt32 &&& Int32.toUInt32 31)).toInt32) &&& (1431655765 : Int32))).toUInt32 >>> ((2 : Int32).toUInt32 &&& Int32.toUInt32 31)).toInt32) &&& (858993459 : Int32))).toUInt32 >>> ((4 : Int32).toUInt32 &&& Int32.toUInt32 31)).toInt32)) &&& (252645135 : Int32)) + (((((((x0 - (((x0.toUInt32 >>> ((1 : Int32).toUInt32 &&& Int32.toUInt32 31)).toInt32) &&& (1431655765 : Int32))) &&& (858993459 : Int32)) + ((((x0 - (((x0.toUInt32 >>> ((1 : Int32).toUInt32 &&& Int32.toUInt32 31)).toInt32) &&& (1431655765 : Int32))).toUInt32 >>> ((2 : Int32).toUInt32 &&& Int32.toUInt32 31)).toInt32) &&& (858993459 : Int32))) + (((((x0 - (((x0.toUInt32 >>> ((1 : Int32).toUInt32 &&& Int32.toUInt32 31)).toInt32) &&& (1431655765 : Int32))) &&& (858993459 : Int32)) + ((((x0 - (((x0.toUInt32 >>> ((1 : Int32).toUInt32 &&& Int32.toUInt32 31)).toInt32) &&& (1431655765 : Int32))).toUInt32 >>> ((2 : Int32).toUInt32 &&& Int32.toUInt32 31)).toInt32) &&& (858993459 : Int32))).toUInt32 >>> ((4 : Int32).toUInt32 &&& Int32.toUInt32 31)).toInt32)) &&& (252645135 : Int32)).toUInt32 >>> ((8 : Int32).toUInt32 &&& Int32.toUInt32 31)).toInt32)).toUInt32 >>> ((16 : Int32).toUInt32 &&& Int32.toUInt32 31)).toInt32)))]) hx hb dJ6_bitCount_0f7a4_47 rfl hl (by decide) rfl (fun ls hl => ?_)
  refine lv_iload_n hx hb dJ6_bitCount_0f7a4_48 rfl (lv_at hl 0 rfl) ?_
  refine lv_bipush (v := (63 : Int32)) hx hb dJ6_bitCount_0f7a4_49 (by decide) ?_
  refine lv_iand hx hb dJ6_bitCount_0f7a4_51 ?_
  have e1_ := Option.some.inj hf
  exact endI hx hb hr hlk hK (by rw [hwE]; exact hP) (by rw [hwE]; exact hD) hS e1_ dJ6_bitCount_0f7a4_52
-- X6_fallen
set_option maxRecDepth 20000 in
theorem in_X6_fallen_6 : ∀ w ∈ wsX60, w ∈ wsX6_fallen := by decide +kernel
set_option maxHeartbeats 4000000 in
set_option maxRecDepth 100000 in
theorem c_X6_fallen (l : Launch) (D : va_G) (cI cC : ClassId) (N sz : Nat) (q_t q_t_firsts q_t_counts q_t_taken : Nat) (v_t_size : Int32) (v_t_takesRight : Int32) (v_t_takesLeft : Int32) (r_t_taken : Nat → Int32) (r_t_firsts : Nat → Int32) (r_t_counts : Nat → Int32) (x1 : Int32) (x2 : Int32) (z0 : Int32) (hf : f_X6_fallen N v_t_size v_t_takesRight v_t_takesLeft r_t_taken r_t_firsts r_t_counts x1 x2 = some (z0)) : Ct l yX6_fallen wsX6_fallen ⟨0, 0, 0, 0⟩ [.ref q_t, .int x1, .int x2] D cI cC [(q_t, .inr (6, [.int v_t_size, .ref q_t_firsts, .ref q_t_counts, .ref q_t_taken, .int v_t_takesRight, .int v_t_takesLeft])), (q_t_taken, .inl (cI, 27, .inl r_t_taken)), (q_t_firsts, .inl (cI, 27, .inl r_t_firsts)), (q_t_counts, .inl (cI, 27, .inl r_t_counts))] sz (fun A => (QI D cI cC A [(q_t, .inr (6, [.int v_t_size, .ref q_t_firsts, .ref q_t_counts, .ref q_t_taken, .int v_t_takesRight, .int v_t_takesLeft])), (q_t_taken, .inl (cI, 27, .inl r_t_taken)), (q_t_firsts, .inl (cI, 27, .inl r_t_firsts)), (q_t_counts, .inl (cI, 27, .inl r_t_counts))] z0)) := by
  suffices h : ∀ wE : va_W, wE = [(q_t, .inr (6, [.int v_t_size, .ref q_t_firsts, .ref q_t_counts, .ref q_t_taken, .int v_t_takesRight, .int v_t_takesLeft])), (q_t_taken, .inl (cI, 27, .inl r_t_taken)), (q_t_firsts, .inl (cI, 27, .inl r_t_firsts)), (q_t_counts, .inl (cI, 27, .inl r_t_counts))] → Ct l yX6_fallen wsX6_fallen ⟨0, 0, 0, 0⟩ [.ref q_t, .int x1, .int x2] D cI cC [(q_t, .inr (6, [.int v_t_size, .ref q_t_firsts, .ref q_t_counts, .ref q_t_taken, .int v_t_takesRight, .int v_t_takesLeft])), (q_t_taken, .inl (cI, 27, .inl r_t_taken)), (q_t_firsts, .inl (cI, 27, .inl r_t_firsts)), (q_t_counts, .inl (cI, 27, .inl r_t_counts))] sz (fun A => (QI D cI cC A wE z0)) from h _ rfl
  intro wE hwE
  rw [f_X6_fallen] at hf
  refine Ct.beg cX6_fallen 6 (some .int) [(0, .ref q_t), (1, .int x1), (2, .int x2)] RX6 (by decide) rfl rfl (Nat.le_of_ble_eq_true rfl) rfl (fun p e s m below meth c A hx hb hr hts hown hlk hml hnm hK hP hD hS hA hG ls hl => ?_)
  refine lv_iload_n hx hb dX6_fallen_0 rfl (lv_at hl 1 rfl) ?_
  refine lv_if_lt (tgt := 29) hx hb dX6_fallen_1 (by decide) (fun c1 => ?_) (fun c1 => ?_)
  · have hf := ip c1 hf
    refine lv_iconst (v := (0 : Int32)) hx hb dX6_fallen_29 (by decide) ?_
    have e1_ := Option.some.inj hf
    exact endI hx hb hr hlk hK (by rw [hwE]; exact hP) (by rw [hwE]; exact hD) hS e1_ dX6_fallen_30
  · have hf := iq c1 hf
    refine lv_iload_n hx hb dX6_fallen_4 rfl (lv_at hl 1 rfl) ?_
    refine lv_aload_n hx hb dX6_fallen_5 rfl (lv_at hl 0 rfl) ?_
    refine va_get (D := D) (ci := 6) (v := .int v_t_size) (C := RX6) (T := TX6) (N := 6) hx hb hts in_X6_fallen_6 hown hK hP 0 rfl rfl 0 (by decide) (hts (.fieldLink RX6 21 "PinLanes$Strikes" "size" "I") (by decide +kernel)) (fun _ h9 => h9) rfl dX6_fallen_6 ?_
    refine lv_icmp_ge (tgt := 29) hx hb dX6_fallen_9 (by decide) (fun c2 => ?_) (fun c2 => ?_)
    · have hf := ip c2 hf
      refine lv_iconst (v := (0 : Int32)) hx hb dX6_fallen_29 (by decide) ?_
      have e1_ := Option.some.inj hf
      exact endI hx hb hr hlk hK (by rw [hwE]; exact hP) (by rw [hwE]; exact hD) hS e1_ dX6_fallen_30
    · have hf := iq c2 hf
      refine lv_iload_n hx hb dX6_fallen_12 rfl (lv_at hl 2 rfl) ?_
      refine lv_aload_n hx hb dX6_fallen_13 rfl (lv_at hl 0 rfl) ?_
      refine va_get (D := D) (ci := 6) (v := .ref q_t_taken) (C := RX6) (T := TX6) (N := 6) hx hb hts in_X6_fallen_6 hown hK hP 0 rfl rfl 3 (by decide) (hts (.fieldLink RX6 18 "PinLanes$Strikes" "taken" "[I") (by decide +kernel)) (fun _ h9 => h9) rfl dX6_fallen_14 ?_
      refine lv_iload_n hx hb dX6_fallen_17 rfl (lv_at hl 1 rfl) ?_
      obtain ⟨b3, hf⟩ := gd_e hf
      refine va_iald hx hb hK hP 1 0 rfl rfl (inb_in b3) dX6_fallen_18 ?_
      refine lv_iand hx hb dX6_fallen_19 ?_
      refine lv_aload_n hx hb dX6_fallen_20 rfl (lv_at hl 0 rfl) ?_
      refine va_get (D := D) (ci := 6) (v := .ref q_t_taken) (C := RX6) (T := TX6) (N := 6) hx hb hts in_X6_fallen_6 hown hK hP 0 rfl rfl 3 (by decide) (hts (.fieldLink RX6 18 "PinLanes$Strikes" "taken" "[I") (by decide +kernel)) (fun _ h9 => h9) rfl dX6_fallen_21 ?_
      refine lv_iload_n hx hb dX6_fallen_24 rfl (lv_at hl 1 rfl) ?_
      obtain ⟨b4, hf⟩ := gd_e hf
      refine va_iald hx hb hK hP 1 0 rfl rfl (inb_in b4) dX6_fallen_25 ?_
      refine lv_icmp_eq (tgt := 31) hx hb dX6_fallen_26 (by decide) (fun c5 => ?_) (fun c5 => ?_)
      · have hf := ip c5 hf
        refine lv_aload_n hx hb dX6_fallen_31 rfl (lv_at hl 0 rfl) ?_
        refine va_get (D := D) (ci := 6) (v := .ref q_t_taken) (C := RX6) (T := TX6) (N := 6) hx hb hts in_X6_fallen_6 hown hK hP 0 rfl rfl 3 (by decide) (hts (.fieldLink RX6 18 "PinLanes$Strikes" "taken" "[I") (by decide +kernel)) (fun _ h9 => h9) rfl dX6_fallen_32 ?_
        refine lv_iload_n hx hb dX6_fallen_35 rfl (lv_at hl 1 rfl) ?_
        obtain ⟨b6, hf⟩ := gd_e hf
        refine va_iald hx hb hK hP 1 0 rfl rfl (inb_in b6) dX6_fallen_36 ?_
        refine lv_istore_n (lv' := [(3, .int (r_t_taken x1.toNatClampNeg)), (0, .ref q_t), (1, .int x1), (2, .int x2)]) hx hb dX6_fallen_37 rfl hl (by decide) rfl (fun ls hl => ?_)
        refine lv_aload_n hx hb dX6_fallen_38 rfl (lv_at hl 1 rfl) ?_
        refine va_get (D := D) (ci := 6) (v := .ref q_t_firsts) (C := RX6) (T := TX6) (N := 6) hx hb hts in_X6_fallen_6 hown hK hP 0 rfl rfl 1 (by decide) (hts (.fieldLink RX6 11 "PinLanes$Strikes" "firsts" "[I") (by decide +kernel)) (fun _ h9 => h9) rfl dX6_fallen_39 ?_
        refine lv_iload_n hx hb dX6_fallen_42 rfl (lv_at hl 2 rfl) ?_
        obtain ⟨b7, hf⟩ := gd_e hf
        refine va_iald hx hb hK hP 2 0 rfl rfl (inb_in b7) dX6_fallen_43 ?_
        refine lv_aload_n hx hb dX6_fallen_44 rfl (lv_at hl 1 rfl) ?_
        refine va_get (D := D) (ci := 6) (v := .ref q_t_counts) (C := RX6) (T := TX6) (N := 6) hx hb hts in_X6_fallen_6 hown hK hP 0 rfl rfl 2 (by decide) (hts (.fieldLink RX6 15 "PinLanes$Strikes" "counts" "[I") (by decide +kernel)) (fun _ h9 => h9) rfl dX6_fallen_45 ?_
        refine lv_iload_n hx hb dX6_fallen_48 rfl (lv_at hl 2 rfl) ?_
        obtain ⟨b8, hf⟩ := gd_e hf
        refine va_iald hx hb hK hP 3 0 rfl rfl (inb_in b8) dX6_fallen_49 ?_
        refine lv_iadd hx hb dX6_fallen_50 ?_
        refine lv_iconst (v := (1 : Int32)) hx hb dX6_fallen_51 (by decide) ?_
        refine lv_isub hx hb dX6_fallen_52 ?_
        refine lv_istore (lv' := [(4, .int (((r_t_firsts x1.toNatClampNeg) + (r_t_counts x1.toNatClampNeg)) - (1 : Int32))), (3, .int (r_t_taken x1.toNatClampNeg)), (0, .ref q_t), (1, .int x1), (2, .int x2)]) hx hb dX6_fallen_53 hl (by decide) rfl (fun ls hl => ?_)
        have hL9 : ∀ (kk12 : Int32 → Option (Int32)), (∀ (y13 : Int32) (H : Heap) (locs : List Loc) (ls : Array Slot), va_P D vwCl [(q_t, .inr (6, [.int v_t_size, .ref q_t_firsts, .ref q_t_counts, .ref q_t_taken, .int v_t_takesRight, .int v_t_takesLeft])), (q_t_taken, .inl (cI, 27, .inl r_t_taken)), (q_t_firsts, .inl (cI, 27, .inl r_t_firsts)), (q_t_counts, .inl (cI, 27, .inl r_t_counts))] H → va_D A [(q_t, .inr (6, [.int v_t_size, .ref q_t_firsts, .ref q_t_counts, .ref q_t_taken, .int v_t_takesRight, .int v_t_takesLeft])), (q_t_taken, .inl (cI, 27, .inl r_t_taken)), (q_t_firsts, .inl (cI, 27, .inl r_t_firsts)), (q_t_counts, .inl (cI, 27, .inl r_t_counts))] → va_S A s.heap H locs → lv_has ls 6 [(0, .ref q_t), (1, .int x1), (2, .int x2), (3, .int y13)] → kk12 y13 = some (z0) → W p l e ⟨0, 0, 0, 0⟩ s m ([.ref q_t, .int x1, .int x2] : List Value).toArray below meth c H locs 0 0 (MQ below (QI D cI cC A wE z0) ([.ref q_t, .int x1, .int x2] : List Value).toArray s 0 0 A) (F0 m 97 ls [])) → ∀ (n : Nat) (y10 : Int32) (y11 : Int32) (H : Heap) (locs : List Loc) (ls : Array Slot), va_P D vwCl [(q_t, .inr (6, [.int v_t_size, .ref q_t_firsts, .ref q_t_counts, .ref q_t_taken, .int v_t_takesRight, .int v_t_takesLeft])), (q_t_taken, .inl (cI, 27, .inl r_t_taken)), (q_t_firsts, .inl (cI, 27, .inl r_t_firsts)), (q_t_counts, .inl (cI, 27, .inl r_t_counts))] H → va_D A [(q_t, .inr (6, [.int v_t_size, .ref q_t_firsts, .ref q_t_counts, .ref q_t_taken, .int v_t_takesRight, .int v_t_takesLeft])), (q_t_taken, .inl (cI, 27, .inl r_t_taken)), (q_t_firsts, .inl (cI, 27, .inl r_t_firsts)), (q_t_counts, .inl (cI, 27, .inl r_t_counts))] → va_S A s.heap H locs → lv_has ls 6 [(0, .ref q_t), (1, .int x1), (2, .int x2), (3, .int y10), (4, .int y11)] → f_X6_fallen_L55 N x2 v_t_takesRight kk12 n y10 y11 = some (z0) → W p l e ⟨0, 0, 0, 0⟩ s m ([.ref q_t, .int x1, .int x2] : List Value).toArray below meth c H locs 0 0 (MQ below (QI D cI cC A wE z0) ([.ref q_t, .int x1, .int x2] : List Value).toArray s 0 0 A) (F0 m 55 ls []) := by
          intro kk12 hk14 n
          induction n with
          | zero => intro y10 y11 H locs ls hP hD hS hl hf; rw [f_X6_fallen_L55] at hf; cases hf
          | succ n ih =>
            intro y10 y11 H locs ls hP hD hS hl hf
            rw [f_X6_fallen_L55] at hf
            refine lv_iload hx hb dX6_fallen_55 (lv_at hl 4 rfl) ?_
            refine lv_iconst (v := (1 : Int32)) hx hb dX6_fallen_57 (by decide) ?_
            refine lv_iadd hx hb dX6_fallen_58 ?_
            refine lv_bipush (v := (9 : Int32)) hx hb dX6_fallen_59 (by decide) ?_
            refine lv_icmp_ge (tgt := 97) hx hb dX6_fallen_61 (by decide) (fun c15 => ?_) (fun c15 => ?_)
            · have hf := ip c15 hf
              exact hk14 y10 _ _ _ hP hD hS (lv_sub hl [0, 1, 2, 3] rfl) hf
            · have hf := iq c15 hf
              refine lv_aload_n hx hb dX6_fallen_64 rfl (lv_at hl 0 rfl) ?_
              refine va_get (D := D) (ci := 6) (v := .int v_t_takesRight) (C := RX6) (T := TX6) (N := 6) hx hb hts in_X6_fallen_6 hown hK hP 0 rfl rfl 4 (by decide) (hts (.fieldLink RX6 25 "PinLanes$Strikes" "takesRight" "I") (by decide +kernel)) (fun _ h9 => h9) rfl dX6_fallen_65 ?_
              refine lv_iload hx hb dX6_fallen_68 (lv_at hl 4 rfl) ?_
              refine lv_ishr hx hb dX6_fallen_70 ?_
              refine lv_iload_n hx hb dX6_fallen_71 rfl (lv_at hl 2 rfl) ?_
              refine lv_iload hx hb dX6_fallen_72 (lv_at hl 4 rfl) ?_
              refine lv_iconst (v := (1 : Int32)) hx hb dX6_fallen_74 (by decide) ?_
              refine lv_iadd hx hb dX6_fallen_75 ?_
              refine lv_ishr hx hb dX6_fallen_76 ?_
              refine lv_iand hx hb dX6_fallen_77 ?_
              refine lv_iconst (v := (1 : Int32)) hx hb dX6_fallen_78 (by decide) ?_
              refine lv_iand hx hb dX6_fallen_79 ?_
              refine lv_iconst (v := (1 : Int32)) hx hb dX6_fallen_80 (by decide) ?_
              refine lv_icmp_ne (tgt := 97) hx hb dX6_fallen_81 (by decide) (fun c16 => ?_) (fun c16 => ?_)
              · have hf := iq c16 hf
                exact hk14 y10 _ _ _ hP hD hS (lv_sub hl [0, 1, 2, 3] rfl) hf
              · have hf := ip c16 hf
                refine lv_iinc (v := y11 + (1 : Int32)) (lv' := [(4, .int (y11 + (1 : Int32))), (0, .ref q_t), (1, .int x1), (2, .int x2), (3, .int y10)]) hx hb dX6_fallen_84 hl (k := 4) rfl rfl (by decide) rfl (fun ls hl => ?_)
                refine lv_iload_n hx hb dX6_fallen_87 rfl (lv_at hl 4 rfl) ?_
                refine lv_iconst (v := (1 : Int32)) hx hb dX6_fallen_88 (by decide) ?_
                refine lv_iload hx hb dX6_fallen_89 (lv_at hl 0 rfl) ?_
                refine lv_ishl hx hb dX6_fallen_91 ?_
                refine lv_ior hx hb dX6_fallen_92 ?_
                refine lv_istore_n (lv' := [(3, .int (y10 ||| ((1 : Int32) <<< ((y11 + (1 : Int32)) &&& 31)))), (4, .int (y11 + (1 : Int32))), (0, .ref q_t), (1, .int x1), (2, .int x2)]) hx hb dX6_fallen_93 rfl hl (by decide) rfl (fun ls hl => ?_)
                refine lv_goto (tgt := 55) hx hb dX6_fallen_94 (by decide) ?_
                exact ih (y10 ||| ((1 : Int32) <<< ((y11 + (1 : Int32)) &&& 31))) (y11 + (1 : Int32)) _ _ _ hP hD hS (lv_sub hl [2, 3, 4, 0, 1] rfl) hf
        refine hL9 _ (fun y13 H locs ls hP hD hS hl hf => ?_) N (r_t_taken x1.toNatClampNeg) (((r_t_firsts x1.toNatClampNeg) + (r_t_counts x1.toNatClampNeg)) - (1 : Int32)) _ _ _ hP hD hS (lv_sub hl [2, 3, 4, 1, 0] rfl) hf
        refine lv_aload_n hx hb dX6_fallen_97 rfl (lv_at hl 0 rfl) ?_
        refine va_get (D := D) (ci := 6) (v := .ref q_t_firsts) (C := RX6) (T := TX6) (N := 6) hx hb hts in_X6_fallen_6 hown hK hP 0 rfl rfl 1 (by decide) (hts (.fieldLink RX6 11 "PinLanes$Strikes" "firsts" "[I") (by decide +kernel)) (fun _ h9 => h9) rfl dX6_fallen_98 ?_
        refine lv_iload_n hx hb dX6_fallen_101 rfl (lv_at hl 1 rfl) ?_
        obtain ⟨b17, hf⟩ := gd_e hf
        refine va_iald hx hb hK hP 2 0 rfl rfl (inb_in b17) dX6_fallen_102 ?_
        refine lv_istore (lv' := [(5, .int (r_t_firsts x1.toNatClampNeg)), (0, .ref q_t), (1, .int x1), (2, .int x2), (3, .int y13)]) hx hb dX6_fallen_103 hl (by decide) rfl (fun ls hl => ?_)
        have hL18 : ∀ (n : Nat) (y19 : Int32) (y20 : Int32) (H : Heap) (locs : List Loc) (ls : Array Slot), va_P D vwCl [(q_t, .inr (6, [.int v_t_size, .ref q_t_firsts, .ref q_t_counts, .ref q_t_taken, .int v_t_takesRight, .int v_t_takesLeft])), (q_t_taken, .inl (cI, 27, .inl r_t_taken)), (q_t_firsts, .inl (cI, 27, .inl r_t_firsts)), (q_t_counts, .inl (cI, 27, .inl r_t_counts))] H → va_D A [(q_t, .inr (6, [.int v_t_size, .ref q_t_firsts, .ref q_t_counts, .ref q_t_taken, .int v_t_takesRight, .int v_t_takesLeft])), (q_t_taken, .inl (cI, 27, .inl r_t_taken)), (q_t_firsts, .inl (cI, 27, .inl r_t_firsts)), (q_t_counts, .inl (cI, 27, .inl r_t_counts))] → va_S A s.heap H locs → lv_has ls 6 [(0, .ref q_t), (2, .int x2), (3, .int y19), (5, .int y20)] → f_X6_fallen_L105 N x2 v_t_takesLeft n y19 y20 = some (z0) → W p l e ⟨0, 0, 0, 0⟩ s m ([.ref q_t, .int x1, .int x2] : List Value).toArray below meth c H locs 0 0 (MQ below (QI D cI cC A wE z0) ([.ref q_t, .int x1, .int x2] : List Value).toArray s 0 0 A) (F0 m 105 ls []) := by
          intro n
          induction n with
          | zero => intro y19 y20 H locs ls hP hD hS hl hf; rw [f_X6_fallen_L105] at hf; cases hf
          | succ n ih =>
            intro y19 y20 H locs ls hP hD hS hl hf
            rw [f_X6_fallen_L105] at hf
            refine lv_iload hx hb dX6_fallen_105 (lv_at hl 3 rfl) ?_
            refine lv_if_le (tgt := 143) hx hb dX6_fallen_107 (by decide) (fun c21 => ?_) (fun c21 => ?_)
            · have hf := ip c21 hf
              refine lv_iload_n hx hb dX6_fallen_143 rfl (lv_at hl 2 rfl) ?_
              have e1_ := Option.some.inj hf
              exact endI hx hb hr hlk hK (by rw [hwE]; exact hP) (by rw [hwE]; exact hD) hS e1_ dX6_fallen_144
            · have hf := iq c21 hf
              refine lv_aload_n hx hb dX6_fallen_110 rfl (lv_at hl 0 rfl) ?_
              refine va_get (D := D) (ci := 6) (v := .int v_t_takesLeft) (C := RX6) (T := TX6) (N := 6) hx hb hts in_X6_fallen_6 hown hK hP 0 rfl rfl 5 (by decide) (hts (.fieldLink RX6 28 "PinLanes$Strikes" "takesLeft" "I") (by decide +kernel)) (fun _ h9 => h9) rfl dX6_fallen_111 ?_
              refine lv_iload hx hb dX6_fallen_114 (lv_at hl 3 rfl) ?_
              refine lv_ishr hx hb dX6_fallen_116 ?_
              refine lv_iload_n hx hb dX6_fallen_117 rfl (lv_at hl 1 rfl) ?_
              refine lv_iload hx hb dX6_fallen_118 (lv_at hl 3 rfl) ?_
              refine lv_iconst (v := (1 : Int32)) hx hb dX6_fallen_120 (by decide) ?_
              refine lv_isub hx hb dX6_fallen_121 ?_
              refine lv_ishr hx hb dX6_fallen_122 ?_
              refine lv_iand hx hb dX6_fallen_123 ?_
              refine lv_iconst (v := (1 : Int32)) hx hb dX6_fallen_124 (by decide) ?_
              refine lv_iand hx hb dX6_fallen_125 ?_
              refine lv_iconst (v := (1 : Int32)) hx hb dX6_fallen_126 (by decide) ?_
              refine lv_icmp_ne (tgt := 143) hx hb dX6_fallen_127 (by decide) (fun c22 => ?_) (fun c22 => ?_)
              · have hf := iq c22 hf
                refine lv_iload_n hx hb dX6_fallen_143 rfl (lv_at hl 2 rfl) ?_
                have e1_ := Option.some.inj hf
                exact endI hx hb hr hlk hK (by rw [hwE]; exact hP) (by rw [hwE]; exact hD) hS e1_ dX6_fallen_144
              · have hf := ip c22 hf
                refine lv_iinc (v := y20 + (-1 : Int32)) (lv' := [(5, .int (y20 + (-1 : Int32))), (0, .ref q_t), (2, .int x2), (3, .int y19)]) hx hb dX6_fallen_130 hl (k := 3) rfl rfl (by decide) rfl (fun ls hl => ?_)
                refine lv_iload_n hx hb dX6_fallen_133 rfl (lv_at hl 3 rfl) ?_
                refine lv_iconst (v := (1 : Int32)) hx hb dX6_fallen_134 (by decide) ?_
                refine lv_iload hx hb dX6_fallen_135 (lv_at hl 0 rfl) ?_
                refine lv_ishl hx hb dX6_fallen_137 ?_
                refine lv_ior hx hb dX6_fallen_138 ?_
                refine lv_istore_n (lv' := [(3, .int (y19 ||| ((1 : Int32) <<< ((y20 + (-1 : Int32)) &&& 31)))), (5, .int (y20 + (-1 : Int32))), (0, .ref q_t), (2, .int x2)]) hx hb dX6_fallen_139 rfl hl (by decide) rfl (fun ls hl => ?_)
                refine lv_goto (tgt := 105) hx hb dX6_fallen_140 (by decide) ?_
                exact ih (y19 ||| ((1 : Int32) <<< ((y20 + (-1 : Int32)) &&& 31))) (y20 + (-1 : Int32)) _ _ _ hP hD hS (lv_sub hl [2, 3, 0, 1] rfl) hf
        exact hL18 N y13 (r_t_firsts x1.toNatClampNeg) _ _ _ hP hD hS (lv_sub hl [1, 3, 4, 0] rfl) hf
      · have hf := iq c5 hf
        refine lv_iconst (v := (0 : Int32)) hx hb dX6_fallen_29 (by decide) ?_
        have e1_ := Option.some.inj hf
        exact endI hx hb hr hlk hK (by rw [hwE]; exact hP) (by rw [hwE]; exact hD) hS e1_ dX6_fallen_30
-- X6_fallenByNumber
set_option maxRecDepth 20000 in
theorem in_X6_fallenByNumber_6 : ∀ w ∈ wsX60, w ∈ wsX6_fallenByNumber := by decide +kernel
set_option maxHeartbeats 4000000 in
set_option maxRecDepth 100000 in
theorem c_X6_fallenByNumber (l : Launch) (D : va_G) (cI cC : ClassId) (N sz : Nat) (q_t q_t_firsts q_t_counts q_t_taken : Nat) (v_t_size : Int32) (v_t_takesRight : Int32) (v_t_takesLeft : Int32) (r_t_taken : Nat → Int32) (r_t_firsts : Nat → Int32) (r_t_counts : Nat → Int32) (x1 : Int32) (x2 : Int32) (z0 : Int32) (hf : f_X6_fallenByNumber N v_t_size v_t_takesRight v_t_takesLeft r_t_taken r_t_firsts r_t_counts x1 x2 = some (z0)) : Ct l yX6_fallenByNumber wsX6_fallenByNumber ⟨1, 0, 0, 25⟩ [.ref q_t, .int x1, .int x2] D cI cC [(q_t, .inr (6, [.int v_t_size, .ref q_t_firsts, .ref q_t_counts, .ref q_t_taken, .int v_t_takesRight, .int v_t_takesLeft])), (q_t_taken, .inl (cI, 27, .inl r_t_taken)), (q_t_firsts, .inl (cI, 27, .inl r_t_firsts)), (q_t_counts, .inl (cI, 27, .inl r_t_counts))] sz (fun A => (QI D cI cC A [(q_t, .inr (6, [.int v_t_size, .ref q_t_firsts, .ref q_t_counts, .ref q_t_taken, .int v_t_takesRight, .int v_t_takesLeft])), (q_t_taken, .inl (cI, 27, .inl r_t_taken)), (q_t_firsts, .inl (cI, 27, .inl r_t_firsts)), (q_t_counts, .inl (cI, 27, .inl r_t_counts))] z0)) := by
  suffices h : ∀ wE : va_W, wE = [(q_t, .inr (6, [.int v_t_size, .ref q_t_firsts, .ref q_t_counts, .ref q_t_taken, .int v_t_takesRight, .int v_t_takesLeft])), (q_t_taken, .inl (cI, 27, .inl r_t_taken)), (q_t_firsts, .inl (cI, 27, .inl r_t_firsts)), (q_t_counts, .inl (cI, 27, .inl r_t_counts))] → Ct l yX6_fallenByNumber wsX6_fallenByNumber ⟨1, 0, 0, 25⟩ [.ref q_t, .int x1, .int x2] D cI cC [(q_t, .inr (6, [.int v_t_size, .ref q_t_firsts, .ref q_t_counts, .ref q_t_taken, .int v_t_takesRight, .int v_t_takesLeft])), (q_t_taken, .inl (cI, 27, .inl r_t_taken)), (q_t_firsts, .inl (cI, 27, .inl r_t_firsts)), (q_t_counts, .inl (cI, 27, .inl r_t_counts))] sz (fun A => (QI D cI cC A wE z0)) from h _ rfl
  intro wE hwE
  rw [f_X6_fallenByNumber] at hf
  refine Ct.beg cX6_fallenByNumber 5 (some .int) [(0, .ref q_t), (1, .int x1), (2, .int x2)] RX6 (by decide) rfl rfl (Nat.le_of_ble_eq_true rfl) rfl (fun p e s m below meth c A hx hb hr hts hown hlk hml hnm hK hP hD hS hA hG ls hl => ?_)
  refine lv_iload_n hx hb dX6_fallenByNumber_0 rfl (lv_at hl 1 rfl) ?_
  refine lv_istore_n (lv' := [(3, .int x1), (0, .ref q_t), (1, .int x1), (2, .int x2)]) hx hb dX6_fallenByNumber_1 rfl hl (by decide) rfl (fun ls hl => ?_)
  refine lv_iconst (v := (0 : Int32)) hx hb dX6_fallenByNumber_2 (by decide) ?_
  refine lv_istore (lv' := [(4, .int (0 : Int32)), (3, .int x1), (0, .ref q_t), (1, .int x1), (2, .int x2)]) hx hb dX6_fallenByNumber_3 hl (by decide) rfl (fun ls hl => ?_)
  have hL1 : ∀ (kk4 : Int32 → Option (Int32)), (∀ (y5 : Int32) (H : Heap) (locs : List Loc) (ls : Array Slot), va_P D vwCl [(q_t, .inr (6, [.int v_t_size, .ref q_t_firsts, .ref q_t_counts, .ref q_t_taken, .int v_t_takesRight, .int v_t_takesLeft])), (q_t_taken, .inl (cI, 27, .inl r_t_taken)), (q_t_firsts, .inl (cI, 27, .inl r_t_firsts)), (q_t_counts, .inl (cI, 27, .inl r_t_counts))] H → va_D A [(q_t, .inr (6, [.int v_t_size, .ref q_t_firsts, .ref q_t_counts, .ref q_t_taken, .int v_t_takesRight, .int v_t_takesLeft])), (q_t_taken, .inl (cI, 27, .inl r_t_taken)), (q_t_firsts, .inl (cI, 27, .inl r_t_firsts)), (q_t_counts, .inl (cI, 27, .inl r_t_counts))] → va_S A s.heap H locs → lv_has ls 5 [(0, .ref q_t), (2, .int x2), (4, .int y5)] → kk4 y5 = some (z0) → W p l e ⟨1, 0, 0, 25⟩ s m ([.ref q_t, .int x1, .int x2] : List Value).toArray below meth c H locs 0 0 (MQ below (QI D cI cC A wE z0) ([.ref q_t, .int x1, .int x2] : List Value).toArray s 0 0 A) (F0 m 37 ls [])) → ∀ (n : Nat) (y2 : Int32) (y3 : Int32) (H : Heap) (locs : List Loc) (ls : Array Slot), va_P D vwCl [(q_t, .inr (6, [.int v_t_size, .ref q_t_firsts, .ref q_t_counts, .ref q_t_taken, .int v_t_takesRight, .int v_t_takesLeft])), (q_t_taken, .inl (cI, 27, .inl r_t_taken)), (q_t_firsts, .inl (cI, 27, .inl r_t_firsts)), (q_t_counts, .inl (cI, 27, .inl r_t_counts))] H → va_D A [(q_t, .inr (6, [.int v_t_size, .ref q_t_firsts, .ref q_t_counts, .ref q_t_taken, .int v_t_takesRight, .int v_t_takesLeft])), (q_t_taken, .inl (cI, 27, .inl r_t_taken)), (q_t_firsts, .inl (cI, 27, .inl r_t_firsts)), (q_t_counts, .inl (cI, 27, .inl r_t_counts))] → va_S A s.heap H locs → lv_has ls 5 [(0, .ref q_t), (2, .int x2), (3, .int y2), (4, .int y3)] → f_X6_fallenByNumber_L5 N x2 v_t_size r_t_taken kk4 n y2 y3 = some (z0) → W p l e ⟨1, 0, 0, 25⟩ s m ([.ref q_t, .int x1, .int x2] : List Value).toArray below meth c H locs 0 0 (MQ below (QI D cI cC A wE z0) ([.ref q_t, .int x1, .int x2] : List Value).toArray s 0 0 A) (F0 m 5 ls []) := by
    intro kk4 hk6 n
    induction n with
    | zero => intro y2 y3 H locs ls hP hD hS hl hf; rw [f_X6_fallenByNumber_L5] at hf; cases hf
    | succ n ih =>
      intro y2 y3 H locs ls hP hD hS hl hf
      rw [f_X6_fallenByNumber_L5] at hf
      refine lv_iload hx hb dX6_fallenByNumber_5 (lv_at hl 3 rfl) ?_
      refine lv_aload_n hx hb dX6_fallenByNumber_7 rfl (lv_at hl 0 rfl) ?_
      refine va_get (D := D) (ci := 6) (v := .int v_t_size) (C := RX6) (T := TX6) (N := 6) hx hb hts in_X6_fallenByNumber_6 hown hK hP 0 rfl rfl 0 (by decide) (hts (.fieldLink RX6 21 "PinLanes$Strikes" "size" "I") (by decide +kernel)) (fun _ h9 => h9) rfl dX6_fallenByNumber_8 ?_
      refine lv_icmp_ge (tgt := 54) hx hb dX6_fallenByNumber_11 (by decide) (fun c7 => ?_) (fun c7 => ?_)
      · have hf := ip c7 hf
        refine lv_iconst (v := (0 : Int32)) hx hb dX6_fallenByNumber_54 (by decide) ?_
        have e1_ := Option.some.inj hf
        exact endI hx hb hr hlk hK (by rw [hwE]; exact hP) (by rw [hwE]; exact hD) hS e1_ dX6_fallenByNumber_55
      · have hf := iq c7 hf
        refine lv_iload_n hx hb dX6_fallenByNumber_14 rfl (lv_at hl 1 rfl) ?_
        refine lv_aload_n hx hb dX6_fallenByNumber_15 rfl (lv_at hl 0 rfl) ?_
        refine va_get (D := D) (ci := 6) (v := .ref q_t_taken) (C := RX6) (T := TX6) (N := 6) hx hb hts in_X6_fallenByNumber_6 hown hK hP 0 rfl rfl 3 (by decide) (hts (.fieldLink RX6 18 "PinLanes$Strikes" "taken" "[I") (by decide +kernel)) (fun _ h9 => h9) rfl dX6_fallenByNumber_16 ?_
        refine lv_iload hx hb dX6_fallenByNumber_19 (lv_at hl 3 rfl) ?_
        obtain ⟨b8, hf⟩ := gd_e hf
        refine va_iald hx hb hK hP 1 0 rfl rfl (inb_in b8) dX6_fallenByNumber_21 ?_
        refine lv_iand hx hb dX6_fallenByNumber_22 ?_
        refine lv_aload_n hx hb dX6_fallenByNumber_23 rfl (lv_at hl 0 rfl) ?_
        refine va_get (D := D) (ci := 6) (v := .ref q_t_taken) (C := RX6) (T := TX6) (N := 6) hx hb hts in_X6_fallenByNumber_6 hown hK hP 0 rfl rfl 3 (by decide) (hts (.fieldLink RX6 18 "PinLanes$Strikes" "taken" "[I") (by decide +kernel)) (fun _ h9 => h9) rfl dX6_fallenByNumber_24 ?_
        refine lv_iload hx hb dX6_fallenByNumber_27 (lv_at hl 3 rfl) ?_
        obtain ⟨b9, hf⟩ := gd_e hf
        refine va_iald hx hb hK hP 1 0 rfl rfl (inb_in b9) dX6_fallenByNumber_29 ?_
        obtain ⟨j11, ej11, hf⟩ := jm_e hf
        have hj11 : ∀ (y10 : Int32) (H : Heap) (locs : List Loc) (ls : Array Slot), va_P D vwCl [(q_t, .inr (6, [.int v_t_size, .ref q_t_firsts, .ref q_t_counts, .ref q_t_taken, .int v_t_takesRight, .int v_t_takesLeft])), (q_t_taken, .inl (cI, 27, .inl r_t_taken)), (q_t_firsts, .inl (cI, 27, .inl r_t_firsts)), (q_t_counts, .inl (cI, 27, .inl r_t_counts))] H → va_D A [(q_t, .inr (6, [.int v_t_size, .ref q_t_firsts, .ref q_t_counts, .ref q_t_taken, .int v_t_takesRight, .int v_t_takesLeft])), (q_t_taken, .inl (cI, 27, .inl r_t_taken)), (q_t_firsts, .inl (cI, 27, .inl r_t_firsts)), (q_t_counts, .inl (cI, 27, .inl r_t_counts))] → va_S A s.heap H locs → lv_has ls 5 [(0, .ref q_t), (2, .int x2), (3, .int y10), (4, .int y3)] → j11 y10 = some (z0) → W p l e ⟨1, 0, 0, 25⟩ s m ([.ref q_t, .int x1, .int x2] : List Value).toArray below meth c H locs 0 0 (MQ below (QI D cI cC A wE z0) ([.ref q_t, .int x1, .int x2] : List Value).toArray s 0 0 A) (F0 m 48 ls []) := by
          intro y10 H locs ls hP hD hS hl hf
          rw [ej11] at hf
          refine lv_iinc (v := y3 + (1 : Int32)) (lv' := [(4, .int (y3 + (1 : Int32))), (0, .ref q_t), (2, .int x2), (3, .int y10)]) hx hb dX6_fallenByNumber_48 hl (k := 3) rfl rfl (by decide) rfl (fun ls hl => ?_)
          refine lv_goto (tgt := 5) hx hb dX6_fallenByNumber_51 (by decide) ?_
          exact ih y10 (y3 + (1 : Int32)) _ _ _ hP hD hS (lv_sub hl [1, 2, 3, 0] rfl) hf
        refine lv_icmp_ne (tgt := 48) hx hb dX6_fallenByNumber_30 (by decide) (fun c12 => ?_) (fun c12 => ?_)
        · have hf := iq c12 hf
          exact hj11 y2 _ _ _ hP hD hS (lv_sub hl [0, 1, 2, 3] rfl) hf
        · have hf := ip c12 hf
          refine lv_iload_n hx hb dX6_fallenByNumber_33 rfl (lv_at hl 2 rfl) ?_
          refine lv_if_ne (tgt := 45) hx hb dX6_fallenByNumber_34 (by decide) (fun c13 => ?_) (fun c13 => ?_)
          · have hf := iq c13 hf
            refine lv_iinc (v := y2 + (-1 : Int32)) (lv' := [(3, .int (y2 + (-1 : Int32))), (0, .ref q_t), (2, .int x2), (4, .int y3)]) hx hb dX6_fallenByNumber_45 hl (k := 2) rfl rfl (by decide) rfl (fun ls hl => ?_)
            exact hj11 (y2 + (-1 : Int32)) _ _ _ hP hD hS (lv_sub hl [1, 2, 0, 3] rfl) hf
          · have hf := ip c13 hf
            exact hk6 y3 _ _ _ hP hD hS (lv_sub hl [0, 1, 3] rfl) hf
  refine hL1 _ (fun y5 H locs ls hP hD hS hl hf => ?_) N x1 (0 : Int32) _ _ _ hP hD hS (lv_sub hl [2, 4, 1, 0] rfl) hf
  refine lv_aload_n hx hb dX6_fallenByNumber_37 rfl (lv_at hl 0 rfl) ?_
  refine lv_iload hx hb dX6_fallenByNumber_38 (lv_at hl 2 rfl) ?_
  refine lv_iload_n hx hb dX6_fallenByNumber_40 rfl (lv_at hl 1 rfl) ?_
  obtain ⟨a14, hra14, hf⟩ := ob1_e hf
  refine callVi (As := [.int y5, .int x2]) (rest := []) (wn := [(q_t, .inr (6, [.int v_t_size, .ref q_t_firsts, .ref q_t_counts, .ref q_t_taken, .int v_t_takesRight, .int v_t_takesLeft])), (q_t_taken, .inl (cI, 27, .inl r_t_taken)), (q_t_firsts, .inl (cI, 27, .inl r_t_firsts)), (q_t_counts, .inl (cI, 27, .inl r_t_counts))]) (q0 := 0) (ci := 6) ⟨hx, hb, hml, hown, hts⟩ (c_X6_fallen l D cI cC N _ q_t q_t_firsts q_t_counts q_t_taken v_t_size v_t_takesRight v_t_takesLeft r_t_taken r_t_firsts r_t_counts y5 x2 a14 hra14) (cwV 2 hts gX6_fallenByNumber_X6_fallen rfl rfl rfl (by decide +kernel) ⟨Nat.le_of_ble_eq_true rfl, Nat.le_of_ble_eq_true rfl⟩) hK hP hD hS hA hG (Cut.mk [0, 1, 2, 3] [] [0, 1, 2, 3] [] rfl rfl rfl rfl (by decide) rfl rfl) rfl rfl rfl rfl hl.1 rfl (Nat.le_of_ble_eq_true rfl) ⟨Nat.zero_le _, Nat.zero_le _⟩ dX6_fallenByNumber_41 (fun H locs hP hD hS => ?_)
  have e1_ := Option.some.inj hf
  exact endI hx hb hr hlk hK (by rw [hwE]; exact hP) (by rw [hwE]; exact hD) hS e1_ dX6_fallenByNumber_44
-- X6_howMany
set_option maxRecDepth 20000 in
theorem in_X6_howMany_6 : ∀ w ∈ wsX60, w ∈ wsX6_howMany := by decide +kernel
set_option maxHeartbeats 4000000 in
set_option maxRecDepth 100000 in
theorem c_X6_howMany (l : Launch) (D : va_G) (cI cC : ClassId) (N sz : Nat) (q_t q_t_firsts q_t_counts q_t_taken : Nat) (v_t_size : Int32) (v_t_takesRight : Int32) (v_t_takesLeft : Int32) (r_t_taken : Nat → Int32) (x1 : Int32) (z0 : Int32) (hf : f_X6_howMany N v_t_size r_t_taken x1 = some (z0)) : Ct l yX6_howMany wsX6_howMany ⟨0, 0, 0, 0⟩ [.ref q_t, .int x1] D cI cC [(q_t, .inr (6, [.int v_t_size, .ref q_t_firsts, .ref q_t_counts, .ref q_t_taken, .int v_t_takesRight, .int v_t_takesLeft])), (q_t_taken, .inl (cI, 27, .inl r_t_taken))] sz (fun A => (QI D cI cC A [(q_t, .inr (6, [.int v_t_size, .ref q_t_firsts, .ref q_t_counts, .ref q_t_taken, .int v_t_takesRight, .int v_t_takesLeft])), (q_t_taken, .inl (cI, 27, .inl r_t_taken))] z0)) := by
  suffices h : ∀ wE : va_W, wE = [(q_t, .inr (6, [.int v_t_size, .ref q_t_firsts, .ref q_t_counts, .ref q_t_taken, .int v_t_takesRight, .int v_t_takesLeft])), (q_t_taken, .inl (cI, 27, .inl r_t_taken))] → Ct l yX6_howMany wsX6_howMany ⟨0, 0, 0, 0⟩ [.ref q_t, .int x1] D cI cC [(q_t, .inr (6, [.int v_t_size, .ref q_t_firsts, .ref q_t_counts, .ref q_t_taken, .int v_t_takesRight, .int v_t_takesLeft])), (q_t_taken, .inl (cI, 27, .inl r_t_taken))] sz (fun A => (QI D cI cC A wE z0)) from h _ rfl
  intro wE hwE
  rw [f_X6_howMany] at hf
  refine Ct.beg cX6_howMany 4 (some .int) [(0, .ref q_t), (1, .int x1)] RX6 (by decide) rfl rfl (Nat.le_of_ble_eq_true rfl) rfl (fun p e s m below meth c A hx hb hr hts hown hlk hml hnm hK hP hD hS hA hG ls hl => ?_)
  refine lv_iconst (v := (0 : Int32)) hx hb dX6_howMany_0 (by decide) ?_
  refine lv_istore_n (lv' := [(2, .int (0 : Int32)), (0, .ref q_t), (1, .int x1)]) hx hb dX6_howMany_1 rfl hl (by decide) rfl (fun ls hl => ?_)
  refine lv_iconst (v := (0 : Int32)) hx hb dX6_howMany_2 (by decide) ?_
  refine lv_istore_n (lv' := [(3, .int (0 : Int32)), (2, .int (0 : Int32)), (0, .ref q_t), (1, .int x1)]) hx hb dX6_howMany_3 rfl hl (by decide) rfl (fun ls hl => ?_)
  have hL1 : ∀ (n : Nat) (y2 : Int32) (y3 : Int32) (H : Heap) (locs : List Loc) (ls : Array Slot), va_P D vwCl [(q_t, .inr (6, [.int v_t_size, .ref q_t_firsts, .ref q_t_counts, .ref q_t_taken, .int v_t_takesRight, .int v_t_takesLeft])), (q_t_taken, .inl (cI, 27, .inl r_t_taken))] H → va_D A [(q_t, .inr (6, [.int v_t_size, .ref q_t_firsts, .ref q_t_counts, .ref q_t_taken, .int v_t_takesRight, .int v_t_takesLeft])), (q_t_taken, .inl (cI, 27, .inl r_t_taken))] → va_S A s.heap H locs → lv_has ls 4 [(0, .ref q_t), (1, .int x1), (2, .int y2), (3, .int y3)] → f_X6_howMany_L4 N x1 v_t_size r_t_taken n y2 y3 = some (z0) → W p l e ⟨0, 0, 0, 0⟩ s m ([.ref q_t, .int x1] : List Value).toArray below meth c H locs 0 0 (MQ below (QI D cI cC A wE z0) ([.ref q_t, .int x1] : List Value).toArray s 0 0 A) (F0 m 4 ls []) := by
    intro n
    induction n with
    | zero => intro y2 y3 H locs ls hP hD hS hl hf; rw [f_X6_howMany_L4] at hf; cases hf
    | succ n ih =>
      intro y2 y3 H locs ls hP hD hS hl hf
      rw [f_X6_howMany_L4] at hf
      refine lv_iload_n hx hb dX6_howMany_4 rfl (lv_at hl 3 rfl) ?_
      refine lv_aload_n hx hb dX6_howMany_5 rfl (lv_at hl 0 rfl) ?_
      refine va_get (D := D) (ci := 6) (v := .int v_t_size) (C := RX6) (T := TX6) (N := 6) hx hb hts in_X6_howMany_6 hown hK hP 0 rfl rfl 0 (by decide) (hts (.fieldLink RX6 21 "PinLanes$Strikes" "size" "I") (by decide +kernel)) (fun _ h9 => h9) rfl dX6_howMany_6 ?_
      refine lv_icmp_ge (tgt := 38) hx hb dX6_howMany_9 (by decide) (fun c4 => ?_) (fun c4 => ?_)
      · have hf := ip c4 hf
        refine lv_iload_n hx hb dX6_howMany_38 rfl (lv_at hl 2 rfl) ?_
        have e1_ := Option.some.inj hf
        exact endI hx hb hr hlk hK (by rw [hwE]; exact hP) (by rw [hwE]; exact hD) hS e1_ dX6_howMany_39
      · have hf := iq c4 hf
        refine lv_iload_n hx hb dX6_howMany_12 rfl (lv_at hl 1 rfl) ?_
        refine lv_aload_n hx hb dX6_howMany_13 rfl (lv_at hl 0 rfl) ?_
        refine va_get (D := D) (ci := 6) (v := .ref q_t_taken) (C := RX6) (T := TX6) (N := 6) hx hb hts in_X6_howMany_6 hown hK hP 0 rfl rfl 3 (by decide) (hts (.fieldLink RX6 18 "PinLanes$Strikes" "taken" "[I") (by decide +kernel)) (fun _ h9 => h9) rfl dX6_howMany_14 ?_
        refine lv_iload_n hx hb dX6_howMany_17 rfl (lv_at hl 3 rfl) ?_
        obtain ⟨b5, hf⟩ := gd_e hf
        refine va_iald hx hb hK hP 1 0 rfl rfl (inb_in b5) dX6_howMany_18 ?_
        refine lv_iand hx hb dX6_howMany_19 ?_
        refine lv_aload_n hx hb dX6_howMany_20 rfl (lv_at hl 0 rfl) ?_
        refine va_get (D := D) (ci := 6) (v := .ref q_t_taken) (C := RX6) (T := TX6) (N := 6) hx hb hts in_X6_howMany_6 hown hK hP 0 rfl rfl 3 (by decide) (hts (.fieldLink RX6 18 "PinLanes$Strikes" "taken" "[I") (by decide +kernel)) (fun _ h9 => h9) rfl dX6_howMany_21 ?_
        refine lv_iload_n hx hb dX6_howMany_24 rfl (lv_at hl 3 rfl) ?_
        obtain ⟨b6, hf⟩ := gd_e hf
        refine va_iald hx hb hK hP 1 0 rfl rfl (inb_in b6) dX6_howMany_25 ?_
        obtain ⟨j8, ej8, hf⟩ := jm_e hf
        have hj8 : ∀ (y7 : Int32) (H : Heap) (locs : List Loc) (ls : Array Slot), va_P D vwCl [(q_t, .inr (6, [.int v_t_size, .ref q_t_firsts, .ref q_t_counts, .ref q_t_taken, .int v_t_takesRight, .int v_t_takesLeft])), (q_t_taken, .inl (cI, 27, .inl r_t_taken))] H → va_D A [(q_t, .inr (6, [.int v_t_size, .ref q_t_firsts, .ref q_t_counts, .ref q_t_taken, .int v_t_takesRight, .int v_t_takesLeft])), (q_t_taken, .inl (cI, 27, .inl r_t_taken))] → va_S A s.heap H locs → lv_has ls 4 [(0, .ref q_t), (1, .int x1), (2, .int y7), (3, .int y3)] → j8 y7 = some (z0) → W p l e ⟨0, 0, 0, 0⟩ s m ([.ref q_t, .int x1] : List Value).toArray below meth c H locs 0 0 (MQ below (QI D cI cC A wE z0) ([.ref q_t, .int x1] : List Value).toArray s 0 0 A) (F0 m 32 ls []) := by
          intro y7 H locs ls hP hD hS hl hf
          rw [ej8] at hf
          refine lv_iinc (v := y3 + (1 : Int32)) (lv' := [(3, .int (y3 + (1 : Int32))), (0, .ref q_t), (1, .int x1), (2, .int y7)]) hx hb dX6_howMany_32 hl (k := 3) rfl rfl (by decide) rfl (fun ls hl => ?_)
          refine lv_goto (tgt := 4) hx hb dX6_howMany_35 (by decide) ?_
          exact ih y7 (y3 + (1 : Int32)) _ _ _ hP hD hS (lv_sub hl [1, 2, 3, 0] rfl) hf
        refine lv_icmp_ne (tgt := 32) hx hb dX6_howMany_26 (by decide) (fun c9 => ?_) (fun c9 => ?_)
        · have hf := iq c9 hf
          exact hj8 y2 _ _ _ hP hD hS (lv_sub hl [0, 1, 2, 3] rfl) hf
        · have hf := ip c9 hf
          refine lv_iinc (v := y2 + (1 : Int32)) (lv' := [(2, .int (y2 + (1 : Int32))), (0, .ref q_t), (1, .int x1), (3, .int y3)]) hx hb dX6_howMany_29 hl (k := 2) rfl rfl (by decide) rfl (fun ls hl => ?_)
          exact hj8 (y2 + (1 : Int32)) _ _ _ hP hD hS (lv_sub hl [1, 2, 0, 3] rfl) hf
  exact hL1 N (0 : Int32) (0 : Int32) _ _ _ hP hD hS (lv_sub hl [2, 3, 1, 0] rfl) hf
-- X0_playOne
set_option maxRecDepth 20000 in
theorem in_X0_playOne_0 : ∀ w ∈ wsX00, w ∈ wsX0_playOne := by decide +kernel
set_option maxHeartbeats 4000000 in
set_option maxRecDepth 100000 in
theorem c_X0_playOne (l : Launch) (D : va_G) (cI cC : ClassId) (N sz : Nat) (q_t q_o1 q_o1_firsts q_o1_counts q_o1_taken : Nat) (v_t_won : Int32) (v_t_pinsFallen : Int32) (v_t_seed : Int64) (v_o1_size : Int32) (v_o1_takesRight : Int32) (v_o1_takesLeft : Int32) (r_o1_taken : Nat → Int32) (r_o1_firsts : Nat → Int32) (r_o1_counts : Nat → Int32) (x2 : Int32) (z0 : Int32) (z_v_t_pinsFallen : Int32) (z_v_t_seed : Int64) (hf : f_X0_playOne N v_t_pinsFallen v_t_seed v_o1_size v_o1_takesRight v_o1_takesLeft r_o1_taken r_o1_firsts r_o1_counts x2 = some (z0, z_v_t_pinsFallen, z_v_t_seed)) : Ct l yX0_playOne wsX0_playOne ⟨2, 0, 0, 49⟩ [.ref q_t, .ref q_o1, .int x2] D cI cC [(q_t, .inr (0, [.int v_t_won, .int v_t_pinsFallen, .long v_t_seed])), (q_o1, .inr (6, [.int v_o1_size, .ref q_o1_firsts, .ref q_o1_counts, .ref q_o1_taken, .int v_o1_takesRight, .int v_o1_takesLeft])), (q_o1_taken, .inl (cI, 27, .inl r_o1_taken)), (q_o1_firsts, .inl (cI, 27, .inl r_o1_firsts)), (q_o1_counts, .inl (cI, 27, .inl r_o1_counts))] sz (fun A => (QI D cI cC A [(q_t, .inr (0, [.int v_t_won, .int z_v_t_pinsFallen, .long z_v_t_seed])), (q_o1, .inr (6, [.int v_o1_size, .ref q_o1_firsts, .ref q_o1_counts, .ref q_o1_taken, .int v_o1_takesRight, .int v_o1_takesLeft])), (q_o1_taken, .inl (cI, 27, .inl r_o1_taken)), (q_o1_firsts, .inl (cI, 27, .inl r_o1_firsts)), (q_o1_counts, .inl (cI, 27, .inl r_o1_counts))] z0)) := by
  suffices h : ∀ wE : va_W, wE = [(q_t, .inr (0, [.int v_t_won, .int z_v_t_pinsFallen, .long z_v_t_seed])), (q_o1, .inr (6, [.int v_o1_size, .ref q_o1_firsts, .ref q_o1_counts, .ref q_o1_taken, .int v_o1_takesRight, .int v_o1_takesLeft])), (q_o1_taken, .inl (cI, 27, .inl r_o1_taken)), (q_o1_firsts, .inl (cI, 27, .inl r_o1_firsts)), (q_o1_counts, .inl (cI, 27, .inl r_o1_counts))] → Ct l yX0_playOne wsX0_playOne ⟨2, 0, 0, 49⟩ [.ref q_t, .ref q_o1, .int x2] D cI cC [(q_t, .inr (0, [.int v_t_won, .int v_t_pinsFallen, .long v_t_seed])), (q_o1, .inr (6, [.int v_o1_size, .ref q_o1_firsts, .ref q_o1_counts, .ref q_o1_taken, .int v_o1_takesRight, .int v_o1_takesLeft])), (q_o1_taken, .inl (cI, 27, .inl r_o1_taken)), (q_o1_firsts, .inl (cI, 27, .inl r_o1_firsts)), (q_o1_counts, .inl (cI, 27, .inl r_o1_counts))] sz (fun A => (QI D cI cC A wE z0)) from h _ rfl
  intro wE hwE
  rw [f_X0_playOne] at hf
  refine Ct.beg cX0_playOne 7 (some .int) [(0, .ref q_t), (1, .ref q_o1), (2, .int x2)] RX0 (by decide) rfl rfl (Nat.le_of_ble_eq_true rfl) rfl (fun p e s m below meth c A hx hb hr hts hown hlk hml hnm hK hP hD hS hA hG ls hl => ?_)
  refine lv_iload_n hx hb dX0_playOne_0 rfl (lv_at hl 2 rfl) ?_
  refine lv_istore_n (lv' := [(3, .int x2), (0, .ref q_t), (1, .ref q_o1), (2, .int x2)]) hx hb dX0_playOne_1 rfl hl (by decide) rfl (fun ls hl => ?_)
  refine lv_iconst (v := (0 : Int32)) hx hb dX0_playOne_2 (by decide) ?_
  refine lv_istore (lv' := [(4, .int (0 : Int32)), (3, .int x2), (0, .ref q_t), (1, .ref q_o1), (2, .int x2)]) hx hb dX0_playOne_3 hl (by decide) rfl (fun ls hl => ?_)
  refine lv_aload_n hx hb dX0_playOne_5 rfl (lv_at hl 3 rfl) ?_
  refine lv_iload_n hx hb dX0_playOne_6 rfl (lv_at hl 1 rfl) ?_
  obtain ⟨a1, hra1, hf⟩ := ob1_e hf
  refine callVi (As := [.int x2]) (rest := []) (wn := [(q_t, .inr (0, [.int v_t_won, .int v_t_pinsFallen, .long v_t_seed])), (q_o1, .inr (6, [.int v_o1_size, .ref q_o1_firsts, .ref q_o1_counts, .ref q_o1_taken, .int v_o1_takesRight, .int v_o1_takesLeft])), (q_o1_taken, .inl (cI, 27, .inl r_o1_taken)), (q_o1_firsts, .inl (cI, 27, .inl r_o1_firsts)), (q_o1_counts, .inl (cI, 27, .inl r_o1_counts))]) (q0 := 0) (ci := 6) ⟨hx, hb, hml, hown, hts⟩ (c_X6_howMany l D cI cC N _ q_o1 q_o1_firsts q_o1_counts q_o1_taken v_o1_size v_o1_takesRight v_o1_takesLeft r_o1_taken x2 a1 hra1) (cwV 1 hts gX0_playOne_X6_howMany rfl rfl rfl (by decide +kernel) ⟨Nat.le_of_ble_eq_true rfl, Nat.le_of_ble_eq_true rfl⟩) hK hP hD hS hA hG (Cut.mk [1, 2] [0, 3, 4] [0, 3, 4, 1, 2] [(q_t, .inr (0, [.int v_t_won, .int v_t_pinsFallen, .long v_t_seed])), (q_o1_firsts, .inl (cI, 27, .inl r_o1_firsts)), (q_o1_counts, .inl (cI, 27, .inl r_o1_counts))] rfl rfl rfl rfl (by decide) rfl rfl) rfl rfl rfl rfl hl.1 rfl (Nat.le_of_ble_eq_true rfl) ⟨Nat.zero_le _, Nat.zero_le _⟩ dX0_playOne_7 (fun H locs hP hD hS => ?_)
  refine lv_istore (lv' := [(5, .int a1), (4, .int (0 : Int32)), (3, .int x2), (0, .ref q_t), (1, .ref q_o1), (2, .int x2)]) hx hb dX0_playOne_10 hl (by decide) rfl (fun ls hl => ?_)
  have hL2 : ∀ (n : Nat) (y3 : Int32) (y4 : Int32) (y5 : Int32) (y6 : Int32) (y7 : Int64) (H : Heap) (locs : List Loc) (ls : Array Slot), va_P D vwCl [(q_t, .inr (0, [.int v_t_won, .int y6, .long y7])), (q_o1, .inr (6, [.int v_o1_size, .ref q_o1_firsts, .ref q_o1_counts, .ref q_o1_taken, .int v_o1_takesRight, .int v_o1_takesLeft])), (q_o1_taken, .inl (cI, 27, .inl r_o1_taken)), (q_o1_firsts, .inl (cI, 27, .inl r_o1_firsts)), (q_o1_counts, .inl (cI, 27, .inl r_o1_counts))] H → va_D A [(q_t, .inr (0, [.int v_t_won, .int y6, .long y7])), (q_o1, .inr (6, [.int v_o1_size, .ref q_o1_firsts, .ref q_o1_counts, .ref q_o1_taken, .int v_o1_takesRight, .int v_o1_takesLeft])), (q_o1_taken, .inl (cI, 27, .inl r_o1_taken)), (q_o1_firsts, .inl (cI, 27, .inl r_o1_firsts)), (q_o1_counts, .inl (cI, 27, .inl r_o1_counts))] → va_S A s.heap H locs → lv_has ls 7 [(0, .ref q_t), (1, .ref q_o1), (3, .int y3), (4, .int y4), (5, .int y5)] → f_X0_playOne_L12 N v_o1_size v_o1_takesRight v_o1_takesLeft r_o1_taken r_o1_firsts r_o1_counts n y3 y4 y5 y6 y7 = some (z0, z_v_t_pinsFallen, z_v_t_seed) → W p l e ⟨2, 0, 0, 49⟩ s m ([.ref q_t, .ref q_o1, .int x2] : List Value).toArray below meth c H locs 0 0 (MQ below (QI D cI cC A wE z0) ([.ref q_t, .ref q_o1, .int x2] : List Value).toArray s 0 0 A) (F0 m 12 ls []) := by
    intro n
    induction n with
    | zero => intro y3 y4 y5 y6 y7 H locs ls hP hD hS hl hf; rw [f_X0_playOne_L12] at hf; cases hf
    | succ n ih =>
      intro y3 y4 y5 y6 y7 H locs ls hP hD hS hl hf
      rw [f_X0_playOne_L12] at hf
      refine lv_iload hx hb dX0_playOne_12 (lv_at hl 4 rfl) ?_
      refine lv_if_le (tgt := 71) hx hb dX0_playOne_14 (by decide) (fun c8 => ?_) (fun c8 => ?_)
      · have hf := ip c8 hf
        refine lv_iload hx hb dX0_playOne_71 (lv_at hl 3 rfl) ?_
        obtain ⟨e1_, e2_, e3_⟩ := so3 hf
        exact endI hx hb hr hlk hK (by rw [hwE, ← e2_, ← e3_]; exact hP) (by rw [hwE, ← e2_, ← e3_]; exact hD) hS e1_ dX0_playOne_73
      · have hf := iq c8 hf
        refine lv_iload hx hb dX0_playOne_17 (lv_at hl 3 rfl) ?_
        refine lv_bipush (v := (9 : Int32)) hx hb dX0_playOne_19 (by decide) ?_
        refine lv_icmp_ge (tgt := 71) hx hb dX0_playOne_21 (by decide) (fun c9 => ?_) (fun c9 => ?_)
        · have hf := ip c9 hf
          refine lv_iload hx hb dX0_playOne_71 (lv_at hl 3 rfl) ?_
          obtain ⟨e1_, e2_, e3_⟩ := so3 hf
          exact endI hx hb hr hlk hK (by rw [hwE, ← e2_, ← e3_]; exact hP) (by rw [hwE, ← e2_, ← e3_]; exact hD) hS e1_ dX0_playOne_73
        · have hf := iq c9 hf
          refine lv_aload_n hx hb dX0_playOne_24 rfl (lv_at hl 1 rfl) ?_
          refine lv_aload_n hx hb dX0_playOne_25 rfl (lv_at hl 0 rfl) ?_
          refine lv_iload hx hb dX0_playOne_26 (lv_at hl 4 rfl) ?_
          obtain ⟨a10, a11, hra10, hf⟩ := ob2_e hf
          refine callVi (As := [.int y5]) (rest := [.ref q_o1]) (wn := [(q_t, .inr (0, [.int v_t_won, .int y6, .long a11])), (q_o1, .inr (6, [.int v_o1_size, .ref q_o1_firsts, .ref q_o1_counts, .ref q_o1_taken, .int v_o1_takesRight, .int v_o1_takesLeft])), (q_o1_taken, .inl (cI, 27, .inl r_o1_taken)), (q_o1_firsts, .inl (cI, 27, .inl r_o1_firsts)), (q_o1_counts, .inl (cI, 27, .inl r_o1_counts))]) (q0 := 0) (ci := 0) ⟨hx, hb, hml, hown, hts⟩ (c_X0_draw l D cI cC N _ q_t v_t_won y6 y7 y5 a10 a11 hra10) (cwV 1 hts gX0_playOne_X0_draw rfl rfl rfl (by decide +kernel) ⟨Nat.le_of_ble_eq_true rfl, Nat.le_of_ble_eq_true rfl⟩) hK hP hD hS hA hG (Cut.mk [0] [1, 2, 3, 4] [4, 0, 1, 2, 3] [(q_o1, .inr (6, [.int v_o1_size, .ref q_o1_firsts, .ref q_o1_counts, .ref q_o1_taken, .int v_o1_takesRight, .int v_o1_takesLeft])), (q_o1_taken, .inl (cI, 27, .inl r_o1_taken)), (q_o1_firsts, .inl (cI, 27, .inl r_o1_firsts)), (q_o1_counts, .inl (cI, 27, .inl r_o1_counts))] rfl rfl rfl rfl (by decide) rfl rfl) rfl rfl rfl rfl hl.1 rfl (Nat.le_of_ble_eq_true rfl) ⟨Nat.zero_le _, Nat.zero_le _⟩ dX0_playOne_28 (fun H locs hP hD hS => ?_)
          refine lv_iload_n hx hb dX0_playOne_31 rfl (lv_at hl 2 rfl) ?_
          obtain ⟨a12, hra12, hf⟩ := ob1_e hf
          refine callVi (As := [.int a10, .int y3]) (rest := []) (wn := [(q_t, .inr (0, [.int v_t_won, .int y6, .long a11])), (q_o1, .inr (6, [.int v_o1_size, .ref q_o1_firsts, .ref q_o1_counts, .ref q_o1_taken, .int v_o1_takesRight, .int v_o1_takesLeft])), (q_o1_taken, .inl (cI, 27, .inl r_o1_taken)), (q_o1_firsts, .inl (cI, 27, .inl r_o1_firsts)), (q_o1_counts, .inl (cI, 27, .inl r_o1_counts))]) (q0 := 0) (ci := 6) ⟨hx, hb, hml, hown, hts⟩ (c_X6_fallenByNumber l D cI cC N _ q_o1 q_o1_firsts q_o1_counts q_o1_taken v_o1_size v_o1_takesRight v_o1_takesLeft r_o1_taken r_o1_firsts r_o1_counts a10 y3 a12 hra12) (cwV 2 hts gX0_playOne_X6_fallenByNumber rfl rfl rfl (by decide +kernel) ⟨Nat.le_of_ble_eq_true rfl, Nat.le_of_ble_eq_true rfl⟩) hK hP hD hS hA hG (Cut.mk [1, 2, 3, 4] [0] [0, 1, 2, 3, 4] [(q_t, .inr (0, [.int v_t_won, .int y6, .long a11]))] rfl rfl rfl rfl (by decide) rfl rfl) rfl rfl rfl rfl hl.1 rfl (Nat.le_of_ble_eq_true rfl) ⟨Nat.zero_le _, Nat.zero_le _⟩ dX0_playOne_32 (fun H locs hP hD hS => ?_)
          refine lv_istore (lv' := [(6, .int a12), (0, .ref q_t), (1, .ref q_o1), (3, .int y3), (4, .int y4), (5, .int y5)]) hx hb dX0_playOne_35 hl (by decide) rfl (fun ls hl => ?_)
          refine lv_iload_n hx hb dX0_playOne_37 rfl (lv_at hl 3 rfl) ?_
          refine lv_iload hx hb dX0_playOne_38 (lv_at hl 0 rfl) ?_
          refine lv_iconst (v := (-1 : Int32)) hx hb dX0_playOne_40 (by decide) ?_
          refine lv_ixor hx hb dX0_playOne_41 ?_
          refine lv_iand hx hb dX0_playOne_42 ?_
          refine lv_istore_n (lv' := [(3, .int (y3 &&& (a12 ^^^ (-1 : Int32)))), (6, .int a12), (0, .ref q_t), (1, .ref q_o1), (4, .int y4), (5, .int y5)]) hx hb dX0_playOne_43 rfl hl (by decide) rfl (fun ls hl => ?_)
          refine lv_aload_n hx hb dX0_playOne_44 rfl (lv_at hl 2 rfl) ?_
          refine lv_dup hx hb dX0_playOne_45 rfl ?_
          refine va_get (D := D) (ci := 0) (v := .int y6) (C := RX0) (T := TX0) (N := 3) hx hb hts in_X0_playOne_0 hown hK hP 0 rfl rfl 1 (by decide) (hts (.fieldLink RX0 15 "PinLanes$Games" "pinsFallen" "I") (by decide +kernel)) (fun _ h9 => h9) rfl dX0_playOne_46 ?_
          refine lv_iload hx hb dX0_playOne_49 (lv_at hl 1 rfl) ?_
          obtain ⟨a13, hra13, hf⟩ := ob1_e hf
          refine callSi (As := [.int a12]) (rest := [.int y6, .ref q_t]) (wn := [(q_t, .inr (0, [.int v_t_won, .int y6, .long a11])), (q_o1, .inr (6, [.int v_o1_size, .ref q_o1_firsts, .ref q_o1_counts, .ref q_o1_taken, .int v_o1_takesRight, .int v_o1_takesLeft])), (q_o1_taken, .inl (cI, 27, .inl r_o1_taken)), (q_o1_firsts, .inl (cI, 27, .inl r_o1_firsts)), (q_o1_counts, .inl (cI, 27, .inl r_o1_counts))]) ⟨hx, hb, hml, hown, hts⟩ (c_J6_bitCount_0f7a4 l D cI cC N _ a12 a13 hra13) (va_cwS 1 hts gX0_playOne_J6_bitCount_0f7a4 rfl rfl rfl (by decide +kernel) ⟨Nat.le_of_ble_eq_true rfl, Nat.le_of_ble_eq_true rfl⟩) hK hP hD hS hA hG (Cut.mk [] [0, 1, 2, 3, 4] [0, 1, 2, 3, 4] [(q_t, .inr (0, [.int v_t_won, .int y6, .long a11])), (q_o1, .inr (6, [.int v_o1_size, .ref q_o1_firsts, .ref q_o1_counts, .ref q_o1_taken, .int v_o1_takesRight, .int v_o1_takesLeft])), (q_o1_taken, .inl (cI, 27, .inl r_o1_taken)), (q_o1_firsts, .inl (cI, 27, .inl r_o1_firsts)), (q_o1_counts, .inl (cI, 27, .inl r_o1_counts))] rfl rfl rfl rfl (by decide) rfl rfl) rfl hl.1 rfl (Nat.le_of_ble_eq_true rfl) ⟨Nat.zero_le _, Nat.zero_le _⟩ dX0_playOne_51 (fun H locs hP hD hS => ?_)
          refine lv_iadd hx hb dX0_playOne_54 ?_
          refine va_put (D := D) (ci := 0) (v := .int (y6 + a13)) (ty := .int) (C := RX0) (T := TX0) (N := 3) hx hb hts in_X0_playOne_0 tyX0 tyX0_ok nmX0 hown hK hP hD hS 0 rfl rfl 1 (by decide) (hts (.fieldLink RX0 15 "PinLanes$Games" "pinsFallen" "I") (by decide +kernel)) (fun _ h9 => h9) rfl (by decide +kernel) rfl rfl (Nat.le_of_ble_eq_true rfl) dX0_playOne_55 (fun H locs hP hD hS => ?_)
          have hP : va_P D vwCl [(q_t, .inr (0, [.int v_t_won, .int (y6 + a13), .long a11])), (q_o1, .inr (6, [.int v_o1_size, .ref q_o1_firsts, .ref q_o1_counts, .ref q_o1_taken, .int v_o1_takesRight, .int v_o1_takesLeft])), (q_o1_taken, .inl (cI, 27, .inl r_o1_taken)), (q_o1_firsts, .inl (cI, 27, .inl r_o1_firsts)), (q_o1_counts, .inl (cI, 27, .inl r_o1_counts))] H := hP
          have hD : va_D A [(q_t, .inr (0, [.int v_t_won, .int (y6 + a13), .long a11])), (q_o1, .inr (6, [.int v_o1_size, .ref q_o1_firsts, .ref q_o1_counts, .ref q_o1_taken, .int v_o1_takesRight, .int v_o1_takesLeft])), (q_o1_taken, .inl (cI, 27, .inl r_o1_taken)), (q_o1_firsts, .inl (cI, 27, .inl r_o1_firsts)), (q_o1_counts, .inl (cI, 27, .inl r_o1_counts))] := hD
          refine lv_iinc (v := y4 + (1 : Int32)) (lv' := [(4, .int (y4 + (1 : Int32))), (3, .int (y3 &&& (a12 ^^^ (-1 : Int32)))), (6, .int a12), (0, .ref q_t), (1, .ref q_o1), (5, .int y5)]) hx hb dX0_playOne_58 hl (k := 4) rfl rfl (by decide) rfl (fun ls hl => ?_)
          refine lv_aload_n hx hb dX0_playOne_61 rfl (lv_at hl 4 rfl) ?_
          refine lv_iload_n hx hb dX0_playOne_62 rfl (lv_at hl 1 rfl) ?_
          obtain ⟨a14, hra14, hf⟩ := ob1_e hf
          refine callVi (As := [.int (y3 &&& (a12 ^^^ (-1 : Int32)))]) (rest := []) (wn := [(q_t, .inr (0, [.int v_t_won, .int (y6 + a13), .long a11])), (q_o1, .inr (6, [.int v_o1_size, .ref q_o1_firsts, .ref q_o1_counts, .ref q_o1_taken, .int v_o1_takesRight, .int v_o1_takesLeft])), (q_o1_taken, .inl (cI, 27, .inl r_o1_taken)), (q_o1_firsts, .inl (cI, 27, .inl r_o1_firsts)), (q_o1_counts, .inl (cI, 27, .inl r_o1_counts))]) (q0 := 0) (ci := 6) ⟨hx, hb, hml, hown, hts⟩ (c_X6_howMany l D cI cC N _ q_o1 q_o1_firsts q_o1_counts q_o1_taken v_o1_size v_o1_takesRight v_o1_takesLeft r_o1_taken (y3 &&& (a12 ^^^ (-1 : Int32))) a14 hra14) (cwV 1 hts gX0_playOne_X6_howMany rfl rfl rfl (by decide +kernel) ⟨Nat.le_of_ble_eq_true rfl, Nat.le_of_ble_eq_true rfl⟩) hK hP hD hS hA hG (Cut.mk [1, 2] [0, 3, 4] [0, 3, 4, 1, 2] [(q_t, .inr (0, [.int v_t_won, .int (y6 + a13), .long a11])), (q_o1_firsts, .inl (cI, 27, .inl r_o1_firsts)), (q_o1_counts, .inl (cI, 27, .inl r_o1_counts))] rfl rfl rfl rfl (by decide) rfl rfl) rfl rfl rfl rfl hl.1 rfl (Nat.le_of_ble_eq_true rfl) ⟨Nat.zero_le _, Nat.zero_le _⟩ dX0_playOne_63 (fun H locs hP hD hS => ?_)
          refine lv_istore (lv' := [(5, .int a14), (4, .int (y4 + (1 : Int32))), (3, .int (y3 &&& (a12 ^^^ (-1 : Int32)))), (6, .int a12), (0, .ref q_t), (1, .ref q_o1)]) hx hb dX0_playOne_66 hl (by decide) rfl (fun ls hl => ?_)
          refine lv_goto (tgt := 12) hx hb dX0_playOne_68 (by decide) ?_
          exact ih (y3 &&& (a12 ^^^ (-1 : Int32))) (y4 + (1 : Int32)) a14 (y6 + a13) a11 _ _ _ hP hD hS (lv_sub hl [4, 5, 2, 1, 0] rfl) hf
  exact hL2 N x2 (0 : Int32) a1 v_t_pinsFallen v_t_seed _ _ _ hP hD hS (lv_sub hl [3, 4, 2, 1, 0] rfl) hf
-- X0_play
set_option maxRecDepth 20000 in
theorem in_X0_play_0 : ∀ w ∈ wsX00, w ∈ wsX0_play := by decide +kernel
set_option maxRecDepth 20000 in
theorem in_X0_play_1 : ∀ w ∈ wsX10, w ∈ wsX0_play := by decide +kernel
set_option maxHeartbeats 4000000 in
set_option maxRecDepth 100000 in
theorem c_X0_play (l : Launch) (D : va_G) (cI cC : ClassId) (N sz : Nat) (q_t q_o3 q_o3_firsts q_o3_counts q_o3_taken q_o4 q_o4_kinds q_o4_laneOf q_o4_firsts q_o4_lengths q_o4_seen : Nat) (v_t_won : Int32) (v_t_pinsFallen : Int32) (v_t_seed : Int64) (v_o3_size : Int32) (v_o3_takesRight : Int32) (v_o3_takesLeft : Int32) (v_o4_pins : Int32) (v_o4_lanes : Int32) (v_o4_ball : Int32) (v_o4_law : Int32) (v_o4_standing : Int32) (v_o4_struck : Int32) (r_o3_taken : Nat → Int32) (r_o3_firsts : Nat → Int32) (r_o3_counts : Nat → Int32) (x1 : Int32) (x2 : Int32) (z_v_t_won : Int32) (z_v_t_pinsFallen : Int32) (z_v_t_seed : Int64) (hf : f_X0_play N v_o3_size v_o3_takesRight v_o3_takesLeft v_o4_law v_o4_standing r_o3_taken r_o3_firsts r_o3_counts x1 x2 = some (z_v_t_won, z_v_t_pinsFallen, z_v_t_seed)) : Ct l yX0_play wsX0_play ⟨3, 0, 0, 75⟩ [.ref q_t, .int x1, .int x2, .ref q_o3, .ref q_o4] D cI cC [(q_t, .inr (0, [.int v_t_won, .int v_t_pinsFallen, .long v_t_seed])), (q_o3, .inr (6, [.int v_o3_size, .ref q_o3_firsts, .ref q_o3_counts, .ref q_o3_taken, .int v_o3_takesRight, .int v_o3_takesLeft])), (q_o4, .inr (1, [.int v_o4_pins, .int v_o4_lanes, .ref q_o4_kinds, .ref q_o4_laneOf, .ref q_o4_firsts, .ref q_o4_lengths, .int v_o4_ball, .int v_o4_law, .int v_o4_standing, .int v_o4_struck, .ref q_o4_seen])), (q_o3_taken, .inl (cI, 27, .inl r_o3_taken)), (q_o3_firsts, .inl (cI, 27, .inl r_o3_firsts)), (q_o3_counts, .inl (cI, 27, .inl r_o3_counts))] sz (fun A => (QV D cI cC A [(q_t, .inr (0, [.int z_v_t_won, .int z_v_t_pinsFallen, .long z_v_t_seed])), (q_o3, .inr (6, [.int v_o3_size, .ref q_o3_firsts, .ref q_o3_counts, .ref q_o3_taken, .int v_o3_takesRight, .int v_o3_takesLeft])), (q_o4, .inr (1, [.int v_o4_pins, .int v_o4_lanes, .ref q_o4_kinds, .ref q_o4_laneOf, .ref q_o4_firsts, .ref q_o4_lengths, .int v_o4_ball, .int v_o4_law, .int v_o4_standing, .int v_o4_struck, .ref q_o4_seen])), (q_o3_taken, .inl (cI, 27, .inl r_o3_taken)), (q_o3_firsts, .inl (cI, 27, .inl r_o3_firsts)), (q_o3_counts, .inl (cI, 27, .inl r_o3_counts))])) := by
  suffices h : ∀ wE : va_W, wE = [(q_t, .inr (0, [.int z_v_t_won, .int z_v_t_pinsFallen, .long z_v_t_seed])), (q_o3, .inr (6, [.int v_o3_size, .ref q_o3_firsts, .ref q_o3_counts, .ref q_o3_taken, .int v_o3_takesRight, .int v_o3_takesLeft])), (q_o4, .inr (1, [.int v_o4_pins, .int v_o4_lanes, .ref q_o4_kinds, .ref q_o4_laneOf, .ref q_o4_firsts, .ref q_o4_lengths, .int v_o4_ball, .int v_o4_law, .int v_o4_standing, .int v_o4_struck, .ref q_o4_seen])), (q_o3_taken, .inl (cI, 27, .inl r_o3_taken)), (q_o3_firsts, .inl (cI, 27, .inl r_o3_firsts)), (q_o3_counts, .inl (cI, 27, .inl r_o3_counts))] → Ct l yX0_play wsX0_play ⟨3, 0, 0, 75⟩ [.ref q_t, .int x1, .int x2, .ref q_o3, .ref q_o4] D cI cC [(q_t, .inr (0, [.int v_t_won, .int v_t_pinsFallen, .long v_t_seed])), (q_o3, .inr (6, [.int v_o3_size, .ref q_o3_firsts, .ref q_o3_counts, .ref q_o3_taken, .int v_o3_takesRight, .int v_o3_takesLeft])), (q_o4, .inr (1, [.int v_o4_pins, .int v_o4_lanes, .ref q_o4_kinds, .ref q_o4_laneOf, .ref q_o4_firsts, .ref q_o4_lengths, .int v_o4_ball, .int v_o4_law, .int v_o4_standing, .int v_o4_struck, .ref q_o4_seen])), (q_o3_taken, .inl (cI, 27, .inl r_o3_taken)), (q_o3_firsts, .inl (cI, 27, .inl r_o3_firsts)), (q_o3_counts, .inl (cI, 27, .inl r_o3_counts))] sz (fun A => (QV D cI cC A wE)) from h _ rfl
  intro wE hwE
  rw [f_X0_play] at hf
  refine Ct.beg cX0_play 8 none [(0, .ref q_t), (1, .int x1), (2, .int x2), (3, .ref q_o3), (4, .ref q_o4)] RX0 (by decide) rfl rfl (Nat.le_of_ble_eq_true rfl) rfl (fun p e s m below meth c A hx hb hr hts hown hlk hml hnm hK hP hD hS hA hG ls hl => ?_)
  refine lv_aload_n hx hb dX0_play_0 rfl (lv_at hl 0 rfl) ?_
  refine lv_iconst (v := (0 : Int32)) hx hb dX0_play_1 (by decide) ?_
  refine va_put (D := D) (ci := 0) (v := .int (0 : Int32)) (ty := .int) (C := RX0) (T := TX0) (N := 3) hx hb hts in_X0_play_0 tyX0 tyX0_ok nmX0 hown hK hP hD hS 0 rfl rfl 0 (by decide) (hts (.fieldLink RX0 9 "PinLanes$Games" "won" "I") (by decide +kernel)) (fun _ h9 => h9) rfl (by decide +kernel) rfl rfl (Nat.le_of_ble_eq_true rfl) dX0_play_2 (fun H locs hP hD hS => ?_)
  have hP : va_P D vwCl [(q_t, .inr (0, [.int (0 : Int32), .int v_t_pinsFallen, .long v_t_seed])), (q_o3, .inr (6, [.int v_o3_size, .ref q_o3_firsts, .ref q_o3_counts, .ref q_o3_taken, .int v_o3_takesRight, .int v_o3_takesLeft])), (q_o4, .inr (1, [.int v_o4_pins, .int v_o4_lanes, .ref q_o4_kinds, .ref q_o4_laneOf, .ref q_o4_firsts, .ref q_o4_lengths, .int v_o4_ball, .int v_o4_law, .int v_o4_standing, .int v_o4_struck, .ref q_o4_seen])), (q_o3_taken, .inl (cI, 27, .inl r_o3_taken)), (q_o3_firsts, .inl (cI, 27, .inl r_o3_firsts)), (q_o3_counts, .inl (cI, 27, .inl r_o3_counts))] H := hP
  have hD : va_D A [(q_t, .inr (0, [.int (0 : Int32), .int v_t_pinsFallen, .long v_t_seed])), (q_o3, .inr (6, [.int v_o3_size, .ref q_o3_firsts, .ref q_o3_counts, .ref q_o3_taken, .int v_o3_takesRight, .int v_o3_takesLeft])), (q_o4, .inr (1, [.int v_o4_pins, .int v_o4_lanes, .ref q_o4_kinds, .ref q_o4_laneOf, .ref q_o4_firsts, .ref q_o4_lengths, .int v_o4_ball, .int v_o4_law, .int v_o4_standing, .int v_o4_struck, .ref q_o4_seen])), (q_o3_taken, .inl (cI, 27, .inl r_o3_taken)), (q_o3_firsts, .inl (cI, 27, .inl r_o3_firsts)), (q_o3_counts, .inl (cI, 27, .inl r_o3_counts))] := hD
  refine lv_aload_n hx hb dX0_play_5 rfl (lv_at hl 0 rfl) ?_
  refine lv_iconst (v := (0 : Int32)) hx hb dX0_play_6 (by decide) ?_
  refine va_put (D := D) (ci := 0) (v := .int (0 : Int32)) (ty := .int) (C := RX0) (T := TX0) (N := 3) hx hb hts in_X0_play_0 tyX0 tyX0_ok nmX0 hown hK hP hD hS 0 rfl rfl 1 (by decide) (hts (.fieldLink RX0 15 "PinLanes$Games" "pinsFallen" "I") (by decide +kernel)) (fun _ h9 => h9) rfl (by decide +kernel) rfl rfl (Nat.le_of_ble_eq_true rfl) dX0_play_7 (fun H locs hP hD hS => ?_)
  have hP : va_P D vwCl [(q_t, .inr (0, [.int (0 : Int32), .int (0 : Int32), .long v_t_seed])), (q_o3, .inr (6, [.int v_o3_size, .ref q_o3_firsts, .ref q_o3_counts, .ref q_o3_taken, .int v_o3_takesRight, .int v_o3_takesLeft])), (q_o4, .inr (1, [.int v_o4_pins, .int v_o4_lanes, .ref q_o4_kinds, .ref q_o4_laneOf, .ref q_o4_firsts, .ref q_o4_lengths, .int v_o4_ball, .int v_o4_law, .int v_o4_standing, .int v_o4_struck, .ref q_o4_seen])), (q_o3_taken, .inl (cI, 27, .inl r_o3_taken)), (q_o3_firsts, .inl (cI, 27, .inl r_o3_firsts)), (q_o3_counts, .inl (cI, 27, .inl r_o3_counts))] H := hP
  have hD : va_D A [(q_t, .inr (0, [.int (0 : Int32), .int (0 : Int32), .long v_t_seed])), (q_o3, .inr (6, [.int v_o3_size, .ref q_o3_firsts, .ref q_o3_counts, .ref q_o3_taken, .int v_o3_takesRight, .int v_o3_takesLeft])), (q_o4, .inr (1, [.int v_o4_pins, .int v_o4_lanes, .ref q_o4_kinds, .ref q_o4_laneOf, .ref q_o4_firsts, .ref q_o4_lengths, .int v_o4_ball, .int v_o4_law, .int v_o4_standing, .int v_o4_struck, .ref q_o4_seen])), (q_o3_taken, .inl (cI, 27, .inl r_o3_taken)), (q_o3_firsts, .inl (cI, 27, .inl r_o3_firsts)), (q_o3_counts, .inl (cI, 27, .inl r_o3_counts))] := hD
  refine lv_aload_n hx hb dX0_play_10 rfl (lv_at hl 0 rfl) ?_
  refine lv_iload_n hx hb dX0_play_11 rfl (lv_at hl 2 rfl) ?_
  refine lv_i2l (v := x2.toInt64) hx hb dX0_play_12 rfl ?_
  refine va_put (D := D) (ci := 0) (v := .long x2.toInt64) (ty := .long) (C := RX0) (T := TX0) (N := 3) hx hb hts in_X0_play_0 tyX0 tyX0_ok nmX0 hown hK hP hD hS 0 rfl rfl 2 (by decide) (hts (.fieldLink RX0 18 "PinLanes$Games" "seed" "J") (by decide +kernel)) (fun _ h9 => h9) rfl (by decide +kernel) rfl rfl (Nat.le_of_ble_eq_true rfl) dX0_play_13 (fun H locs hP hD hS => ?_)
  have hP : va_P D vwCl [(q_t, .inr (0, [.int (0 : Int32), .int (0 : Int32), .long x2.toInt64])), (q_o3, .inr (6, [.int v_o3_size, .ref q_o3_firsts, .ref q_o3_counts, .ref q_o3_taken, .int v_o3_takesRight, .int v_o3_takesLeft])), (q_o4, .inr (1, [.int v_o4_pins, .int v_o4_lanes, .ref q_o4_kinds, .ref q_o4_laneOf, .ref q_o4_firsts, .ref q_o4_lengths, .int v_o4_ball, .int v_o4_law, .int v_o4_standing, .int v_o4_struck, .ref q_o4_seen])), (q_o3_taken, .inl (cI, 27, .inl r_o3_taken)), (q_o3_firsts, .inl (cI, 27, .inl r_o3_firsts)), (q_o3_counts, .inl (cI, 27, .inl r_o3_counts))] H := hP
  have hD : va_D A [(q_t, .inr (0, [.int (0 : Int32), .int (0 : Int32), .long x2.toInt64])), (q_o3, .inr (6, [.int v_o3_size, .ref q_o3_firsts, .ref q_o3_counts, .ref q_o3_taken, .int v_o3_takesRight, .int v_o3_takesLeft])), (q_o4, .inr (1, [.int v_o4_pins, .int v_o4_lanes, .ref q_o4_kinds, .ref q_o4_laneOf, .ref q_o4_firsts, .ref q_o4_lengths, .int v_o4_ball, .int v_o4_law, .int v_o4_standing, .int v_o4_struck, .ref q_o4_seen])), (q_o3_taken, .inl (cI, 27, .inl r_o3_taken)), (q_o3_firsts, .inl (cI, 27, .inl r_o3_firsts)), (q_o3_counts, .inl (cI, 27, .inl r_o3_counts))] := hD
  refine lv_iconst (v := (0 : Int32)) hx hb dX0_play_16 (by decide) ?_
  refine lv_istore (lv' := [(5, .int (0 : Int32)), (0, .ref q_t), (1, .int x1), (2, .int x2), (3, .ref q_o3), (4, .ref q_o4)]) hx hb dX0_play_17 hl (by decide) rfl (fun ls hl => ?_)
  have hL1 : ∀ (n : Nat) (y2 : Int32) (y3 : Int32) (y4 : Int32) (y5 : Int64) (H : Heap) (locs : List Loc) (ls : Array Slot), va_P D vwCl [(q_t, .inr (0, [.int y3, .int y4, .long y5])), (q_o3, .inr (6, [.int v_o3_size, .ref q_o3_firsts, .ref q_o3_counts, .ref q_o3_taken, .int v_o3_takesRight, .int v_o3_takesLeft])), (q_o4, .inr (1, [.int v_o4_pins, .int v_o4_lanes, .ref q_o4_kinds, .ref q_o4_laneOf, .ref q_o4_firsts, .ref q_o4_lengths, .int v_o4_ball, .int v_o4_law, .int v_o4_standing, .int v_o4_struck, .ref q_o4_seen])), (q_o3_taken, .inl (cI, 27, .inl r_o3_taken)), (q_o3_firsts, .inl (cI, 27, .inl r_o3_firsts)), (q_o3_counts, .inl (cI, 27, .inl r_o3_counts))] H → va_D A [(q_t, .inr (0, [.int y3, .int y4, .long y5])), (q_o3, .inr (6, [.int v_o3_size, .ref q_o3_firsts, .ref q_o3_counts, .ref q_o3_taken, .int v_o3_takesRight, .int v_o3_takesLeft])), (q_o4, .inr (1, [.int v_o4_pins, .int v_o4_lanes, .ref q_o4_kinds, .ref q_o4_laneOf, .ref q_o4_firsts, .ref q_o4_lengths, .int v_o4_ball, .int v_o4_law, .int v_o4_standing, .int v_o4_struck, .ref q_o4_seen])), (q_o3_taken, .inl (cI, 27, .inl r_o3_taken)), (q_o3_firsts, .inl (cI, 27, .inl r_o3_firsts)), (q_o3_counts, .inl (cI, 27, .inl r_o3_counts))] → va_S A s.heap H locs → lv_has ls 8 [(0, .ref q_t), (1, .int x1), (3, .ref q_o3), (4, .ref q_o4), (5, .int y2)] → f_X0_play_L19 N x1 v_o3_size v_o3_takesRight v_o3_takesLeft v_o4_law v_o4_standing r_o3_taken r_o3_firsts r_o3_counts n y2 y3 y4 y5 = some (z_v_t_won, z_v_t_pinsFallen, z_v_t_seed) → W p l e ⟨3, 0, 0, 75⟩ s m ([.ref q_t, .int x1, .int x2, .ref q_o3, .ref q_o4] : List Value).toArray below meth c H locs 0 0 (MQ below (QV D cI cC A wE) ([.ref q_t, .int x1, .int x2, .ref q_o3, .ref q_o4] : List Value).toArray s 0 0 A) (F0 m 19 ls []) := by
    intro n
    induction n with
    | zero => intro y2 y3 y4 y5 H locs ls hP hD hS hl hf; rw [f_X0_play_L19] at hf; cases hf
    | succ n ih =>
      intro y2 y3 y4 y5 H locs ls hP hD hS hl hf
      rw [f_X0_play_L19] at hf
      refine lv_iload hx hb dX0_play_19 (lv_at hl 4 rfl) ?_
      refine lv_iload_n hx hb dX0_play_21 rfl (lv_at hl 1 rfl) ?_
      refine lv_icmp_ge (tgt := 71) hx hb dX0_play_22 (by decide) (fun c6 => ?_) (fun c6 => ?_)
      · have hf := ip c6 hf
        obtain ⟨e1_, e2_, e3_⟩ := so3 hf
        exact endV hx hb hr hlk hK (by rw [hwE, ← e1_, ← e2_, ← e3_]; exact hP) (by rw [hwE, ← e1_, ← e2_, ← e3_]; exact hD) hS dX0_play_71
      · have hf := iq c6 hf
        refine lv_aload_n hx hb dX0_play_25 rfl (lv_at hl 0 rfl) ?_
        refine lv_aload_n hx hb dX0_play_26 rfl (lv_at hl 2 rfl) ?_
        refine lv_aload hx hb dX0_play_27 (lv_at hl 3 rfl) ?_
        refine va_get (D := D) (ci := 1) (v := .int v_o4_standing) (C := RX1) (T := TX1) (N := 11) hx hb hts in_X0_play_1 hown hK hP 2 rfl rfl 8 (by decide) (hts (.fieldLink RX0 22 "PinLanes$Green" "standing" "I") (by decide +kernel)) (fun _ h9 => h9) rfl dX0_play_29 ?_
        obtain ⟨a7, a8, a9, hra7, hf⟩ := ob3_e hf
        refine callVi (As := [.ref q_o3, .int v_o4_standing]) (rest := []) (wn := [(q_t, .inr (0, [.int y3, .int a8, .long a9])), (q_o3, .inr (6, [.int v_o3_size, .ref q_o3_firsts, .ref q_o3_counts, .ref q_o3_taken, .int v_o3_takesRight, .int v_o3_takesLeft])), (q_o4, .inr (1, [.int v_o4_pins, .int v_o4_lanes, .ref q_o4_kinds, .ref q_o4_laneOf, .ref q_o4_firsts, .ref q_o4_lengths, .int v_o4_ball, .int v_o4_law, .int v_o4_standing, .int v_o4_struck, .ref q_o4_seen])), (q_o3_taken, .inl (cI, 27, .inl r_o3_taken)), (q_o3_firsts, .inl (cI, 27, .inl r_o3_firsts)), (q_o3_counts, .inl (cI, 27, .inl r_o3_counts))]) (q0 := 0) (ci := 0) ⟨hx, hb, hml, hown, hts⟩ (c_X0_playOne l D cI cC N _ q_t q_o3 q_o3_firsts q_o3_counts q_o3_taken y3 y4 y5 v_o3_size v_o3_takesRight v_o3_takesLeft r_o3_taken r_o3_firsts r_o3_counts v_o4_standing a7 a8 a9 hra7) (cwV 2 hts gX0_play_X0_playOne rfl rfl rfl (by decide +kernel) ⟨Nat.le_of_ble_eq_true rfl, Nat.le_of_ble_eq_true rfl⟩) hK hP hD hS hA hG (Cut.mk [0, 1, 3, 4, 5] [2] [1, 2, 0, 3, 4, 5] [(q_o4, .inr (1, [.int v_o4_pins, .int v_o4_lanes, .ref q_o4_kinds, .ref q_o4_laneOf, .ref q_o4_firsts, .ref q_o4_lengths, .int v_o4_ball, .int v_o4_law, .int v_o4_standing, .int v_o4_struck, .ref q_o4_seen]))] rfl rfl rfl rfl (by decide) rfl rfl) rfl rfl rfl rfl hl.1 rfl (Nat.le_of_ble_eq_true rfl) ⟨Nat.zero_le _, Nat.zero_le _⟩ dX0_play_32 (fun H locs hP hD hS => ?_)
        refine lv_istore (lv' := [(6, .int a7), (0, .ref q_t), (1, .int x1), (3, .ref q_o3), (4, .ref q_o4), (5, .int y2)]) hx hb dX0_play_35 hl (by decide) rfl (fun ls hl => ?_)
        refine lv_iconst (v := (1 : Int32)) hx hb dX0_play_37 (by decide) ?_
        refine lv_iload hx hb dX0_play_38 (lv_at hl 0 rfl) ?_
        refine lv_iconst (v := (1 : Int32)) hx hb dX0_play_40 (by decide) ?_
        refine lv_iand hx hb dX0_play_41 ?_
        refine lv_isub hx hb dX0_play_42 ?_
        refine lv_istore (lv' := [(7, .int ((1 : Int32) - (a7 &&& (1 : Int32)))), (6, .int a7), (0, .ref q_t), (1, .int x1), (3, .ref q_o3), (4, .ref q_o4), (5, .int y2)]) hx hb dX0_play_43 hl (by decide) rfl (fun ls hl => ?_)
        refine lv_iload hx hb dX0_play_45 (lv_at hl 0 rfl) ?_
        refine lv_aload hx hb dX0_play_47 (lv_at hl 5 rfl) ?_
        refine va_get (D := D) (ci := 1) (v := .int v_o4_law) (C := RX1) (T := TX1) (N := 11) hx hb hts in_X0_play_1 hown hK hP 2 rfl rfl 7 (by decide) (hts (.fieldLink RX0 31 "PinLanes$Green" "law" "I") (by decide +kernel)) (fun _ h9 => h9) rfl dX0_play_49 ?_
        obtain ⟨j11, ej11, hf⟩ := jm_e hf
        have hj11 : ∀ (y10 : Int32) (H : Heap) (locs : List Loc) (ls : Array Slot), va_P D vwCl [(q_t, .inr (0, [.int y10, .int a8, .long a9])), (q_o3, .inr (6, [.int v_o3_size, .ref q_o3_firsts, .ref q_o3_counts, .ref q_o3_taken, .int v_o3_takesRight, .int v_o3_takesLeft])), (q_o4, .inr (1, [.int v_o4_pins, .int v_o4_lanes, .ref q_o4_kinds, .ref q_o4_laneOf, .ref q_o4_firsts, .ref q_o4_lengths, .int v_o4_ball, .int v_o4_law, .int v_o4_standing, .int v_o4_struck, .ref q_o4_seen])), (q_o3_taken, .inl (cI, 27, .inl r_o3_taken)), (q_o3_firsts, .inl (cI, 27, .inl r_o3_firsts)), (q_o3_counts, .inl (cI, 27, .inl r_o3_counts))] H → va_D A [(q_t, .inr (0, [.int y10, .int a8, .long a9])), (q_o3, .inr (6, [.int v_o3_size, .ref q_o3_firsts, .ref q_o3_counts, .ref q_o3_taken, .int v_o3_takesRight, .int v_o3_takesLeft])), (q_o4, .inr (1, [.int v_o4_pins, .int v_o4_lanes, .ref q_o4_kinds, .ref q_o4_laneOf, .ref q_o4_firsts, .ref q_o4_lengths, .int v_o4_ball, .int v_o4_law, .int v_o4_standing, .int v_o4_struck, .ref q_o4_seen])), (q_o3_taken, .inl (cI, 27, .inl r_o3_taken)), (q_o3_firsts, .inl (cI, 27, .inl r_o3_firsts)), (q_o3_counts, .inl (cI, 27, .inl r_o3_counts))] → va_S A s.heap H locs → lv_has ls 8 [(0, .ref q_t), (1, .int x1), (3, .ref q_o3), (4, .ref q_o4), (5, .int y2)] → j11 y10 = some (z_v_t_won, z_v_t_pinsFallen, z_v_t_seed) → W p l e ⟨3, 0, 0, 75⟩ s m ([.ref q_t, .int x1, .int x2, .ref q_o3, .ref q_o4] : List Value).toArray below meth c H locs 0 0 (MQ below (QV D cI cC A wE) ([.ref q_t, .int x1, .int x2, .ref q_o3, .ref q_o4] : List Value).toArray s 0 0 A) (F0 m 65 ls []) := by
          intro y10 H locs ls hP hD hS hl hf
          rw [ej11] at hf
          refine lv_iinc (v := y2 + (1 : Int32)) (lv' := [(5, .int (y2 + (1 : Int32))), (0, .ref q_t), (1, .int x1), (3, .ref q_o3), (4, .ref q_o4)]) hx hb dX0_play_65 hl (k := 4) rfl rfl (by decide) rfl (fun ls hl => ?_)
          refine lv_goto (tgt := 19) hx hb dX0_play_68 (by decide) ?_
          exact ih (y2 + (1 : Int32)) y10 a8 a9 _ _ _ hP hD hS (lv_sub hl [1, 2, 3, 4, 0] rfl) hf
        refine lv_icmp_ne (tgt := 65) hx hb dX0_play_52 (by decide) (fun c12 => ?_) (fun c12 => ?_)
        · have hf := iq c12 hf
          exact hj11 y3 _ _ _ hP hD hS (lv_sub hl [2, 3, 4, 5, 6] rfl) hf
        · have hf := ip c12 hf
          refine lv_aload_n hx hb dX0_play_55 rfl (lv_at hl 2 rfl) ?_
          refine lv_dup hx hb dX0_play_56 rfl ?_
          refine va_get (D := D) (ci := 0) (v := .int y3) (C := RX0) (T := TX0) (N := 3) hx hb hts in_X0_play_0 hown hK hP 0 rfl rfl 0 (by decide) (hts (.fieldLink RX0 9 "PinLanes$Games" "won" "I") (by decide +kernel)) (fun _ h9 => h9) rfl dX0_play_57 ?_
          refine lv_iconst (v := (1 : Int32)) hx hb dX0_play_60 (by decide) ?_
          refine lv_iadd hx hb dX0_play_61 ?_
          refine va_put (D := D) (ci := 0) (v := .int (y3 + (1 : Int32))) (ty := .int) (C := RX0) (T := TX0) (N := 3) hx hb hts in_X0_play_0 tyX0 tyX0_ok nmX0 hown hK hP hD hS 0 rfl rfl 0 (by decide) (hts (.fieldLink RX0 9 "PinLanes$Games" "won" "I") (by decide +kernel)) (fun _ h9 => h9) rfl (by decide +kernel) rfl rfl (Nat.le_of_ble_eq_true rfl) dX0_play_62 (fun H locs hP hD hS => ?_)
          have hP : va_P D vwCl [(q_t, .inr (0, [.int (y3 + (1 : Int32)), .int a8, .long a9])), (q_o3, .inr (6, [.int v_o3_size, .ref q_o3_firsts, .ref q_o3_counts, .ref q_o3_taken, .int v_o3_takesRight, .int v_o3_takesLeft])), (q_o4, .inr (1, [.int v_o4_pins, .int v_o4_lanes, .ref q_o4_kinds, .ref q_o4_laneOf, .ref q_o4_firsts, .ref q_o4_lengths, .int v_o4_ball, .int v_o4_law, .int v_o4_standing, .int v_o4_struck, .ref q_o4_seen])), (q_o3_taken, .inl (cI, 27, .inl r_o3_taken)), (q_o3_firsts, .inl (cI, 27, .inl r_o3_firsts)), (q_o3_counts, .inl (cI, 27, .inl r_o3_counts))] H := hP
          have hD : va_D A [(q_t, .inr (0, [.int (y3 + (1 : Int32)), .int a8, .long a9])), (q_o3, .inr (6, [.int v_o3_size, .ref q_o3_firsts, .ref q_o3_counts, .ref q_o3_taken, .int v_o3_takesRight, .int v_o3_takesLeft])), (q_o4, .inr (1, [.int v_o4_pins, .int v_o4_lanes, .ref q_o4_kinds, .ref q_o4_laneOf, .ref q_o4_firsts, .ref q_o4_lengths, .int v_o4_ball, .int v_o4_law, .int v_o4_standing, .int v_o4_struck, .ref q_o4_seen])), (q_o3_taken, .inl (cI, 27, .inl r_o3_taken)), (q_o3_firsts, .inl (cI, 27, .inl r_o3_firsts)), (q_o3_counts, .inl (cI, 27, .inl r_o3_counts))] := hD
          exact hj11 (y3 + (1 : Int32)) _ _ _ hP hD hS (lv_sub hl [2, 3, 4, 5, 6] rfl) hf
  exact hL1 N (0 : Int32) (0 : Int32) (0 : Int32) x2.toInt64 _ _ _ hP hD hS (lv_sub hl [1, 2, 4, 5, 0] rfl) hf
-- X1_addLane
set_option maxRecDepth 20000 in
theorem in_X1_addLane_1 : ∀ w ∈ wsX10, w ∈ wsX1_addLane := by decide +kernel
set_option maxHeartbeats 4000000 in
set_option maxRecDepth 100000 in
theorem c_X1_addLane (l : Launch) (D : va_G) (cI cC : ClassId) (N sz : Nat) (q_t q_t_kinds q_t_laneOf q_t_firsts q_t_lengths q_t_seen : Nat) (v_t_pins : Int32) (v_t_lanes : Int32) (v_t_ball : Int32) (v_t_law : Int32) (v_t_standing : Int32) (v_t_struck : Int32) (r_t_firsts : Nat → Int32) (r_t_lengths : Nat → Int32) (z0 : Int32) (z_v_t_lanes : Int32) (z_r_t_firsts : Nat → Int32) (z_r_t_lengths : Nat → Int32) (hf : f_X1_addLane N v_t_pins v_t_lanes r_t_firsts r_t_lengths = some (z0, z_v_t_lanes, z_r_t_firsts, z_r_t_lengths)) : Ct l yX1_addLane wsX1_addLane ⟨0, 0, 0, 0⟩ [.ref q_t] D cI cC [(q_t, .inr (1, [.int v_t_pins, .int v_t_lanes, .ref q_t_kinds, .ref q_t_laneOf, .ref q_t_firsts, .ref q_t_lengths, .int v_t_ball, .int v_t_law, .int v_t_standing, .int v_t_struck, .ref q_t_seen])), (q_t_firsts, .inl (cI, 3, .inl r_t_firsts)), (q_t_lengths, .inl (cI, 3, .inl r_t_lengths))] sz (fun A => (QI D cI cC A [(q_t, .inr (1, [.int v_t_pins, .int z_v_t_lanes, .ref q_t_kinds, .ref q_t_laneOf, .ref q_t_firsts, .ref q_t_lengths, .int v_t_ball, .int v_t_law, .int v_t_standing, .int v_t_struck, .ref q_t_seen])), (q_t_firsts, .inl (cI, 3, .inl z_r_t_firsts)), (q_t_lengths, .inl (cI, 3, .inl z_r_t_lengths))] z0)) := by
  suffices h : ∀ wE : va_W, wE = [(q_t, .inr (1, [.int v_t_pins, .int z_v_t_lanes, .ref q_t_kinds, .ref q_t_laneOf, .ref q_t_firsts, .ref q_t_lengths, .int v_t_ball, .int v_t_law, .int v_t_standing, .int v_t_struck, .ref q_t_seen])), (q_t_firsts, .inl (cI, 3, .inl z_r_t_firsts)), (q_t_lengths, .inl (cI, 3, .inl z_r_t_lengths))] → Ct l yX1_addLane wsX1_addLane ⟨0, 0, 0, 0⟩ [.ref q_t] D cI cC [(q_t, .inr (1, [.int v_t_pins, .int v_t_lanes, .ref q_t_kinds, .ref q_t_laneOf, .ref q_t_firsts, .ref q_t_lengths, .int v_t_ball, .int v_t_law, .int v_t_standing, .int v_t_struck, .ref q_t_seen])), (q_t_firsts, .inl (cI, 3, .inl r_t_firsts)), (q_t_lengths, .inl (cI, 3, .inl r_t_lengths))] sz (fun A => (QI D cI cC A wE z0)) from h _ rfl
  intro wE hwE
  rw [f_X1_addLane] at hf
  refine Ct.beg cX1_addLane 1 (some .boolean) [(0, .ref q_t)] RX1 (by decide) rfl rfl (Nat.le_of_ble_eq_true rfl) rfl (fun p e s m below meth c A hx hb hr hts hown hlk hml hnm hK hP hD hS hA hG ls hl => ?_)
  refine lv_aload_n hx hb dX1_addLane_0 rfl (lv_at hl 0 rfl) ?_
  refine va_get (D := D) (ci := 1) (v := .int v_t_lanes) (C := RX1) (T := TX1) (N := 11) hx hb hts in_X1_addLane_1 hown hK hP 0 rfl rfl 1 (by decide) (hts (.fieldLink RX1 35 "PinLanes$Green" "lanes" "I") (by decide +kernel)) (fun _ h9 => h9) rfl dX1_addLane_1 ?_
  refine lv_iconst (v := (3 : Int32)) hx hb dX1_addLane_4 (by decide) ?_
  refine lv_icmp_ge (tgt := 17) hx hb dX1_addLane_5 (by decide) (fun c1 => ?_) (fun c1 => ?_)
  · have hf := ip c1 hf
    refine lv_iconst (v := (0 : Int32)) hx hb dX1_addLane_17 (by decide) ?_
    obtain ⟨e1_, e2_, e3_, e4_⟩ := so4 hf
    exact endZ hx hb hr rfl hlk hK (by rw [hwE, ← e2_, ← e3_, ← e4_]; exact hP) (by rw [hwE, ← e2_, ← e3_, ← e4_]; exact hD) hS e1_ dX1_addLane_18
  · have hf := iq c1 hf
    refine lv_aload_n hx hb dX1_addLane_8 rfl (lv_at hl 0 rfl) ?_
    refine va_get (D := D) (ci := 1) (v := .int v_t_pins) (C := RX1) (T := TX1) (N := 11) hx hb hts in_X1_addLane_1 hown hK hP 0 rfl rfl 0 (by decide) (hts (.fieldLink RX1 31 "PinLanes$Green" "pins" "I") (by decide +kernel)) (fun _ h9 => h9) rfl dX1_addLane_9 ?_
    refine lv_bipush (v := (9 : Int32)) hx hb dX1_addLane_12 (by decide) ?_
    refine lv_icmp_lt (tgt := 19) hx hb dX1_addLane_14 (by decide) (fun c2 => ?_) (fun c2 => ?_)
    · have hf := ip c2 hf
      refine lv_aload_n hx hb dX1_addLane_19 rfl (lv_at hl 0 rfl) ?_
      refine va_get (D := D) (ci := 1) (v := .ref q_t_firsts) (C := RX1) (T := TX1) (N := 11) hx hb hts in_X1_addLane_1 hown hK hP 0 rfl rfl 4 (by decide) (hts (.fieldLink RX1 18 "PinLanes$Green" "firsts" "[I") (by decide +kernel)) (fun _ h9 => h9) rfl dX1_addLane_20 ?_
      refine lv_aload_n hx hb dX1_addLane_23 rfl (lv_at hl 0 rfl) ?_
      refine va_get (D := D) (ci := 1) (v := .int v_t_lanes) (C := RX1) (T := TX1) (N := 11) hx hb hts in_X1_addLane_1 hown hK hP 0 rfl rfl 1 (by decide) (hts (.fieldLink RX1 35 "PinLanes$Green" "lanes" "I") (by decide +kernel)) (fun _ h9 => h9) rfl dX1_addLane_24 ?_
      refine lv_aload_n hx hb dX1_addLane_27 rfl (lv_at hl 0 rfl) ?_
      refine va_get (D := D) (ci := 1) (v := .int v_t_pins) (C := RX1) (T := TX1) (N := 11) hx hb hts in_X1_addLane_1 hown hK hP 0 rfl rfl 0 (by decide) (hts (.fieldLink RX1 31 "PinLanes$Green" "pins" "I") (by decide +kernel)) (fun _ h9 => h9) rfl dX1_addLane_28 ?_
      obtain ⟨b3, hf⟩ := gd_e hf
      refine va_iast hx hb hK hP hD hS 1 0 rfl rfl (inb_in b3) dX1_addLane_31 (fun H locs hP hD hS => ?_)
      have hP : va_P D vwCl [(q_t, .inr (1, [.int v_t_pins, .int v_t_lanes, .ref q_t_kinds, .ref q_t_laneOf, .ref q_t_firsts, .ref q_t_lengths, .int v_t_ball, .int v_t_law, .int v_t_standing, .int v_t_struck, .ref q_t_seen])), (q_t_firsts, .inl (cI, 3, .inl (upd r_t_firsts v_t_lanes.toNatClampNeg v_t_pins))), (q_t_lengths, .inl (cI, 3, .inl r_t_lengths))] H := hP
      have hD : va_D A [(q_t, .inr (1, [.int v_t_pins, .int v_t_lanes, .ref q_t_kinds, .ref q_t_laneOf, .ref q_t_firsts, .ref q_t_lengths, .int v_t_ball, .int v_t_law, .int v_t_standing, .int v_t_struck, .ref q_t_seen])), (q_t_firsts, .inl (cI, 3, .inl (upd r_t_firsts v_t_lanes.toNatClampNeg v_t_pins))), (q_t_lengths, .inl (cI, 3, .inl r_t_lengths))] := hD
      refine lv_aload_n hx hb dX1_addLane_32 rfl (lv_at hl 0 rfl) ?_
      refine va_get (D := D) (ci := 1) (v := .ref q_t_lengths) (C := RX1) (T := TX1) (N := 11) hx hb hts in_X1_addLane_1 hown hK hP 0 rfl rfl 5 (by decide) (hts (.fieldLink RX1 21 "PinLanes$Green" "lengths" "[I") (by decide +kernel)) (fun _ h9 => h9) rfl dX1_addLane_33 ?_
      refine lv_aload_n hx hb dX1_addLane_36 rfl (lv_at hl 0 rfl) ?_
      refine va_get (D := D) (ci := 1) (v := .int v_t_lanes) (C := RX1) (T := TX1) (N := 11) hx hb hts in_X1_addLane_1 hown hK hP 0 rfl rfl 1 (by decide) (hts (.fieldLink RX1 35 "PinLanes$Green" "lanes" "I") (by decide +kernel)) (fun _ h9 => h9) rfl dX1_addLane_37 ?_
      refine lv_iconst (v := (0 : Int32)) hx hb dX1_addLane_40 (by decide) ?_
      obtain ⟨b4, hf⟩ := gd_e hf
      refine va_iast hx hb hK hP hD hS 2 0 rfl rfl (inb_in b4) dX1_addLane_41 (fun H locs hP hD hS => ?_)
      have hP : va_P D vwCl [(q_t, .inr (1, [.int v_t_pins, .int v_t_lanes, .ref q_t_kinds, .ref q_t_laneOf, .ref q_t_firsts, .ref q_t_lengths, .int v_t_ball, .int v_t_law, .int v_t_standing, .int v_t_struck, .ref q_t_seen])), (q_t_firsts, .inl (cI, 3, .inl (upd r_t_firsts v_t_lanes.toNatClampNeg v_t_pins))), (q_t_lengths, .inl (cI, 3, .inl (upd r_t_lengths v_t_lanes.toNatClampNeg (0 : Int32))))] H := hP
      have hD : va_D A [(q_t, .inr (1, [.int v_t_pins, .int v_t_lanes, .ref q_t_kinds, .ref q_t_laneOf, .ref q_t_firsts, .ref q_t_lengths, .int v_t_ball, .int v_t_law, .int v_t_standing, .int v_t_struck, .ref q_t_seen])), (q_t_firsts, .inl (cI, 3, .inl (upd r_t_firsts v_t_lanes.toNatClampNeg v_t_pins))), (q_t_lengths, .inl (cI, 3, .inl (upd r_t_lengths v_t_lanes.toNatClampNeg (0 : Int32))))] := hD
      refine lv_aload_n hx hb dX1_addLane_42 rfl (lv_at hl 0 rfl) ?_
      refine lv_dup hx hb dX1_addLane_43 rfl ?_
      refine va_get (D := D) (ci := 1) (v := .int v_t_lanes) (C := RX1) (T := TX1) (N := 11) hx hb hts in_X1_addLane_1 hown hK hP 0 rfl rfl 1 (by decide) (hts (.fieldLink RX1 35 "PinLanes$Green" "lanes" "I") (by decide +kernel)) (fun _ h9 => h9) rfl dX1_addLane_44 ?_
      refine lv_iconst (v := (1 : Int32)) hx hb dX1_addLane_47 (by decide) ?_
      refine lv_iadd hx hb dX1_addLane_48 ?_
      refine va_put (D := D) (ci := 1) (v := .int (v_t_lanes + (1 : Int32))) (ty := .int) (C := RX1) (T := TX1) (N := 11) hx hb hts in_X1_addLane_1 tyX1 tyX1_ok nmX1 hown hK hP hD hS 0 rfl rfl 1 (by decide) (hts (.fieldLink RX1 35 "PinLanes$Green" "lanes" "I") (by decide +kernel)) (fun _ h9 => h9) rfl (by decide +kernel) rfl rfl (Nat.le_of_ble_eq_true rfl) dX1_addLane_49 (fun H locs hP hD hS => ?_)
      have hP : va_P D vwCl [(q_t, .inr (1, [.int v_t_pins, .int (v_t_lanes + (1 : Int32)), .ref q_t_kinds, .ref q_t_laneOf, .ref q_t_firsts, .ref q_t_lengths, .int v_t_ball, .int v_t_law, .int v_t_standing, .int v_t_struck, .ref q_t_seen])), (q_t_firsts, .inl (cI, 3, .inl (upd r_t_firsts v_t_lanes.toNatClampNeg v_t_pins))), (q_t_lengths, .inl (cI, 3, .inl (upd r_t_lengths v_t_lanes.toNatClampNeg (0 : Int32))))] H := hP
      have hD : va_D A [(q_t, .inr (1, [.int v_t_pins, .int (v_t_lanes + (1 : Int32)), .ref q_t_kinds, .ref q_t_laneOf, .ref q_t_firsts, .ref q_t_lengths, .int v_t_ball, .int v_t_law, .int v_t_standing, .int v_t_struck, .ref q_t_seen])), (q_t_firsts, .inl (cI, 3, .inl (upd r_t_firsts v_t_lanes.toNatClampNeg v_t_pins))), (q_t_lengths, .inl (cI, 3, .inl (upd r_t_lengths v_t_lanes.toNatClampNeg (0 : Int32))))] := hD
      refine lv_iconst (v := (1 : Int32)) hx hb dX1_addLane_52 (by decide) ?_
      obtain ⟨e1_, e2_, e3_, e4_⟩ := so4 hf
      exact endZ hx hb hr rfl hlk hK (by rw [hwE, ← e2_, ← e3_, ← e4_]; exact hP) (by rw [hwE, ← e2_, ← e3_, ← e4_]; exact hD) hS e1_ dX1_addLane_53
    · have hf := iq c2 hf
      refine lv_iconst (v := (0 : Int32)) hx hb dX1_addLane_17 (by decide) ?_
      obtain ⟨e1_, e2_, e3_, e4_⟩ := so4 hf
      exact endZ hx hb hr rfl hlk hK (by rw [hwE, ← e2_, ← e3_, ← e4_]; exact hP) (by rw [hwE, ← e2_, ← e3_, ← e4_]; exact hD) hS e1_ dX1_addLane_18
-- X1_hasLane
set_option maxRecDepth 20000 in
theorem in_X1_hasLane_1 : ∀ w ∈ wsX10, w ∈ wsX1_hasLane := by decide +kernel
set_option maxHeartbeats 4000000 in
set_option maxRecDepth 100000 in
theorem c_X1_hasLane (l : Launch) (D : va_G) (cI cC : ClassId) (N sz : Nat) (q_t q_t_kinds q_t_laneOf q_t_firsts q_t_lengths q_t_seen : Nat) (v_t_pins : Int32) (v_t_lanes : Int32) (v_t_ball : Int32) (v_t_law : Int32) (v_t_standing : Int32) (v_t_struck : Int32) (x1 : Int32) (z0 : Int32) (hf : f_X1_hasLane N v_t_lanes x1 = some (z0)) : Ct l yX1_hasLane wsX1_hasLane ⟨0, 0, 0, 0⟩ [.ref q_t, .int x1] D cI cC [(q_t, .inr (1, [.int v_t_pins, .int v_t_lanes, .ref q_t_kinds, .ref q_t_laneOf, .ref q_t_firsts, .ref q_t_lengths, .int v_t_ball, .int v_t_law, .int v_t_standing, .int v_t_struck, .ref q_t_seen]))] sz (fun A => (QI D cI cC A [(q_t, .inr (1, [.int v_t_pins, .int v_t_lanes, .ref q_t_kinds, .ref q_t_laneOf, .ref q_t_firsts, .ref q_t_lengths, .int v_t_ball, .int v_t_law, .int v_t_standing, .int v_t_struck, .ref q_t_seen]))] z0)) := by
  suffices h : ∀ wE : va_W, wE = [(q_t, .inr (1, [.int v_t_pins, .int v_t_lanes, .ref q_t_kinds, .ref q_t_laneOf, .ref q_t_firsts, .ref q_t_lengths, .int v_t_ball, .int v_t_law, .int v_t_standing, .int v_t_struck, .ref q_t_seen]))] → Ct l yX1_hasLane wsX1_hasLane ⟨0, 0, 0, 0⟩ [.ref q_t, .int x1] D cI cC [(q_t, .inr (1, [.int v_t_pins, .int v_t_lanes, .ref q_t_kinds, .ref q_t_laneOf, .ref q_t_firsts, .ref q_t_lengths, .int v_t_ball, .int v_t_law, .int v_t_standing, .int v_t_struck, .ref q_t_seen]))] sz (fun A => (QI D cI cC A wE z0)) from h _ rfl
  intro wE hwE
  rw [f_X1_hasLane] at hf
  refine Ct.beg cX1_hasLane 2 (some .boolean) [(0, .ref q_t), (1, .int x1)] RX1 (by decide) rfl rfl (Nat.le_of_ble_eq_true rfl) rfl (fun p e s m below meth c A hx hb hr hts hown hlk hml hnm hK hP hD hS hA hG ls hl => ?_)
  refine lv_iload_n hx hb dX1_hasLane_0 rfl (lv_at hl 1 rfl) ?_
  refine lv_if_lt (tgt := 16) hx hb dX1_hasLane_1 (by decide) (fun c1 => ?_) (fun c1 => ?_)
  · have hf := ip c1 hf
    refine lv_iconst (v := (0 : Int32)) hx hb dX1_hasLane_16 (by decide) ?_
    have e1_ := Option.some.inj hf
    exact endZ hx hb hr rfl hlk hK (by rw [hwE]; exact hP) (by rw [hwE]; exact hD) hS e1_ dX1_hasLane_17
  · have hf := iq c1 hf
    refine lv_iload_n hx hb dX1_hasLane_4 rfl (lv_at hl 1 rfl) ?_
    refine lv_aload_n hx hb dX1_hasLane_5 rfl (lv_at hl 0 rfl) ?_
    refine va_get (D := D) (ci := 1) (v := .int v_t_lanes) (C := RX1) (T := TX1) (N := 11) hx hb hts in_X1_hasLane_1 hown hK hP 0 rfl rfl 1 (by decide) (hts (.fieldLink RX1 35 "PinLanes$Green" "lanes" "I") (by decide +kernel)) (fun _ h9 => h9) rfl dX1_hasLane_6 ?_
    refine lv_icmp_ge (tgt := 16) hx hb dX1_hasLane_9 (by decide) (fun c2 => ?_) (fun c2 => ?_)
    · have hf := ip c2 hf
      refine lv_iconst (v := (0 : Int32)) hx hb dX1_hasLane_16 (by decide) ?_
      have e1_ := Option.some.inj hf
      exact endZ hx hb hr rfl hlk hK (by rw [hwE]; exact hP) (by rw [hwE]; exact hD) hS e1_ dX1_hasLane_17
    · have hf := iq c2 hf
      refine lv_iconst (v := (1 : Int32)) hx hb dX1_hasLane_12 (by decide) ?_
      refine lv_goto (tgt := 17) hx hb dX1_hasLane_13 (by decide) ?_
      have e1_ := Option.some.inj hf
      exact endZ hx hb hr rfl hlk hK (by rw [hwE]; exact hP) (by rw [hwE]; exact hD) hS e1_ dX1_hasLane_17
-- X1_addPin
set_option maxRecDepth 20000 in
theorem in_X1_addPin_1 : ∀ w ∈ wsX10, w ∈ wsX1_addPin := by decide +kernel
set_option maxHeartbeats 4000000 in
set_option maxRecDepth 100000 in
theorem c_X1_addPin (l : Launch) (D : va_G) (cI cC : ClassId) (N sz : Nat) (q_t q_t_kinds q_t_laneOf q_t_firsts q_t_lengths q_t_seen : Nat) (v_t_pins : Int32) (v_t_lanes : Int32) (v_t_ball : Int32) (v_t_law : Int32) (v_t_standing : Int32) (v_t_struck : Int32) (r_t_lengths : Nat → Int32) (r_t_kinds : Nat → Int32) (r_t_laneOf : Nat → Int32) (x1 : Int32) (z0 : Int32) (z_v_t_pins : Int32) (z_r_t_lengths : Nat → Int32) (z_r_t_kinds : Nat → Int32) (z_r_t_laneOf : Nat → Int32) (hf : f_X1_addPin N v_t_pins v_t_lanes r_t_lengths r_t_kinds r_t_laneOf x1 = some (z0, z_v_t_pins, z_r_t_lengths, z_r_t_kinds, z_r_t_laneOf)) : Ct l yX1_addPin wsX1_addPin ⟨1, 0, 0, 21⟩ [.ref q_t, .int x1] D cI cC [(q_t, .inr (1, [.int v_t_pins, .int v_t_lanes, .ref q_t_kinds, .ref q_t_laneOf, .ref q_t_firsts, .ref q_t_lengths, .int v_t_ball, .int v_t_law, .int v_t_standing, .int v_t_struck, .ref q_t_seen])), (q_t_lengths, .inl (cI, 3, .inl r_t_lengths)), (q_t_kinds, .inl (cI, 9, .inl r_t_kinds)), (q_t_laneOf, .inl (cI, 9, .inl r_t_laneOf))] sz (fun A => (QI D cI cC A [(q_t, .inr (1, [.int z_v_t_pins, .int v_t_lanes, .ref q_t_kinds, .ref q_t_laneOf, .ref q_t_firsts, .ref q_t_lengths, .int v_t_ball, .int v_t_law, .int v_t_standing, .int v_t_struck, .ref q_t_seen])), (q_t_lengths, .inl (cI, 3, .inl z_r_t_lengths)), (q_t_kinds, .inl (cI, 9, .inl z_r_t_kinds)), (q_t_laneOf, .inl (cI, 9, .inl z_r_t_laneOf))] z0)) := by
  suffices h : ∀ wE : va_W, wE = [(q_t, .inr (1, [.int z_v_t_pins, .int v_t_lanes, .ref q_t_kinds, .ref q_t_laneOf, .ref q_t_firsts, .ref q_t_lengths, .int v_t_ball, .int v_t_law, .int v_t_standing, .int v_t_struck, .ref q_t_seen])), (q_t_lengths, .inl (cI, 3, .inl z_r_t_lengths)), (q_t_kinds, .inl (cI, 9, .inl z_r_t_kinds)), (q_t_laneOf, .inl (cI, 9, .inl z_r_t_laneOf))] → Ct l yX1_addPin wsX1_addPin ⟨1, 0, 0, 21⟩ [.ref q_t, .int x1] D cI cC [(q_t, .inr (1, [.int v_t_pins, .int v_t_lanes, .ref q_t_kinds, .ref q_t_laneOf, .ref q_t_firsts, .ref q_t_lengths, .int v_t_ball, .int v_t_law, .int v_t_standing, .int v_t_struck, .ref q_t_seen])), (q_t_lengths, .inl (cI, 3, .inl r_t_lengths)), (q_t_kinds, .inl (cI, 9, .inl r_t_kinds)), (q_t_laneOf, .inl (cI, 9, .inl r_t_laneOf))] sz (fun A => (QI D cI cC A wE z0)) from h _ rfl
  intro wE hwE
  rw [f_X1_addPin] at hf
  refine Ct.beg cX1_addPin 3 (some .boolean) [(0, .ref q_t), (1, .int x1)] RX1 (by decide) rfl rfl (Nat.le_of_ble_eq_true rfl) rfl (fun p e s m below meth c A hx hb hr hts hown hlk hml hnm hK hP hD hS hA hG ls hl => ?_)
  refine lv_aload_n hx hb dX1_addPin_0 rfl (lv_at hl 0 rfl) ?_
  refine va_get (D := D) (ci := 1) (v := .int v_t_lanes) (C := RX1) (T := TX1) (N := 11) hx hb hts in_X1_addPin_1 hown hK hP 0 rfl rfl 1 (by decide) (hts (.fieldLink RX1 35 "PinLanes$Green" "lanes" "I") (by decide +kernel)) (fun _ h9 => h9) rfl dX1_addPin_1 ?_
  refine lv_iconst (v := (1 : Int32)) hx hb dX1_addPin_4 (by decide) ?_
  refine lv_isub hx hb dX1_addPin_5 ?_
  refine lv_istore_n (lv' := [(2, .int (v_t_lanes - (1 : Int32))), (0, .ref q_t), (1, .int x1)]) hx hb dX1_addPin_6 rfl hl (by decide) rfl (fun ls hl => ?_)
  refine lv_aload_n hx hb dX1_addPin_7 rfl (lv_at hl 1 rfl) ?_
  refine lv_iload_n hx hb dX1_addPin_8 rfl (lv_at hl 0 rfl) ?_
  obtain ⟨a1, hra1, hf⟩ := ob1_e hf
  refine callVi (As := [.int (v_t_lanes - (1 : Int32))]) (rest := []) (wn := [(q_t, .inr (1, [.int v_t_pins, .int v_t_lanes, .ref q_t_kinds, .ref q_t_laneOf, .ref q_t_firsts, .ref q_t_lengths, .int v_t_ball, .int v_t_law, .int v_t_standing, .int v_t_struck, .ref q_t_seen])), (q_t_lengths, .inl (cI, 3, .inl r_t_lengths)), (q_t_kinds, .inl (cI, 9, .inl r_t_kinds)), (q_t_laneOf, .inl (cI, 9, .inl r_t_laneOf))]) (q0 := 0) (ci := 1) ⟨hx, hb, hml, hown, hts⟩ (c_X1_hasLane l D cI cC N _ q_t q_t_kinds q_t_laneOf q_t_firsts q_t_lengths q_t_seen v_t_pins v_t_lanes v_t_ball v_t_law v_t_standing v_t_struck (v_t_lanes - (1 : Int32)) a1 hra1) (cwV 1 hts gX1_addPin_X1_hasLane rfl rfl rfl (by decide +kernel) ⟨Nat.le_of_ble_eq_true rfl, Nat.le_of_ble_eq_true rfl⟩) hK hP hD hS hA hG (Cut.mk [0] [1, 2, 3] [3, 0, 1, 2] [(q_t_lengths, .inl (cI, 3, .inl r_t_lengths)), (q_t_kinds, .inl (cI, 9, .inl r_t_kinds)), (q_t_laneOf, .inl (cI, 9, .inl r_t_laneOf))] rfl rfl rfl rfl (by decide) rfl rfl) rfl rfl rfl rfl hl.1 rfl (Nat.le_of_ble_eq_true rfl) ⟨Nat.zero_le _, Nat.zero_le _⟩ dX1_addPin_9 (fun H locs hP hD hS => ?_)
  refine lv_if_eq (tgt := 35) hx hb dX1_addPin_12 (by decide) (fun c2 => ?_) (fun c2 => ?_)
  · have hf := ip c2 hf
    refine lv_iconst (v := (0 : Int32)) hx hb dX1_addPin_35 (by decide) ?_
    obtain ⟨e1_, e2_, e3_, e4_, e5_⟩ := so5 hf
    exact endZ hx hb hr rfl hlk hK (by rw [hwE, ← e2_, ← e3_, ← e4_, ← e5_]; exact hP) (by rw [hwE, ← e2_, ← e3_, ← e4_, ← e5_]; exact hD) hS e1_ dX1_addPin_36
  · have hf := iq c2 hf
    refine lv_aload_n hx hb dX1_addPin_15 rfl (lv_at hl 1 rfl) ?_
    refine va_get (D := D) (ci := 1) (v := .ref q_t_lengths) (C := RX1) (T := TX1) (N := 11) hx hb hts in_X1_addPin_1 hown hK hP 0 rfl rfl 5 (by decide) (hts (.fieldLink RX1 21 "PinLanes$Green" "lengths" "[I") (by decide +kernel)) (fun _ h9 => h9) rfl dX1_addPin_16 ?_
    refine lv_iload_n hx hb dX1_addPin_19 rfl (lv_at hl 0 rfl) ?_
    obtain ⟨b3, hf⟩ := gd_e hf
    refine va_iald hx hb hK hP 1 0 rfl rfl (inb_in b3) dX1_addPin_20 ?_
    refine lv_bipush (v := (6 : Int32)) hx hb dX1_addPin_21 (by decide) ?_
    refine lv_icmp_ge (tgt := 35) hx hb dX1_addPin_23 (by decide) (fun c4 => ?_) (fun c4 => ?_)
    · have hf := ip c4 hf
      refine lv_iconst (v := (0 : Int32)) hx hb dX1_addPin_35 (by decide) ?_
      obtain ⟨e1_, e2_, e3_, e4_, e5_⟩ := so5 hf
      exact endZ hx hb hr rfl hlk hK (by rw [hwE, ← e2_, ← e3_, ← e4_, ← e5_]; exact hP) (by rw [hwE, ← e2_, ← e3_, ← e4_, ← e5_]; exact hD) hS e1_ dX1_addPin_36
    · have hf := iq c4 hf
      refine lv_aload_n hx hb dX1_addPin_26 rfl (lv_at hl 1 rfl) ?_
      refine va_get (D := D) (ci := 1) (v := .int v_t_pins) (C := RX1) (T := TX1) (N := 11) hx hb hts in_X1_addPin_1 hown hK hP 0 rfl rfl 0 (by decide) (hts (.fieldLink RX1 31 "PinLanes$Green" "pins" "I") (by decide +kernel)) (fun _ h9 => h9) rfl dX1_addPin_27 ?_
      refine lv_bipush (v := (9 : Int32)) hx hb dX1_addPin_30 (by decide) ?_
      refine lv_icmp_lt (tgt := 37) hx hb dX1_addPin_32 (by decide) (fun c5 => ?_) (fun c5 => ?_)
      · have hf := ip c5 hf
        refine lv_aload_n hx hb dX1_addPin_37 rfl (lv_at hl 1 rfl) ?_
        refine va_get (D := D) (ci := 1) (v := .ref q_t_kinds) (C := RX1) (T := TX1) (N := 11) hx hb hts in_X1_addPin_1 hown hK hP 0 rfl rfl 2 (by decide) (hts (.fieldLink RX1 9 "PinLanes$Green" "kinds" "[I") (by decide +kernel)) (fun _ h9 => h9) rfl dX1_addPin_38 ?_
        refine lv_aload_n hx hb dX1_addPin_41 rfl (lv_at hl 1 rfl) ?_
        refine va_get (D := D) (ci := 1) (v := .int v_t_pins) (C := RX1) (T := TX1) (N := 11) hx hb hts in_X1_addPin_1 hown hK hP 0 rfl rfl 0 (by decide) (hts (.fieldLink RX1 31 "PinLanes$Green" "pins" "I") (by decide +kernel)) (fun _ h9 => h9) rfl dX1_addPin_42 ?_
        refine lv_iload_n hx hb dX1_addPin_45 rfl (lv_at hl 2 rfl) ?_
        obtain ⟨b6, hf⟩ := gd_e hf
        refine va_iast hx hb hK hP hD hS 2 0 rfl rfl (inb_in b6) dX1_addPin_46 (fun H locs hP hD hS => ?_)
        have hP : va_P D vwCl [(q_t, .inr (1, [.int v_t_pins, .int v_t_lanes, .ref q_t_kinds, .ref q_t_laneOf, .ref q_t_firsts, .ref q_t_lengths, .int v_t_ball, .int v_t_law, .int v_t_standing, .int v_t_struck, .ref q_t_seen])), (q_t_lengths, .inl (cI, 3, .inl r_t_lengths)), (q_t_kinds, .inl (cI, 9, .inl (upd r_t_kinds v_t_pins.toNatClampNeg x1))), (q_t_laneOf, .inl (cI, 9, .inl r_t_laneOf))] H := hP
        have hD : va_D A [(q_t, .inr (1, [.int v_t_pins, .int v_t_lanes, .ref q_t_kinds, .ref q_t_laneOf, .ref q_t_firsts, .ref q_t_lengths, .int v_t_ball, .int v_t_law, .int v_t_standing, .int v_t_struck, .ref q_t_seen])), (q_t_lengths, .inl (cI, 3, .inl r_t_lengths)), (q_t_kinds, .inl (cI, 9, .inl (upd r_t_kinds v_t_pins.toNatClampNeg x1))), (q_t_laneOf, .inl (cI, 9, .inl r_t_laneOf))] := hD
        refine lv_aload_n hx hb dX1_addPin_47 rfl (lv_at hl 1 rfl) ?_
        refine va_get (D := D) (ci := 1) (v := .ref q_t_laneOf) (C := RX1) (T := TX1) (N := 11) hx hb hts in_X1_addPin_1 hown hK hP 0 rfl rfl 3 (by decide) (hts (.fieldLink RX1 15 "PinLanes$Green" "laneOf" "[I") (by decide +kernel)) (fun _ h9 => h9) rfl dX1_addPin_48 ?_
        refine lv_aload_n hx hb dX1_addPin_51 rfl (lv_at hl 1 rfl) ?_
        refine va_get (D := D) (ci := 1) (v := .int v_t_pins) (C := RX1) (T := TX1) (N := 11) hx hb hts in_X1_addPin_1 hown hK hP 0 rfl rfl 0 (by decide) (hts (.fieldLink RX1 31 "PinLanes$Green" "pins" "I") (by decide +kernel)) (fun _ h9 => h9) rfl dX1_addPin_52 ?_
        refine lv_iload_n hx hb dX1_addPin_55 rfl (lv_at hl 0 rfl) ?_
        obtain ⟨b7, hf⟩ := gd_e hf
        refine va_iast hx hb hK hP hD hS 3 0 rfl rfl (inb_in b7) dX1_addPin_56 (fun H locs hP hD hS => ?_)
        have hP : va_P D vwCl [(q_t, .inr (1, [.int v_t_pins, .int v_t_lanes, .ref q_t_kinds, .ref q_t_laneOf, .ref q_t_firsts, .ref q_t_lengths, .int v_t_ball, .int v_t_law, .int v_t_standing, .int v_t_struck, .ref q_t_seen])), (q_t_lengths, .inl (cI, 3, .inl r_t_lengths)), (q_t_kinds, .inl (cI, 9, .inl (upd r_t_kinds v_t_pins.toNatClampNeg x1))), (q_t_laneOf, .inl (cI, 9, .inl (upd r_t_laneOf v_t_pins.toNatClampNeg (v_t_lanes - (1 : Int32)))))] H := hP
        have hD : va_D A [(q_t, .inr (1, [.int v_t_pins, .int v_t_lanes, .ref q_t_kinds, .ref q_t_laneOf, .ref q_t_firsts, .ref q_t_lengths, .int v_t_ball, .int v_t_law, .int v_t_standing, .int v_t_struck, .ref q_t_seen])), (q_t_lengths, .inl (cI, 3, .inl r_t_lengths)), (q_t_kinds, .inl (cI, 9, .inl (upd r_t_kinds v_t_pins.toNatClampNeg x1))), (q_t_laneOf, .inl (cI, 9, .inl (upd r_t_laneOf v_t_pins.toNatClampNeg (v_t_lanes - (1 : Int32)))))] := hD
        refine lv_aload_n hx hb dX1_addPin_57 rfl (lv_at hl 1 rfl) ?_
        refine va_get (D := D) (ci := 1) (v := .ref q_t_lengths) (C := RX1) (T := TX1) (N := 11) hx hb hts in_X1_addPin_1 hown hK hP 0 rfl rfl 5 (by decide) (hts (.fieldLink RX1 21 "PinLanes$Green" "lengths" "[I") (by decide +kernel)) (fun _ h9 => h9) rfl dX1_addPin_58 ?_
        refine lv_iload_n hx hb dX1_addPin_61 rfl (lv_at hl 0 rfl) ?_
        refine lv_dup2_11 hx hb dX1_addPin_62 rfl rfl ?_
        obtain ⟨b8, hf⟩ := gd_e hf
        refine va_iald hx hb hK hP 1 0 rfl rfl (inb_in b8) dX1_addPin_63 ?_
        refine lv_iconst (v := (1 : Int32)) hx hb dX1_addPin_64 (by decide) ?_
        refine lv_iadd hx hb dX1_addPin_65 ?_
        obtain ⟨b9, hf⟩ := gd_e hf
        refine va_iast hx hb hK hP hD hS 1 0 rfl rfl (inb_in b9) dX1_addPin_66 (fun H locs hP hD hS => ?_)
        have hP : va_P D vwCl [(q_t, .inr (1, [.int v_t_pins, .int v_t_lanes, .ref q_t_kinds, .ref q_t_laneOf, .ref q_t_firsts, .ref q_t_lengths, .int v_t_ball, .int v_t_law, .int v_t_standing, .int v_t_struck, .ref q_t_seen])), (q_t_lengths, .inl (cI, 3, .inl (upd r_t_lengths (v_t_lanes - (1 : Int32)).toNatClampNeg ((r_t_lengths (v_t_lanes - (1 : Int32)).toNatClampNeg) + (1 : Int32))))), (q_t_kinds, .inl (cI, 9, .inl (upd r_t_kinds v_t_pins.toNatClampNeg x1))), (q_t_laneOf, .inl (cI, 9, .inl (upd r_t_laneOf v_t_pins.toNatClampNeg (v_t_lanes - (1 : Int32)))))] H := hP
        have hD : va_D A [(q_t, .inr (1, [.int v_t_pins, .int v_t_lanes, .ref q_t_kinds, .ref q_t_laneOf, .ref q_t_firsts, .ref q_t_lengths, .int v_t_ball, .int v_t_law, .int v_t_standing, .int v_t_struck, .ref q_t_seen])), (q_t_lengths, .inl (cI, 3, .inl (upd r_t_lengths (v_t_lanes - (1 : Int32)).toNatClampNeg ((r_t_lengths (v_t_lanes - (1 : Int32)).toNatClampNeg) + (1 : Int32))))), (q_t_kinds, .inl (cI, 9, .inl (upd r_t_kinds v_t_pins.toNatClampNeg x1))), (q_t_laneOf, .inl (cI, 9, .inl (upd r_t_laneOf v_t_pins.toNatClampNeg (v_t_lanes - (1 : Int32)))))] := hD
        refine lv_aload_n hx hb dX1_addPin_67 rfl (lv_at hl 1 rfl) ?_
        refine lv_dup hx hb dX1_addPin_68 rfl ?_
        refine va_get (D := D) (ci := 1) (v := .int v_t_pins) (C := RX1) (T := TX1) (N := 11) hx hb hts in_X1_addPin_1 hown hK hP 0 rfl rfl 0 (by decide) (hts (.fieldLink RX1 31 "PinLanes$Green" "pins" "I") (by decide +kernel)) (fun _ h9 => h9) rfl dX1_addPin_69 ?_
        refine lv_iconst (v := (1 : Int32)) hx hb dX1_addPin_72 (by decide) ?_
        refine lv_iadd hx hb dX1_addPin_73 ?_
        refine va_put (D := D) (ci := 1) (v := .int (v_t_pins + (1 : Int32))) (ty := .int) (C := RX1) (T := TX1) (N := 11) hx hb hts in_X1_addPin_1 tyX1 tyX1_ok nmX1 hown hK hP hD hS 0 rfl rfl 0 (by decide) (hts (.fieldLink RX1 31 "PinLanes$Green" "pins" "I") (by decide +kernel)) (fun _ h9 => h9) rfl (by decide +kernel) rfl rfl (Nat.le_of_ble_eq_true rfl) dX1_addPin_74 (fun H locs hP hD hS => ?_)
        have hP : va_P D vwCl [(q_t, .inr (1, [.int (v_t_pins + (1 : Int32)), .int v_t_lanes, .ref q_t_kinds, .ref q_t_laneOf, .ref q_t_firsts, .ref q_t_lengths, .int v_t_ball, .int v_t_law, .int v_t_standing, .int v_t_struck, .ref q_t_seen])), (q_t_lengths, .inl (cI, 3, .inl (upd r_t_lengths (v_t_lanes - (1 : Int32)).toNatClampNeg ((r_t_lengths (v_t_lanes - (1 : Int32)).toNatClampNeg) + (1 : Int32))))), (q_t_kinds, .inl (cI, 9, .inl (upd r_t_kinds v_t_pins.toNatClampNeg x1))), (q_t_laneOf, .inl (cI, 9, .inl (upd r_t_laneOf v_t_pins.toNatClampNeg (v_t_lanes - (1 : Int32)))))] H := hP
        have hD : va_D A [(q_t, .inr (1, [.int (v_t_pins + (1 : Int32)), .int v_t_lanes, .ref q_t_kinds, .ref q_t_laneOf, .ref q_t_firsts, .ref q_t_lengths, .int v_t_ball, .int v_t_law, .int v_t_standing, .int v_t_struck, .ref q_t_seen])), (q_t_lengths, .inl (cI, 3, .inl (upd r_t_lengths (v_t_lanes - (1 : Int32)).toNatClampNeg ((r_t_lengths (v_t_lanes - (1 : Int32)).toNatClampNeg) + (1 : Int32))))), (q_t_kinds, .inl (cI, 9, .inl (upd r_t_kinds v_t_pins.toNatClampNeg x1))), (q_t_laneOf, .inl (cI, 9, .inl (upd r_t_laneOf v_t_pins.toNatClampNeg (v_t_lanes - (1 : Int32)))))] := hD
        refine lv_iconst (v := (1 : Int32)) hx hb dX1_addPin_77 (by decide) ?_
        obtain ⟨e1_, e2_, e3_, e4_, e5_⟩ := so5 hf
        exact endZ hx hb hr rfl hlk hK (by rw [hwE, ← e2_, ← e3_, ← e4_, ← e5_]; exact hP) (by rw [hwE, ← e2_, ← e3_, ← e4_, ← e5_]; exact hD) hS e1_ dX1_addPin_78
      · have hf := iq c5 hf
        refine lv_iconst (v := (0 : Int32)) hx hb dX1_addPin_35 (by decide) ?_
        obtain ⟨e1_, e2_, e3_, e4_, e5_⟩ := so5 hf
        exact endZ hx hb hr rfl hlk hK (by rw [hwE, ← e2_, ← e3_, ← e4_, ← e5_]; exact hP) (by rw [hwE, ← e2_, ← e3_, ← e4_, ← e5_]; exact hD) hS e1_ dX1_addPin_36
-- X1_hasPin
set_option maxRecDepth 20000 in
theorem in_X1_hasPin_1 : ∀ w ∈ wsX10, w ∈ wsX1_hasPin := by decide +kernel
set_option maxHeartbeats 4000000 in
set_option maxRecDepth 100000 in
theorem c_X1_hasPin (l : Launch) (D : va_G) (cI cC : ClassId) (N sz : Nat) (q_t q_t_kinds q_t_laneOf q_t_firsts q_t_lengths q_t_seen : Nat) (v_t_pins : Int32) (v_t_lanes : Int32) (v_t_ball : Int32) (v_t_law : Int32) (v_t_standing : Int32) (v_t_struck : Int32) (x1 : Int32) (z0 : Int32) (hf : f_X1_hasPin N v_t_pins x1 = some (z0)) : Ct l yX1_hasPin wsX1_hasPin ⟨0, 0, 0, 0⟩ [.ref q_t, .int x1] D cI cC [(q_t, .inr (1, [.int v_t_pins, .int v_t_lanes, .ref q_t_kinds, .ref q_t_laneOf, .ref q_t_firsts, .ref q_t_lengths, .int v_t_ball, .int v_t_law, .int v_t_standing, .int v_t_struck, .ref q_t_seen]))] sz (fun A => (QI D cI cC A [(q_t, .inr (1, [.int v_t_pins, .int v_t_lanes, .ref q_t_kinds, .ref q_t_laneOf, .ref q_t_firsts, .ref q_t_lengths, .int v_t_ball, .int v_t_law, .int v_t_standing, .int v_t_struck, .ref q_t_seen]))] z0)) := by
  suffices h : ∀ wE : va_W, wE = [(q_t, .inr (1, [.int v_t_pins, .int v_t_lanes, .ref q_t_kinds, .ref q_t_laneOf, .ref q_t_firsts, .ref q_t_lengths, .int v_t_ball, .int v_t_law, .int v_t_standing, .int v_t_struck, .ref q_t_seen]))] → Ct l yX1_hasPin wsX1_hasPin ⟨0, 0, 0, 0⟩ [.ref q_t, .int x1] D cI cC [(q_t, .inr (1, [.int v_t_pins, .int v_t_lanes, .ref q_t_kinds, .ref q_t_laneOf, .ref q_t_firsts, .ref q_t_lengths, .int v_t_ball, .int v_t_law, .int v_t_standing, .int v_t_struck, .ref q_t_seen]))] sz (fun A => (QI D cI cC A wE z0)) from h _ rfl
  intro wE hwE
  rw [f_X1_hasPin] at hf
  refine Ct.beg cX1_hasPin 2 (some .boolean) [(0, .ref q_t), (1, .int x1)] RX1 (by decide) rfl rfl (Nat.le_of_ble_eq_true rfl) rfl (fun p e s m below meth c A hx hb hr hts hown hlk hml hnm hK hP hD hS hA hG ls hl => ?_)
  refine lv_iload_n hx hb dX1_hasPin_0 rfl (lv_at hl 1 rfl) ?_
  refine lv_if_lt (tgt := 16) hx hb dX1_hasPin_1 (by decide) (fun c1 => ?_) (fun c1 => ?_)
  · have hf := ip c1 hf
    refine lv_iconst (v := (0 : Int32)) hx hb dX1_hasPin_16 (by decide) ?_
    have e1_ := Option.some.inj hf
    exact endZ hx hb hr rfl hlk hK (by rw [hwE]; exact hP) (by rw [hwE]; exact hD) hS e1_ dX1_hasPin_17
  · have hf := iq c1 hf
    refine lv_iload_n hx hb dX1_hasPin_4 rfl (lv_at hl 1 rfl) ?_
    refine lv_aload_n hx hb dX1_hasPin_5 rfl (lv_at hl 0 rfl) ?_
    refine va_get (D := D) (ci := 1) (v := .int v_t_pins) (C := RX1) (T := TX1) (N := 11) hx hb hts in_X1_hasPin_1 hown hK hP 0 rfl rfl 0 (by decide) (hts (.fieldLink RX1 31 "PinLanes$Green" "pins" "I") (by decide +kernel)) (fun _ h9 => h9) rfl dX1_hasPin_6 ?_
    refine lv_icmp_ge (tgt := 16) hx hb dX1_hasPin_9 (by decide) (fun c2 => ?_) (fun c2 => ?_)
    · have hf := ip c2 hf
      refine lv_iconst (v := (0 : Int32)) hx hb dX1_hasPin_16 (by decide) ?_
      have e1_ := Option.some.inj hf
      exact endZ hx hb hr rfl hlk hK (by rw [hwE]; exact hP) (by rw [hwE]; exact hD) hS e1_ dX1_hasPin_17
    · have hf := iq c2 hf
      refine lv_iconst (v := (1 : Int32)) hx hb dX1_hasPin_12 (by decide) ?_
      refine lv_goto (tgt := 17) hx hb dX1_hasPin_13 (by decide) ?_
      have e1_ := Option.some.inj hf
      exact endZ hx hb hr rfl hlk hK (by rw [hwE]; exact hP) (by rw [hwE]; exact hD) hS e1_ dX1_hasPin_17
-- X1_canBeTaken
set_option maxRecDepth 20000 in
theorem in_X1_canBeTaken_1 : ∀ w ∈ wsX10, w ∈ wsX1_canBeTaken := by decide +kernel
set_option maxHeartbeats 4000000 in
set_option maxRecDepth 100000 in
theorem c_X1_canBeTaken (l : Launch) (D : va_G) (cI cC : ClassId) (N sz : Nat) (q_t q_t_kinds q_t_laneOf q_t_firsts q_t_lengths q_t_seen : Nat) (v_t_pins : Int32) (v_t_lanes : Int32) (v_t_ball : Int32) (v_t_law : Int32) (v_t_standing : Int32) (v_t_struck : Int32) (r_t_laneOf : Nat → Int32) (r_t_kinds : Nat → Int32) (x1 : Int32) (x2 : Int32) (z0 : Int32) (hf : f_X1_canBeTaken N v_t_pins r_t_laneOf r_t_kinds x1 x2 = some (z0)) : Ct l yX1_canBeTaken wsX1_canBeTaken ⟨1, 0, 0, 21⟩ [.ref q_t, .int x1, .int x2] D cI cC [(q_t, .inr (1, [.int v_t_pins, .int v_t_lanes, .ref q_t_kinds, .ref q_t_laneOf, .ref q_t_firsts, .ref q_t_lengths, .int v_t_ball, .int v_t_law, .int v_t_standing, .int v_t_struck, .ref q_t_seen])), (q_t_laneOf, .inl (cI, 9, .inl r_t_laneOf)), (q_t_kinds, .inl (cI, 9, .inl r_t_kinds))] sz (fun A => (QI D cI cC A [(q_t, .inr (1, [.int v_t_pins, .int v_t_lanes, .ref q_t_kinds, .ref q_t_laneOf, .ref q_t_firsts, .ref q_t_lengths, .int v_t_ball, .int v_t_law, .int v_t_standing, .int v_t_struck, .ref q_t_seen])), (q_t_laneOf, .inl (cI, 9, .inl r_t_laneOf)), (q_t_kinds, .inl (cI, 9, .inl r_t_kinds))] z0)) := by
  suffices h : ∀ wE : va_W, wE = [(q_t, .inr (1, [.int v_t_pins, .int v_t_lanes, .ref q_t_kinds, .ref q_t_laneOf, .ref q_t_firsts, .ref q_t_lengths, .int v_t_ball, .int v_t_law, .int v_t_standing, .int v_t_struck, .ref q_t_seen])), (q_t_laneOf, .inl (cI, 9, .inl r_t_laneOf)), (q_t_kinds, .inl (cI, 9, .inl r_t_kinds))] → Ct l yX1_canBeTaken wsX1_canBeTaken ⟨1, 0, 0, 21⟩ [.ref q_t, .int x1, .int x2] D cI cC [(q_t, .inr (1, [.int v_t_pins, .int v_t_lanes, .ref q_t_kinds, .ref q_t_laneOf, .ref q_t_firsts, .ref q_t_lengths, .int v_t_ball, .int v_t_law, .int v_t_standing, .int v_t_struck, .ref q_t_seen])), (q_t_laneOf, .inl (cI, 9, .inl r_t_laneOf)), (q_t_kinds, .inl (cI, 9, .inl r_t_kinds))] sz (fun A => (QI D cI cC A wE z0)) from h _ rfl
  intro wE hwE
  rw [f_X1_canBeTaken] at hf
  refine Ct.beg cX1_canBeTaken 5 (some .boolean) [(0, .ref q_t), (1, .int x1), (2, .int x2)] RX1 (by decide) rfl rfl (Nat.le_of_ble_eq_true rfl) rfl (fun p e s m below meth c A hx hb hr hts hown hlk hml hnm hK hP hD hS hA hG ls hl => ?_)
  refine lv_iload_n hx hb dX1_canBeTaken_0 rfl (lv_at hl 1 rfl) ?_
  refine lv_iload_n hx hb dX1_canBeTaken_1 rfl (lv_at hl 2 rfl) ?_
  refine lv_iadd hx hb dX1_canBeTaken_2 ?_
  refine lv_iconst (v := (1 : Int32)) hx hb dX1_canBeTaken_3 (by decide) ?_
  refine lv_isub hx hb dX1_canBeTaken_4 ?_
  refine lv_istore_n (lv' := [(3, .int ((x1 + x2) - (1 : Int32))), (0, .ref q_t), (1, .int x1), (2, .int x2)]) hx hb dX1_canBeTaken_5 rfl hl (by decide) rfl (fun ls hl => ?_)
  refine lv_aload_n hx hb dX1_canBeTaken_6 rfl (lv_at hl 1 rfl) ?_
  refine lv_iload_n hx hb dX1_canBeTaken_7 rfl (lv_at hl 2 rfl) ?_
  obtain ⟨a1, hra1, hf⟩ := ob1_e hf
  refine callVi (As := [.int x1]) (rest := []) (wn := [(q_t, .inr (1, [.int v_t_pins, .int v_t_lanes, .ref q_t_kinds, .ref q_t_laneOf, .ref q_t_firsts, .ref q_t_lengths, .int v_t_ball, .int v_t_law, .int v_t_standing, .int v_t_struck, .ref q_t_seen])), (q_t_laneOf, .inl (cI, 9, .inl r_t_laneOf)), (q_t_kinds, .inl (cI, 9, .inl r_t_kinds))]) (q0 := 0) (ci := 1) ⟨hx, hb, hml, hown, hts⟩ (c_X1_hasPin l D cI cC N _ q_t q_t_kinds q_t_laneOf q_t_firsts q_t_lengths q_t_seen v_t_pins v_t_lanes v_t_ball v_t_law v_t_standing v_t_struck x1 a1 hra1) (cwV 1 hts gX1_canBeTaken_X1_hasPin rfl rfl rfl (by decide +kernel) ⟨Nat.le_of_ble_eq_true rfl, Nat.le_of_ble_eq_true rfl⟩) hK hP hD hS hA hG (Cut.mk [0] [1, 2] [2, 0, 1] [(q_t_laneOf, .inl (cI, 9, .inl r_t_laneOf)), (q_t_kinds, .inl (cI, 9, .inl r_t_kinds))] rfl rfl rfl rfl (by decide) rfl rfl) rfl rfl rfl rfl hl.1 rfl (Nat.le_of_ble_eq_true rfl) ⟨Nat.zero_le _, Nat.zero_le _⟩ dX1_canBeTaken_8 (fun H locs hP hD hS => ?_)
  refine lv_if_eq (tgt := 37) hx hb dX1_canBeTaken_11 (by decide) (fun c2 => ?_) (fun c2 => ?_)
  · have hf := ip c2 hf
    refine lv_iconst (v := (0 : Int32)) hx hb dX1_canBeTaken_37 (by decide) ?_
    have e1_ := Option.some.inj hf
    exact endZ hx hb hr rfl hlk hK (by rw [hwE]; exact hP) (by rw [hwE]; exact hD) hS e1_ dX1_canBeTaken_38
  · have hf := iq c2 hf
    refine lv_aload_n hx hb dX1_canBeTaken_14 rfl (lv_at hl 1 rfl) ?_
    refine lv_iload_n hx hb dX1_canBeTaken_15 rfl (lv_at hl 0 rfl) ?_
    obtain ⟨a3, hra3, hf⟩ := ob1_e hf
    refine callVi (As := [.int ((x1 + x2) - (1 : Int32))]) (rest := []) (wn := [(q_t, .inr (1, [.int v_t_pins, .int v_t_lanes, .ref q_t_kinds, .ref q_t_laneOf, .ref q_t_firsts, .ref q_t_lengths, .int v_t_ball, .int v_t_law, .int v_t_standing, .int v_t_struck, .ref q_t_seen])), (q_t_laneOf, .inl (cI, 9, .inl r_t_laneOf)), (q_t_kinds, .inl (cI, 9, .inl r_t_kinds))]) (q0 := 0) (ci := 1) ⟨hx, hb, hml, hown, hts⟩ (c_X1_hasPin l D cI cC N _ q_t q_t_kinds q_t_laneOf q_t_firsts q_t_lengths q_t_seen v_t_pins v_t_lanes v_t_ball v_t_law v_t_standing v_t_struck ((x1 + x2) - (1 : Int32)) a3 hra3) (cwV 1 hts gX1_canBeTaken_X1_hasPin rfl rfl rfl (by decide +kernel) ⟨Nat.le_of_ble_eq_true rfl, Nat.le_of_ble_eq_true rfl⟩) hK hP hD hS hA hG (Cut.mk [0] [1, 2] [2, 0, 1] [(q_t_laneOf, .inl (cI, 9, .inl r_t_laneOf)), (q_t_kinds, .inl (cI, 9, .inl r_t_kinds))] rfl rfl rfl rfl (by decide) rfl rfl) rfl rfl rfl rfl hl.1 rfl (Nat.le_of_ble_eq_true rfl) ⟨Nat.zero_le _, Nat.zero_le _⟩ dX1_canBeTaken_16 (fun H locs hP hD hS => ?_)
    refine lv_if_eq (tgt := 37) hx hb dX1_canBeTaken_19 (by decide) (fun c4 => ?_) (fun c4 => ?_)
    · have hf := ip c4 hf
      refine lv_iconst (v := (0 : Int32)) hx hb dX1_canBeTaken_37 (by decide) ?_
      have e1_ := Option.some.inj hf
      exact endZ hx hb hr rfl hlk hK (by rw [hwE]; exact hP) (by rw [hwE]; exact hD) hS e1_ dX1_canBeTaken_38
    · have hf := iq c4 hf
      refine lv_aload_n hx hb dX1_canBeTaken_22 rfl (lv_at hl 1 rfl) ?_
      refine va_get (D := D) (ci := 1) (v := .ref q_t_laneOf) (C := RX1) (T := TX1) (N := 11) hx hb hts in_X1_canBeTaken_1 hown hK hP 0 rfl rfl 3 (by decide) (hts (.fieldLink RX1 15 "PinLanes$Green" "laneOf" "[I") (by decide +kernel)) (fun _ h9 => h9) rfl dX1_canBeTaken_23 ?_
      refine lv_iload_n hx hb dX1_canBeTaken_26 rfl (lv_at hl 2 rfl) ?_
      obtain ⟨b5, hf⟩ := gd_e hf
      refine va_iald hx hb hK hP 1 0 rfl rfl (inb_in b5) dX1_canBeTaken_27 ?_
      refine lv_aload_n hx hb dX1_canBeTaken_28 rfl (lv_at hl 1 rfl) ?_
      refine va_get (D := D) (ci := 1) (v := .ref q_t_laneOf) (C := RX1) (T := TX1) (N := 11) hx hb hts in_X1_canBeTaken_1 hown hK hP 0 rfl rfl 3 (by decide) (hts (.fieldLink RX1 15 "PinLanes$Green" "laneOf" "[I") (by decide +kernel)) (fun _ h9 => h9) rfl dX1_canBeTaken_29 ?_
      refine lv_iload_n hx hb dX1_canBeTaken_32 rfl (lv_at hl 0 rfl) ?_
      obtain ⟨b6, hf⟩ := gd_e hf
      refine va_iald hx hb hK hP 1 0 rfl rfl (inb_in b6) dX1_canBeTaken_33 ?_
      refine lv_icmp_eq (tgt := 39) hx hb dX1_canBeTaken_34 (by decide) (fun c7 => ?_) (fun c7 => ?_)
      · have hf := ip c7 hf
        refine lv_iload_n hx hb dX1_canBeTaken_39 rfl (lv_at hl 2 rfl) ?_
        refine lv_istore (lv' := [(4, .int x1), (3, .int ((x1 + x2) - (1 : Int32))), (0, .ref q_t), (1, .int x1), (2, .int x2)]) hx hb dX1_canBeTaken_40 hl (by decide) rfl (fun ls hl => ?_)
        have hL8 : ∀ (n : Nat) (y9 : Int32) (H : Heap) (locs : List Loc) (ls : Array Slot), va_P D vwCl [(q_t, .inr (1, [.int v_t_pins, .int v_t_lanes, .ref q_t_kinds, .ref q_t_laneOf, .ref q_t_firsts, .ref q_t_lengths, .int v_t_ball, .int v_t_law, .int v_t_standing, .int v_t_struck, .ref q_t_seen])), (q_t_laneOf, .inl (cI, 9, .inl r_t_laneOf)), (q_t_kinds, .inl (cI, 9, .inl r_t_kinds))] H → va_D A [(q_t, .inr (1, [.int v_t_pins, .int v_t_lanes, .ref q_t_kinds, .ref q_t_laneOf, .ref q_t_firsts, .ref q_t_lengths, .int v_t_ball, .int v_t_law, .int v_t_standing, .int v_t_struck, .ref q_t_seen])), (q_t_laneOf, .inl (cI, 9, .inl r_t_laneOf)), (q_t_kinds, .inl (cI, 9, .inl r_t_kinds))] → va_S A s.heap H locs → lv_has ls 5 [(0, .ref q_t), (2, .int x2), (3, .int ((x1 + x2) - (1 : Int32))), (4, .int y9)] → f_X1_canBeTaken_L42 N x2 ((x1 + x2) - (1 : Int32)) r_t_kinds n y9 = some (z0) → W p l e ⟨1, 0, 0, 21⟩ s m ([.ref q_t, .int x1, .int x2] : List Value).toArray below meth c H locs 0 0 (MQ below (QI D cI cC A wE z0) ([.ref q_t, .int x1, .int x2] : List Value).toArray s 0 0 A) (F0 m 42 ls []) := by
          intro n
          induction n with
          | zero => intro y9 H locs ls hP hD hS hl hf; rw [f_X1_canBeTaken_L42] at hf; cases hf
          | succ n ih =>
            intro y9 H locs ls hP hD hS hl hf
            rw [f_X1_canBeTaken_L42] at hf
            refine lv_iload hx hb dX1_canBeTaken_42 (lv_at hl 3 rfl) ?_
            refine lv_iload_n hx hb dX1_canBeTaken_44 rfl (lv_at hl 2 rfl) ?_
            refine lv_icmp_gt (tgt := 83) hx hb dX1_canBeTaken_45 (by decide) (fun c10 => ?_) (fun c10 => ?_)
            · have hf := ip c10 hf
              refine lv_iconst (v := (1 : Int32)) hx hb dX1_canBeTaken_83 (by decide) ?_
              have e1_ := Option.some.inj hf
              exact endZ hx hb hr rfl hlk hK (by rw [hwE]; exact hP) (by rw [hwE]; exact hD) hS e1_ dX1_canBeTaken_84
            · have hf := iq c10 hf
              refine lv_aload_n hx hb dX1_canBeTaken_48 rfl (lv_at hl 0 rfl) ?_
              refine va_get (D := D) (ci := 1) (v := .ref q_t_kinds) (C := RX1) (T := TX1) (N := 11) hx hb hts in_X1_canBeTaken_1 hown hK hP 0 rfl rfl 2 (by decide) (hts (.fieldLink RX1 9 "PinLanes$Green" "kinds" "[I") (by decide +kernel)) (fun _ h9 => h9) rfl dX1_canBeTaken_49 ?_
              refine lv_iload hx hb dX1_canBeTaken_52 (lv_at hl 3 rfl) ?_
              obtain ⟨b11, hf⟩ := gd_e hf
              refine va_iald hx hb hK hP 2 0 rfl rfl (inb_in b11) dX1_canBeTaken_54 ?_
              refine lv_iconst (v := (3 : Int32)) hx hb dX1_canBeTaken_55 (by decide) ?_
              refine lv_icmp_eq (tgt := 75) hx hb dX1_canBeTaken_56 (by decide) (fun c12 => ?_) (fun c12 => ?_)
              · have hf := ip c12 hf
                refine lv_iconst (v := (0 : Int32)) hx hb dX1_canBeTaken_75 (by decide) ?_
                have e1_ := Option.some.inj hf
                exact endZ hx hb hr rfl hlk hK (by rw [hwE]; exact hP) (by rw [hwE]; exact hD) hS e1_ dX1_canBeTaken_76
              · have hf := iq c12 hf
                refine lv_aload_n hx hb dX1_canBeTaken_59 rfl (lv_at hl 0 rfl) ?_
                refine va_get (D := D) (ci := 1) (v := .ref q_t_kinds) (C := RX1) (T := TX1) (N := 11) hx hb hts in_X1_canBeTaken_1 hown hK hP 0 rfl rfl 2 (by decide) (hts (.fieldLink RX1 9 "PinLanes$Green" "kinds" "[I") (by decide +kernel)) (fun _ h9 => h9) rfl dX1_canBeTaken_60 ?_
                refine lv_iload hx hb dX1_canBeTaken_63 (lv_at hl 3 rfl) ?_
                obtain ⟨b13, hf⟩ := gd_e hf
                refine va_iald hx hb hK hP 2 0 rfl rfl (inb_in b13) dX1_canBeTaken_65 ?_
                refine lv_iconst (v := (2 : Int32)) hx hb dX1_canBeTaken_66 (by decide) ?_
                obtain ⟨j14, ej14, hf⟩ := jm_e hf
                have hj14 : ∀ (u0 : Unit) (H : Heap) (locs : List Loc) (ls : Array Slot), va_P D vwCl [(q_t, .inr (1, [.int v_t_pins, .int v_t_lanes, .ref q_t_kinds, .ref q_t_laneOf, .ref q_t_firsts, .ref q_t_lengths, .int v_t_ball, .int v_t_law, .int v_t_standing, .int v_t_struck, .ref q_t_seen])), (q_t_laneOf, .inl (cI, 9, .inl r_t_laneOf)), (q_t_kinds, .inl (cI, 9, .inl r_t_kinds))] H → va_D A [(q_t, .inr (1, [.int v_t_pins, .int v_t_lanes, .ref q_t_kinds, .ref q_t_laneOf, .ref q_t_firsts, .ref q_t_lengths, .int v_t_ball, .int v_t_law, .int v_t_standing, .int v_t_struck, .ref q_t_seen])), (q_t_laneOf, .inl (cI, 9, .inl r_t_laneOf)), (q_t_kinds, .inl (cI, 9, .inl r_t_kinds))] → va_S A s.heap H locs → lv_has ls 5 [(0, .ref q_t), (2, .int x2), (3, .int ((x1 + x2) - (1 : Int32))), (4, .int y9)] → j14 u0 = some (z0) → W p l e ⟨1, 0, 0, 21⟩ s m ([.ref q_t, .int x1, .int x2] : List Value).toArray below meth c H locs 0 0 (MQ below (QI D cI cC A wE z0) ([.ref q_t, .int x1, .int x2] : List Value).toArray s 0 0 A) (F0 m 77 ls []) := by
                  intro u0 H locs ls hP hD hS hl hf
                  rw [ej14] at hf
                  refine lv_iinc (v := y9 + (1 : Int32)) (lv' := [(4, .int (y9 + (1 : Int32))), (0, .ref q_t), (2, .int x2), (3, .int ((x1 + x2) - (1 : Int32)))]) hx hb dX1_canBeTaken_77 hl (k := 3) rfl rfl (by decide) rfl (fun ls hl => ?_)
                  refine lv_goto (tgt := 42) hx hb dX1_canBeTaken_80 (by decide) ?_
                  exact ih (y9 + (1 : Int32)) _ _ _ hP hD hS (lv_sub hl [1, 2, 3, 0] rfl) hf
                refine lv_icmp_ne (tgt := 77) hx hb dX1_canBeTaken_67 (by decide) (fun c15 => ?_) (fun c15 => ?_)
                · have hf := iq c15 hf
                  exact hj14 () _ _ _ hP hD hS (lv_sub hl [0, 1, 2, 3] rfl) hf
                · have hf := ip c15 hf
                  refine lv_iload_n hx hb dX1_canBeTaken_70 rfl (lv_at hl 1 rfl) ?_
                  refine lv_iconst (v := (1 : Int32)) hx hb dX1_canBeTaken_71 (by decide) ?_
                  refine lv_icmp_le (tgt := 77) hx hb dX1_canBeTaken_72 (by decide) (fun c16 => ?_) (fun c16 => ?_)
                  · have hf := ip c16 hf
                    exact hj14 () _ _ _ hP hD hS (lv_sub hl [0, 1, 2, 3] rfl) hf
                  · have hf := iq c16 hf
                    refine lv_iconst (v := (0 : Int32)) hx hb dX1_canBeTaken_75 (by decide) ?_
                    have e1_ := Option.some.inj hf
                    exact endZ hx hb hr rfl hlk hK (by rw [hwE]; exact hP) (by rw [hwE]; exact hD) hS e1_ dX1_canBeTaken_76
        exact hL8 N x1 _ _ _ hP hD hS (lv_sub hl [2, 4, 1, 0] rfl) hf
      · have hf := iq c7 hf
        refine lv_iconst (v := (0 : Int32)) hx hb dX1_canBeTaken_37 (by decide) ?_
        have e1_ := Option.some.inj hf
        exact endZ hx hb hr rfl hlk hK (by rw [hwE]; exact hP) (by rw [hwE]; exact hD) hS e1_ dX1_canBeTaken_38
-- X5_copyFrom
set_option maxRecDepth 20000 in
theorem in_X5_copyFrom_5 : ∀ w ∈ wsX50, w ∈ wsX5_copyFrom := by decide +kernel
set_option maxHeartbeats 4000000 in
set_option maxRecDepth 100000 in
theorem c_X5_copyFrom (l : Launch) (D : va_G) (cI cC : ClassId) (N sz : Nat) (q_t q_t_pins q_t_ways q_t_fell q_o1 q_o1_pins q_o1_ways q_o1_fell : Nat) (v_t_size : Int32) (v_o1_size : Int32) (r_o1_pins : Nat → Int32) (r_t_pins : Nat → Int32) (r_o1_ways : Nat → Int32) (r_t_ways : Nat → Int32) (r_o1_fell : Nat → Int32) (r_t_fell : Nat → Int32) (z_v_t_size : Int32) (z_r_t_pins : Nat → Int32) (z_r_t_ways : Nat → Int32) (z_r_t_fell : Nat → Int32) (hf : f_X5_copyFrom N v_o1_size r_o1_pins r_t_pins r_o1_ways r_t_ways r_o1_fell r_t_fell = some (z_v_t_size, z_r_t_pins, z_r_t_ways, z_r_t_fell)) : Ct l yX5_copyFrom wsX5_copyFrom ⟨1, 0, 0, 26⟩ [.ref q_t, .ref q_o1] D cI cC [(q_t, .inr (5, [.int v_t_size, .ref q_t_pins, .ref q_t_ways, .ref q_t_fell])), (q_o1, .inr (5, [.int v_o1_size, .ref q_o1_pins, .ref q_o1_ways, .ref q_o1_fell])), (q_o1_pins, .inl (cI, 6, .inl r_o1_pins)), (q_t_pins, .inl (cI, 6, .inl r_t_pins)), (q_o1_ways, .inl (cI, 6, .inl r_o1_ways)), (q_t_ways, .inl (cI, 6, .inl r_t_ways)), (q_o1_fell, .inl (cI, 6, .inl r_o1_fell)), (q_t_fell, .inl (cI, 6, .inl r_t_fell))] sz (fun A => (QV D cI cC A [(q_t, .inr (5, [.int z_v_t_size, .ref q_t_pins, .ref q_t_ways, .ref q_t_fell])), (q_o1, .inr (5, [.int v_o1_size, .ref q_o1_pins, .ref q_o1_ways, .ref q_o1_fell])), (q_o1_pins, .inl (cI, 6, .inl r_o1_pins)), (q_t_pins, .inl (cI, 6, .inl z_r_t_pins)), (q_o1_ways, .inl (cI, 6, .inl r_o1_ways)), (q_t_ways, .inl (cI, 6, .inl z_r_t_ways)), (q_o1_fell, .inl (cI, 6, .inl r_o1_fell)), (q_t_fell, .inl (cI, 6, .inl z_r_t_fell))])) := by
  suffices h : ∀ wE : va_W, wE = [(q_t, .inr (5, [.int z_v_t_size, .ref q_t_pins, .ref q_t_ways, .ref q_t_fell])), (q_o1, .inr (5, [.int v_o1_size, .ref q_o1_pins, .ref q_o1_ways, .ref q_o1_fell])), (q_o1_pins, .inl (cI, 6, .inl r_o1_pins)), (q_t_pins, .inl (cI, 6, .inl z_r_t_pins)), (q_o1_ways, .inl (cI, 6, .inl r_o1_ways)), (q_t_ways, .inl (cI, 6, .inl z_r_t_ways)), (q_o1_fell, .inl (cI, 6, .inl r_o1_fell)), (q_t_fell, .inl (cI, 6, .inl z_r_t_fell))] → Ct l yX5_copyFrom wsX5_copyFrom ⟨1, 0, 0, 26⟩ [.ref q_t, .ref q_o1] D cI cC [(q_t, .inr (5, [.int v_t_size, .ref q_t_pins, .ref q_t_ways, .ref q_t_fell])), (q_o1, .inr (5, [.int v_o1_size, .ref q_o1_pins, .ref q_o1_ways, .ref q_o1_fell])), (q_o1_pins, .inl (cI, 6, .inl r_o1_pins)), (q_t_pins, .inl (cI, 6, .inl r_t_pins)), (q_o1_ways, .inl (cI, 6, .inl r_o1_ways)), (q_t_ways, .inl (cI, 6, .inl r_t_ways)), (q_o1_fell, .inl (cI, 6, .inl r_o1_fell)), (q_t_fell, .inl (cI, 6, .inl r_t_fell))] sz (fun A => (QV D cI cC A wE)) from h _ rfl
  intro wE hwE
  rw [f_X5_copyFrom] at hf
  refine Ct.beg cX5_copyFrom 2 none [(0, .ref q_t), (1, .ref q_o1)] RX5 (by decide) rfl rfl (Nat.le_of_ble_eq_true rfl) rfl (fun p e s m below meth c A hx hb hr hts hown hlk hml hnm hK hP hD hS hA hG ls hl => ?_)
  refine lv_aload_n hx hb dX5_copyFrom_0 rfl (lv_at hl 0 rfl) ?_
  refine lv_aload_n hx hb dX5_copyFrom_1 rfl (lv_at hl 1 rfl) ?_
  refine va_get (D := D) (ci := 5) (v := .int v_o1_size) (C := RX5) (T := TX5) (N := 4) hx hb hts in_X5_copyFrom_5 hown hK hP 1 rfl rfl 0 (by decide) (hts (.fieldLink RX5 21 "PinLanes$Seen" "size" "I") (by decide +kernel)) (fun _ h9 => h9) rfl dX5_copyFrom_2 ?_
  refine va_put (D := D) (ci := 5) (v := .int v_o1_size) (ty := .int) (C := RX5) (T := TX5) (N := 4) hx hb hts in_X5_copyFrom_5 tyX5 tyX5_ok nmX5 hown hK hP hD hS 0 rfl rfl 0 (by decide) (hts (.fieldLink RX5 21 "PinLanes$Seen" "size" "I") (by decide +kernel)) (fun _ h9 => h9) rfl (by decide +kernel) rfl rfl (Nat.le_of_ble_eq_true rfl) dX5_copyFrom_5 (fun H locs hP hD hS => ?_)
  have hP : va_P D vwCl [(q_t, .inr (5, [.int v_o1_size, .ref q_t_pins, .ref q_t_ways, .ref q_t_fell])), (q_o1, .inr (5, [.int v_o1_size, .ref q_o1_pins, .ref q_o1_ways, .ref q_o1_fell])), (q_o1_pins, .inl (cI, 6, .inl r_o1_pins)), (q_t_pins, .inl (cI, 6, .inl r_t_pins)), (q_o1_ways, .inl (cI, 6, .inl r_o1_ways)), (q_t_ways, .inl (cI, 6, .inl r_t_ways)), (q_o1_fell, .inl (cI, 6, .inl r_o1_fell)), (q_t_fell, .inl (cI, 6, .inl r_t_fell))] H := hP
  have hD : va_D A [(q_t, .inr (5, [.int v_o1_size, .ref q_t_pins, .ref q_t_ways, .ref q_t_fell])), (q_o1, .inr (5, [.int v_o1_size, .ref q_o1_pins, .ref q_o1_ways, .ref q_o1_fell])), (q_o1_pins, .inl (cI, 6, .inl r_o1_pins)), (q_t_pins, .inl (cI, 6, .inl r_t_pins)), (q_o1_ways, .inl (cI, 6, .inl r_o1_ways)), (q_t_ways, .inl (cI, 6, .inl r_t_ways)), (q_o1_fell, .inl (cI, 6, .inl r_o1_fell)), (q_t_fell, .inl (cI, 6, .inl r_t_fell))] := hD
  refine lv_aload_n hx hb dX5_copyFrom_8 rfl (lv_at hl 1 rfl) ?_
  refine va_get (D := D) (ci := 5) (v := .ref q_o1_pins) (C := RX5) (T := TX5) (N := 4) hx hb hts in_X5_copyFrom_5 hown hK hP 1 rfl rfl 1 (by decide) (hts (.fieldLink RX5 9 "PinLanes$Seen" "pins" "[I") (by decide +kernel)) (fun _ h9 => h9) rfl dX5_copyFrom_9 ?_
  refine lv_iconst (v := (0 : Int32)) hx hb dX5_copyFrom_12 (by decide) ?_
  refine lv_aload_n hx hb dX5_copyFrom_13 rfl (lv_at hl 0 rfl) ?_
  refine va_get (D := D) (ci := 5) (v := .ref q_t_pins) (C := RX5) (T := TX5) (N := 4) hx hb hts in_X5_copyFrom_5 hown hK hP 0 rfl rfl 1 (by decide) (hts (.fieldLink RX5 9 "PinLanes$Seen" "pins" "[I") (by decide +kernel)) (fun _ h9 => h9) rfl dX5_copyFrom_14 ?_
  refine lv_iconst (v := (0 : Int32)) hx hb dX5_copyFrom_17 (by decide) ?_
  refine lv_bipush (v := (6 : Int32)) hx hb dX5_copyFrom_18 (by decide) ?_
  refine va_copyi hx hb (hml.trans hl.1.symm) hown (hts (.methodLink RX5 25 arraycopyName) (by decide +kernel)) (hts (.native arraycopyName) (by decide +kernel)) (hts (.static arraycopyName) (by decide +kernel)) (hts (.initialized "java/lang/System") (by decide +kernel)) hK hP hD hS 2 3 0 0 rfl rfl rfl rfl rfl (by decide) (by decide) (by decide) (by decide) (by decide) (fun _ _ => rfl) (Nat.le_of_ble_eq_true rfl) (Nat.le_of_ble_eq_true rfl) dX5_copyFrom_20 (fun H locs hP hD hS => ?_)
  have hP : va_P D vwCl [(q_t, .inr (5, [.int v_o1_size, .ref q_t_pins, .ref q_t_ways, .ref q_t_fell])), (q_o1, .inr (5, [.int v_o1_size, .ref q_o1_pins, .ref q_o1_ways, .ref q_o1_fell])), (q_o1_pins, .inl (cI, 6, .inl r_o1_pins)), (q_t_pins, .inl (cI, 6, .inl (va_cpy r_o1_pins r_t_pins 0 0 6))), (q_o1_ways, .inl (cI, 6, .inl r_o1_ways)), (q_t_ways, .inl (cI, 6, .inl r_t_ways)), (q_o1_fell, .inl (cI, 6, .inl r_o1_fell)), (q_t_fell, .inl (cI, 6, .inl r_t_fell))] H := hP
  have hD : va_D A [(q_t, .inr (5, [.int v_o1_size, .ref q_t_pins, .ref q_t_ways, .ref q_t_fell])), (q_o1, .inr (5, [.int v_o1_size, .ref q_o1_pins, .ref q_o1_ways, .ref q_o1_fell])), (q_o1_pins, .inl (cI, 6, .inl r_o1_pins)), (q_t_pins, .inl (cI, 6, .inl (va_cpy r_o1_pins r_t_pins 0 0 6))), (q_o1_ways, .inl (cI, 6, .inl r_o1_ways)), (q_t_ways, .inl (cI, 6, .inl r_t_ways)), (q_o1_fell, .inl (cI, 6, .inl r_o1_fell)), (q_t_fell, .inl (cI, 6, .inl r_t_fell))] := hD
  refine lv_aload_n hx hb dX5_copyFrom_23 rfl (lv_at hl 1 rfl) ?_
  refine va_get (D := D) (ci := 5) (v := .ref q_o1_ways) (C := RX5) (T := TX5) (N := 4) hx hb hts in_X5_copyFrom_5 hown hK hP 1 rfl rfl 2 (by decide) (hts (.fieldLink RX5 15 "PinLanes$Seen" "ways" "[I") (by decide +kernel)) (fun _ h9 => h9) rfl dX5_copyFrom_24 ?_
  refine lv_iconst (v := (0 : Int32)) hx hb dX5_copyFrom_27 (by decide) ?_
  refine lv_aload_n hx hb dX5_copyFrom_28 rfl (lv_at hl 0 rfl) ?_
  refine va_get (D := D) (ci := 5) (v := .ref q_t_ways) (C := RX5) (T := TX5) (N := 4) hx hb hts in_X5_copyFrom_5 hown hK hP 0 rfl rfl 2 (by decide) (hts (.fieldLink RX5 15 "PinLanes$Seen" "ways" "[I") (by decide +kernel)) (fun _ h9 => h9) rfl dX5_copyFrom_29 ?_
  refine lv_iconst (v := (0 : Int32)) hx hb dX5_copyFrom_32 (by decide) ?_
  refine lv_bipush (v := (6 : Int32)) hx hb dX5_copyFrom_33 (by decide) ?_
  refine va_copyi hx hb (hml.trans hl.1.symm) hown (hts (.methodLink RX5 25 arraycopyName) (by decide +kernel)) (hts (.native arraycopyName) (by decide +kernel)) (hts (.static arraycopyName) (by decide +kernel)) (hts (.initialized "java/lang/System") (by decide +kernel)) hK hP hD hS 4 5 0 0 rfl rfl rfl rfl rfl (by decide) (by decide) (by decide) (by decide) (by decide) (fun _ _ => rfl) (Nat.le_of_ble_eq_true rfl) (Nat.le_of_ble_eq_true rfl) dX5_copyFrom_35 (fun H locs hP hD hS => ?_)
  have hP : va_P D vwCl [(q_t, .inr (5, [.int v_o1_size, .ref q_t_pins, .ref q_t_ways, .ref q_t_fell])), (q_o1, .inr (5, [.int v_o1_size, .ref q_o1_pins, .ref q_o1_ways, .ref q_o1_fell])), (q_o1_pins, .inl (cI, 6, .inl r_o1_pins)), (q_t_pins, .inl (cI, 6, .inl (va_cpy r_o1_pins r_t_pins 0 0 6))), (q_o1_ways, .inl (cI, 6, .inl r_o1_ways)), (q_t_ways, .inl (cI, 6, .inl (va_cpy r_o1_ways r_t_ways 0 0 6))), (q_o1_fell, .inl (cI, 6, .inl r_o1_fell)), (q_t_fell, .inl (cI, 6, .inl r_t_fell))] H := hP
  have hD : va_D A [(q_t, .inr (5, [.int v_o1_size, .ref q_t_pins, .ref q_t_ways, .ref q_t_fell])), (q_o1, .inr (5, [.int v_o1_size, .ref q_o1_pins, .ref q_o1_ways, .ref q_o1_fell])), (q_o1_pins, .inl (cI, 6, .inl r_o1_pins)), (q_t_pins, .inl (cI, 6, .inl (va_cpy r_o1_pins r_t_pins 0 0 6))), (q_o1_ways, .inl (cI, 6, .inl r_o1_ways)), (q_t_ways, .inl (cI, 6, .inl (va_cpy r_o1_ways r_t_ways 0 0 6))), (q_o1_fell, .inl (cI, 6, .inl r_o1_fell)), (q_t_fell, .inl (cI, 6, .inl r_t_fell))] := hD
  refine lv_aload_n hx hb dX5_copyFrom_38 rfl (lv_at hl 1 rfl) ?_
  refine va_get (D := D) (ci := 5) (v := .ref q_o1_fell) (C := RX5) (T := TX5) (N := 4) hx hb hts in_X5_copyFrom_5 hown hK hP 1 rfl rfl 3 (by decide) (hts (.fieldLink RX5 18 "PinLanes$Seen" "fell" "[I") (by decide +kernel)) (fun _ h9 => h9) rfl dX5_copyFrom_39 ?_
  refine lv_iconst (v := (0 : Int32)) hx hb dX5_copyFrom_42 (by decide) ?_
  refine lv_aload_n hx hb dX5_copyFrom_43 rfl (lv_at hl 0 rfl) ?_
  refine va_get (D := D) (ci := 5) (v := .ref q_t_fell) (C := RX5) (T := TX5) (N := 4) hx hb hts in_X5_copyFrom_5 hown hK hP 0 rfl rfl 3 (by decide) (hts (.fieldLink RX5 18 "PinLanes$Seen" "fell" "[I") (by decide +kernel)) (fun _ h9 => h9) rfl dX5_copyFrom_44 ?_
  refine lv_iconst (v := (0 : Int32)) hx hb dX5_copyFrom_47 (by decide) ?_
  refine lv_bipush (v := (6 : Int32)) hx hb dX5_copyFrom_48 (by decide) ?_
  refine va_copyi hx hb (hml.trans hl.1.symm) hown (hts (.methodLink RX5 25 arraycopyName) (by decide +kernel)) (hts (.native arraycopyName) (by decide +kernel)) (hts (.static arraycopyName) (by decide +kernel)) (hts (.initialized "java/lang/System") (by decide +kernel)) hK hP hD hS 6 7 0 0 rfl rfl rfl rfl rfl (by decide) (by decide) (by decide) (by decide) (by decide) (fun _ _ => rfl) (Nat.le_of_ble_eq_true rfl) (Nat.le_of_ble_eq_true rfl) dX5_copyFrom_50 (fun H locs hP hD hS => ?_)
  have hP : va_P D vwCl [(q_t, .inr (5, [.int v_o1_size, .ref q_t_pins, .ref q_t_ways, .ref q_t_fell])), (q_o1, .inr (5, [.int v_o1_size, .ref q_o1_pins, .ref q_o1_ways, .ref q_o1_fell])), (q_o1_pins, .inl (cI, 6, .inl r_o1_pins)), (q_t_pins, .inl (cI, 6, .inl (va_cpy r_o1_pins r_t_pins 0 0 6))), (q_o1_ways, .inl (cI, 6, .inl r_o1_ways)), (q_t_ways, .inl (cI, 6, .inl (va_cpy r_o1_ways r_t_ways 0 0 6))), (q_o1_fell, .inl (cI, 6, .inl r_o1_fell)), (q_t_fell, .inl (cI, 6, .inl (va_cpy r_o1_fell r_t_fell 0 0 6)))] H := hP
  have hD : va_D A [(q_t, .inr (5, [.int v_o1_size, .ref q_t_pins, .ref q_t_ways, .ref q_t_fell])), (q_o1, .inr (5, [.int v_o1_size, .ref q_o1_pins, .ref q_o1_ways, .ref q_o1_fell])), (q_o1_pins, .inl (cI, 6, .inl r_o1_pins)), (q_t_pins, .inl (cI, 6, .inl (va_cpy r_o1_pins r_t_pins 0 0 6))), (q_o1_ways, .inl (cI, 6, .inl r_o1_ways)), (q_t_ways, .inl (cI, 6, .inl (va_cpy r_o1_ways r_t_ways 0 0 6))), (q_o1_fell, .inl (cI, 6, .inl r_o1_fell)), (q_t_fell, .inl (cI, 6, .inl (va_cpy r_o1_fell r_t_fell 0 0 6)))] := hD
  obtain ⟨e1_, e2_, e3_, e4_⟩ := so4 hf
  exact endV hx hb hr hlk hK (by rw [hwE, ← e1_, ← e2_, ← e3_, ← e4_]; exact hP) (by rw [hwE, ← e1_, ← e2_, ← e3_, ← e4_]; exact hD) hS dX5_copyFrom_53
-- X1_copyFrom
set_option maxRecDepth 20000 in
theorem in_X1_copyFrom_1 : ∀ w ∈ wsX10, w ∈ wsX1_copyFrom := by decide +kernel
set_option maxHeartbeats 4000000 in
set_option maxRecDepth 100000 in
theorem c_X1_copyFrom (l : Launch) (D : va_G) (cI cC : ClassId) (N sz : Nat) (q_t q_t_kinds q_t_laneOf q_t_firsts q_t_lengths q_t_seen q_o1 q_o1_kinds q_o1_laneOf q_o1_firsts q_o1_lengths q_o1_seen q_t_seen_pins q_t_seen_ways q_t_seen_fell q_o1_seen_pins q_o1_seen_ways q_o1_seen_fell : Nat) (v_t_pins : Int32) (v_t_lanes : Int32) (v_t_ball : Int32) (v_t_law : Int32) (v_t_standing : Int32) (v_t_struck : Int32) (v_o1_pins : Int32) (v_o1_lanes : Int32) (v_o1_ball : Int32) (v_o1_law : Int32) (v_o1_standing : Int32) (v_o1_struck : Int32) (r_o1_kinds : Nat → Int32) (r_t_kinds : Nat → Int32) (r_o1_laneOf : Nat → Int32) (r_t_laneOf : Nat → Int32) (r_o1_firsts : Nat → Int32) (r_t_firsts : Nat → Int32) (r_o1_lengths : Nat → Int32) (r_t_lengths : Nat → Int32) (v_t_seen_size : Int32) (v_o1_seen_size : Int32) (r_o1_seen_pins : Nat → Int32) (r_t_seen_pins : Nat → Int32) (r_o1_seen_ways : Nat → Int32) (r_t_seen_ways : Nat → Int32) (r_o1_seen_fell : Nat → Int32) (r_t_seen_fell : Nat → Int32) (z_v_t_pins : Int32) (z_v_t_lanes : Int32) (z_v_t_ball : Int32) (z_v_t_law : Int32) (z_v_t_standing : Int32) (z_v_t_struck : Int32) (z_r_t_kinds : Nat → Int32) (z_r_t_laneOf : Nat → Int32) (z_r_t_firsts : Nat → Int32) (z_r_t_lengths : Nat → Int32) (z_v_t_seen_size : Int32) (z_r_t_seen_pins : Nat → Int32) (z_r_t_seen_ways : Nat → Int32) (z_r_t_seen_fell : Nat → Int32) (hf : f_X1_copyFrom N v_o1_pins v_o1_lanes v_o1_ball v_o1_law v_o1_standing v_o1_struck r_o1_kinds r_t_kinds r_o1_laneOf r_t_laneOf r_o1_firsts r_t_firsts r_o1_lengths r_t_lengths v_o1_seen_size r_o1_seen_pins r_t_seen_pins r_o1_seen_ways r_t_seen_ways r_o1_seen_fell r_t_seen_fell = some (z_v_t_pins, z_v_t_lanes, z_v_t_ball, z_v_t_law, z_v_t_standing, z_v_t_struck, z_r_t_kinds, z_r_t_laneOf, z_r_t_firsts, z_r_t_lengths, z_v_t_seen_size, z_r_t_seen_pins, z_r_t_seen_ways, z_r_t_seen_fell)) : Ct l yX1_copyFrom wsX1_copyFrom ⟨2, 0, 0, 47⟩ [.ref q_t, .ref q_o1] D cI cC [(q_t, .inr (1, [.int v_t_pins, .int v_t_lanes, .ref q_t_kinds, .ref q_t_laneOf, .ref q_t_firsts, .ref q_t_lengths, .int v_t_ball, .int v_t_law, .int v_t_standing, .int v_t_struck, .ref q_t_seen])), (q_o1, .inr (1, [.int v_o1_pins, .int v_o1_lanes, .ref q_o1_kinds, .ref q_o1_laneOf, .ref q_o1_firsts, .ref q_o1_lengths, .int v_o1_ball, .int v_o1_law, .int v_o1_standing, .int v_o1_struck, .ref q_o1_seen])), (q_o1_kinds, .inl (cI, 9, .inl r_o1_kinds)), (q_t_kinds, .inl (cI, 9, .inl r_t_kinds)), (q_o1_laneOf, .inl (cI, 9, .inl r_o1_laneOf)), (q_t_laneOf, .inl (cI, 9, .inl r_t_laneOf)), (q_o1_firsts, .inl (cI, 3, .inl r_o1_firsts)), (q_t_firsts, .inl (cI, 3, .inl r_t_firsts)), (q_o1_lengths, .inl (cI, 3, .inl r_o1_lengths)), (q_t_lengths, .inl (cI, 3, .inl r_t_lengths)), (q_t_seen, .inr (5, [.int v_t_seen_size, .ref q_t_seen_pins, .ref q_t_seen_ways, .ref q_t_seen_fell])), (q_o1_seen, .inr (5, [.int v_o1_seen_size, .ref q_o1_seen_pins, .ref q_o1_seen_ways, .ref q_o1_seen_fell])), (q_o1_seen_pins, .inl (cI, 6, .inl r_o1_seen_pins)), (q_t_seen_pins, .inl (cI, 6, .inl r_t_seen_pins)), (q_o1_seen_ways, .inl (cI, 6, .inl r_o1_seen_ways)), (q_t_seen_ways, .inl (cI, 6, .inl r_t_seen_ways)), (q_o1_seen_fell, .inl (cI, 6, .inl r_o1_seen_fell)), (q_t_seen_fell, .inl (cI, 6, .inl r_t_seen_fell))] sz (fun A => (QV D cI cC A [(q_t, .inr (1, [.int z_v_t_pins, .int z_v_t_lanes, .ref q_t_kinds, .ref q_t_laneOf, .ref q_t_firsts, .ref q_t_lengths, .int z_v_t_ball, .int z_v_t_law, .int z_v_t_standing, .int z_v_t_struck, .ref q_t_seen])), (q_o1, .inr (1, [.int v_o1_pins, .int v_o1_lanes, .ref q_o1_kinds, .ref q_o1_laneOf, .ref q_o1_firsts, .ref q_o1_lengths, .int v_o1_ball, .int v_o1_law, .int v_o1_standing, .int v_o1_struck, .ref q_o1_seen])), (q_o1_kinds, .inl (cI, 9, .inl r_o1_kinds)), (q_t_kinds, .inl (cI, 9, .inl z_r_t_kinds)), (q_o1_laneOf, .inl (cI, 9, .inl r_o1_laneOf)), (q_t_laneOf, .inl (cI, 9, .inl z_r_t_laneOf)), (q_o1_firsts, .inl (cI, 3, .inl r_o1_firsts)), (q_t_firsts, .inl (cI, 3, .inl z_r_t_firsts)), (q_o1_lengths, .inl (cI, 3, .inl r_o1_lengths)), (q_t_lengths, .inl (cI, 3, .inl z_r_t_lengths)), (q_t_seen, .inr (5, [.int z_v_t_seen_size, .ref q_t_seen_pins, .ref q_t_seen_ways, .ref q_t_seen_fell])), (q_o1_seen, .inr (5, [.int v_o1_seen_size, .ref q_o1_seen_pins, .ref q_o1_seen_ways, .ref q_o1_seen_fell])), (q_o1_seen_pins, .inl (cI, 6, .inl r_o1_seen_pins)), (q_t_seen_pins, .inl (cI, 6, .inl z_r_t_seen_pins)), (q_o1_seen_ways, .inl (cI, 6, .inl r_o1_seen_ways)), (q_t_seen_ways, .inl (cI, 6, .inl z_r_t_seen_ways)), (q_o1_seen_fell, .inl (cI, 6, .inl r_o1_seen_fell)), (q_t_seen_fell, .inl (cI, 6, .inl z_r_t_seen_fell))])) := by
  suffices h : ∀ wE : va_W, wE = [(q_t, .inr (1, [.int z_v_t_pins, .int z_v_t_lanes, .ref q_t_kinds, .ref q_t_laneOf, .ref q_t_firsts, .ref q_t_lengths, .int z_v_t_ball, .int z_v_t_law, .int z_v_t_standing, .int z_v_t_struck, .ref q_t_seen])), (q_o1, .inr (1, [.int v_o1_pins, .int v_o1_lanes, .ref q_o1_kinds, .ref q_o1_laneOf, .ref q_o1_firsts, .ref q_o1_lengths, .int v_o1_ball, .int v_o1_law, .int v_o1_standing, .int v_o1_struck, .ref q_o1_seen])), (q_o1_kinds, .inl (cI, 9, .inl r_o1_kinds)), (q_t_kinds, .inl (cI, 9, .inl z_r_t_kinds)), (q_o1_laneOf, .inl (cI, 9, .inl r_o1_laneOf)), (q_t_laneOf, .inl (cI, 9, .inl z_r_t_laneOf)), (q_o1_firsts, .inl (cI, 3, .inl r_o1_firsts)), (q_t_firsts, .inl (cI, 3, .inl z_r_t_firsts)), (q_o1_lengths, .inl (cI, 3, .inl r_o1_lengths)), (q_t_lengths, .inl (cI, 3, .inl z_r_t_lengths)), (q_t_seen, .inr (5, [.int z_v_t_seen_size, .ref q_t_seen_pins, .ref q_t_seen_ways, .ref q_t_seen_fell])), (q_o1_seen, .inr (5, [.int v_o1_seen_size, .ref q_o1_seen_pins, .ref q_o1_seen_ways, .ref q_o1_seen_fell])), (q_o1_seen_pins, .inl (cI, 6, .inl r_o1_seen_pins)), (q_t_seen_pins, .inl (cI, 6, .inl z_r_t_seen_pins)), (q_o1_seen_ways, .inl (cI, 6, .inl r_o1_seen_ways)), (q_t_seen_ways, .inl (cI, 6, .inl z_r_t_seen_ways)), (q_o1_seen_fell, .inl (cI, 6, .inl r_o1_seen_fell)), (q_t_seen_fell, .inl (cI, 6, .inl z_r_t_seen_fell))] → Ct l yX1_copyFrom wsX1_copyFrom ⟨2, 0, 0, 47⟩ [.ref q_t, .ref q_o1] D cI cC [(q_t, .inr (1, [.int v_t_pins, .int v_t_lanes, .ref q_t_kinds, .ref q_t_laneOf, .ref q_t_firsts, .ref q_t_lengths, .int v_t_ball, .int v_t_law, .int v_t_standing, .int v_t_struck, .ref q_t_seen])), (q_o1, .inr (1, [.int v_o1_pins, .int v_o1_lanes, .ref q_o1_kinds, .ref q_o1_laneOf, .ref q_o1_firsts, .ref q_o1_lengths, .int v_o1_ball, .int v_o1_law, .int v_o1_standing, .int v_o1_struck, .ref q_o1_seen])), (q_o1_kinds, .inl (cI, 9, .inl r_o1_kinds)), (q_t_kinds, .inl (cI, 9, .inl r_t_kinds)), (q_o1_laneOf, .inl (cI, 9, .inl r_o1_laneOf)), (q_t_laneOf, .inl (cI, 9, .inl r_t_laneOf)), (q_o1_firsts, .inl (cI, 3, .inl r_o1_firsts)), (q_t_firsts, .inl (cI, 3, .inl r_t_firsts)), (q_o1_lengths, .inl (cI, 3, .inl r_o1_lengths)), (q_t_lengths, .inl (cI, 3, .inl r_t_lengths)), (q_t_seen, .inr (5, [.int v_t_seen_size, .ref q_t_seen_pins, .ref q_t_seen_ways, .ref q_t_seen_fell])), (q_o1_seen, .inr (5, [.int v_o1_seen_size, .ref q_o1_seen_pins, .ref q_o1_seen_ways, .ref q_o1_seen_fell])), (q_o1_seen_pins, .inl (cI, 6, .inl r_o1_seen_pins)), (q_t_seen_pins, .inl (cI, 6, .inl r_t_seen_pins)), (q_o1_seen_ways, .inl (cI, 6, .inl r_o1_seen_ways)), (q_t_seen_ways, .inl (cI, 6, .inl r_t_seen_ways)), (q_o1_seen_fell, .inl (cI, 6, .inl r_o1_seen_fell)), (q_t_seen_fell, .inl (cI, 6, .inl r_t_seen_fell))] sz (fun A => (QV D cI cC A wE)) from h _ rfl
  intro wE hwE
  rw [f_X1_copyFrom] at hf
  refine Ct.beg cX1_copyFrom 2 none [(0, .ref q_t), (1, .ref q_o1)] RX1 (by decide) rfl rfl (Nat.le_of_ble_eq_true rfl) rfl (fun p e s m below meth c A hx hb hr hts hown hlk hml hnm hK hP hD hS hA hG ls hl => ?_)
  refine lv_aload_n hx hb dX1_copyFrom_0 rfl (lv_at hl 0 rfl) ?_
  refine lv_aload_n hx hb dX1_copyFrom_1 rfl (lv_at hl 1 rfl) ?_
  refine va_get (D := D) (ci := 1) (v := .int v_o1_pins) (C := RX1) (T := TX1) (N := 11) hx hb hts in_X1_copyFrom_1 hown hK hP 1 rfl rfl 0 (by decide) (hts (.fieldLink RX1 31 "PinLanes$Green" "pins" "I") (by decide +kernel)) (fun _ h9 => h9) rfl dX1_copyFrom_2 ?_
  refine va_put (D := D) (ci := 1) (v := .int v_o1_pins) (ty := .int) (C := RX1) (T := TX1) (N := 11) hx hb hts in_X1_copyFrom_1 tyX1 tyX1_ok nmX1 hown hK hP hD hS 0 rfl rfl 0 (by decide) (hts (.fieldLink RX1 31 "PinLanes$Green" "pins" "I") (by decide +kernel)) (fun _ h9 => h9) rfl (by decide +kernel) rfl rfl (Nat.le_of_ble_eq_true rfl) dX1_copyFrom_5 (fun H locs hP hD hS => ?_)
  have hP : va_P D vwCl [(q_t, .inr (1, [.int v_o1_pins, .int v_t_lanes, .ref q_t_kinds, .ref q_t_laneOf, .ref q_t_firsts, .ref q_t_lengths, .int v_t_ball, .int v_t_law, .int v_t_standing, .int v_t_struck, .ref q_t_seen])), (q_o1, .inr (1, [.int v_o1_pins, .int v_o1_lanes, .ref q_o1_kinds, .ref q_o1_laneOf, .ref q_o1_firsts, .ref q_o1_lengths, .int v_o1_ball, .int v_o1_law, .int v_o1_standing, .int v_o1_struck, .ref q_o1_seen])), (q_o1_kinds, .inl (cI, 9, .inl r_o1_kinds)), (q_t_kinds, .inl (cI, 9, .inl r_t_kinds)), (q_o1_laneOf, .inl (cI, 9, .inl r_o1_laneOf)), (q_t_laneOf, .inl (cI, 9, .inl r_t_laneOf)), (q_o1_firsts, .inl (cI, 3, .inl r_o1_firsts)), (q_t_firsts, .inl (cI, 3, .inl r_t_firsts)), (q_o1_lengths, .inl (cI, 3, .inl r_o1_lengths)), (q_t_lengths, .inl (cI, 3, .inl r_t_lengths)), (q_t_seen, .inr (5, [.int v_t_seen_size, .ref q_t_seen_pins, .ref q_t_seen_ways, .ref q_t_seen_fell])), (q_o1_seen, .inr (5, [.int v_o1_seen_size, .ref q_o1_seen_pins, .ref q_o1_seen_ways, .ref q_o1_seen_fell])), (q_o1_seen_pins, .inl (cI, 6, .inl r_o1_seen_pins)), (q_t_seen_pins, .inl (cI, 6, .inl r_t_seen_pins)), (q_o1_seen_ways, .inl (cI, 6, .inl r_o1_seen_ways)), (q_t_seen_ways, .inl (cI, 6, .inl r_t_seen_ways)), (q_o1_seen_fell, .inl (cI, 6, .inl r_o1_seen_fell)), (q_t_seen_fell, .inl (cI, 6, .inl r_t_seen_fell))] H := hP
  have hD : va_D A [(q_t, .inr (1, [.int v_o1_pins, .int v_t_lanes, .ref q_t_kinds, .ref q_t_laneOf, .ref q_t_firsts, .ref q_t_lengths, .int v_t_ball, .int v_t_law, .int v_t_standing, .int v_t_struck, .ref q_t_seen])), (q_o1, .inr (1, [.int v_o1_pins, .int v_o1_lanes, .ref q_o1_kinds, .ref q_o1_laneOf, .ref q_o1_firsts, .ref q_o1_lengths, .int v_o1_ball, .int v_o1_law, .int v_o1_standing, .int v_o1_struck, .ref q_o1_seen])), (q_o1_kinds, .inl (cI, 9, .inl r_o1_kinds)), (q_t_kinds, .inl (cI, 9, .inl r_t_kinds)), (q_o1_laneOf, .inl (cI, 9, .inl r_o1_laneOf)), (q_t_laneOf, .inl (cI, 9, .inl r_t_laneOf)), (q_o1_firsts, .inl (cI, 3, .inl r_o1_firsts)), (q_t_firsts, .inl (cI, 3, .inl r_t_firsts)), (q_o1_lengths, .inl (cI, 3, .inl r_o1_lengths)), (q_t_lengths, .inl (cI, 3, .inl r_t_lengths)), (q_t_seen, .inr (5, [.int v_t_seen_size, .ref q_t_seen_pins, .ref q_t_seen_ways, .ref q_t_seen_fell])), (q_o1_seen, .inr (5, [.int v_o1_seen_size, .ref q_o1_seen_pins, .ref q_o1_seen_ways, .ref q_o1_seen_fell])), (q_o1_seen_pins, .inl (cI, 6, .inl r_o1_seen_pins)), (q_t_seen_pins, .inl (cI, 6, .inl r_t_seen_pins)), (q_o1_seen_ways, .inl (cI, 6, .inl r_o1_seen_ways)), (q_t_seen_ways, .inl (cI, 6, .inl r_t_seen_ways)), (q_o1_seen_fell, .inl (cI, 6, .inl r_o1_seen_fell)), (q_t_seen_fell, .inl (cI, 6, .inl r_t_seen_fell))] := hD
  refine lv_aload_n hx hb dX1_copyFrom_8 rfl (lv_at hl 0 rfl) ?_
  refine lv_aload_n hx hb dX1_copyFrom_9 rfl (lv_at hl 1 rfl) ?_
  refine va_get (D := D) (ci := 1) (v := .int v_o1_lanes) (C := RX1) (T := TX1) (N := 11) hx hb hts in_X1_copyFrom_1 hown hK hP 1 rfl rfl 1 (by decide) (hts (.fieldLink RX1 35 "PinLanes$Green" "lanes" "I") (by decide +kernel)) (fun _ h9 => h9) rfl dX1_copyFrom_10 ?_
  refine va_put (D := D) (ci := 1) (v := .int v_o1_lanes) (ty := .int) (C := RX1) (T := TX1) (N := 11) hx hb hts in_X1_copyFrom_1 tyX1 tyX1_ok nmX1 hown hK hP hD hS 0 rfl rfl 1 (by decide) (hts (.fieldLink RX1 35 "PinLanes$Green" "lanes" "I") (by decide +kernel)) (fun _ h9 => h9) rfl (by decide +kernel) rfl rfl (Nat.le_of_ble_eq_true rfl) dX1_copyFrom_13 (fun H locs hP hD hS => ?_)
  have hP : va_P D vwCl [(q_t, .inr (1, [.int v_o1_pins, .int v_o1_lanes, .ref q_t_kinds, .ref q_t_laneOf, .ref q_t_firsts, .ref q_t_lengths, .int v_t_ball, .int v_t_law, .int v_t_standing, .int v_t_struck, .ref q_t_seen])), (q_o1, .inr (1, [.int v_o1_pins, .int v_o1_lanes, .ref q_o1_kinds, .ref q_o1_laneOf, .ref q_o1_firsts, .ref q_o1_lengths, .int v_o1_ball, .int v_o1_law, .int v_o1_standing, .int v_o1_struck, .ref q_o1_seen])), (q_o1_kinds, .inl (cI, 9, .inl r_o1_kinds)), (q_t_kinds, .inl (cI, 9, .inl r_t_kinds)), (q_o1_laneOf, .inl (cI, 9, .inl r_o1_laneOf)), (q_t_laneOf, .inl (cI, 9, .inl r_t_laneOf)), (q_o1_firsts, .inl (cI, 3, .inl r_o1_firsts)), (q_t_firsts, .inl (cI, 3, .inl r_t_firsts)), (q_o1_lengths, .inl (cI, 3, .inl r_o1_lengths)), (q_t_lengths, .inl (cI, 3, .inl r_t_lengths)), (q_t_seen, .inr (5, [.int v_t_seen_size, .ref q_t_seen_pins, .ref q_t_seen_ways, .ref q_t_seen_fell])), (q_o1_seen, .inr (5, [.int v_o1_seen_size, .ref q_o1_seen_pins, .ref q_o1_seen_ways, .ref q_o1_seen_fell])), (q_o1_seen_pins, .inl (cI, 6, .inl r_o1_seen_pins)), (q_t_seen_pins, .inl (cI, 6, .inl r_t_seen_pins)), (q_o1_seen_ways, .inl (cI, 6, .inl r_o1_seen_ways)), (q_t_seen_ways, .inl (cI, 6, .inl r_t_seen_ways)), (q_o1_seen_fell, .inl (cI, 6, .inl r_o1_seen_fell)), (q_t_seen_fell, .inl (cI, 6, .inl r_t_seen_fell))] H := hP
  have hD : va_D A [(q_t, .inr (1, [.int v_o1_pins, .int v_o1_lanes, .ref q_t_kinds, .ref q_t_laneOf, .ref q_t_firsts, .ref q_t_lengths, .int v_t_ball, .int v_t_law, .int v_t_standing, .int v_t_struck, .ref q_t_seen])), (q_o1, .inr (1, [.int v_o1_pins, .int v_o1_lanes, .ref q_o1_kinds, .ref q_o1_laneOf, .ref q_o1_firsts, .ref q_o1_lengths, .int v_o1_ball, .int v_o1_law, .int v_o1_standing, .int v_o1_struck, .ref q_o1_seen])), (q_o1_kinds, .inl (cI, 9, .inl r_o1_kinds)), (q_t_kinds, .inl (cI, 9, .inl r_t_kinds)), (q_o1_laneOf, .inl (cI, 9, .inl r_o1_laneOf)), (q_t_laneOf, .inl (cI, 9, .inl r_t_laneOf)), (q_o1_firsts, .inl (cI, 3, .inl r_o1_firsts)), (q_t_firsts, .inl (cI, 3, .inl r_t_firsts)), (q_o1_lengths, .inl (cI, 3, .inl r_o1_lengths)), (q_t_lengths, .inl (cI, 3, .inl r_t_lengths)), (q_t_seen, .inr (5, [.int v_t_seen_size, .ref q_t_seen_pins, .ref q_t_seen_ways, .ref q_t_seen_fell])), (q_o1_seen, .inr (5, [.int v_o1_seen_size, .ref q_o1_seen_pins, .ref q_o1_seen_ways, .ref q_o1_seen_fell])), (q_o1_seen_pins, .inl (cI, 6, .inl r_o1_seen_pins)), (q_t_seen_pins, .inl (cI, 6, .inl r_t_seen_pins)), (q_o1_seen_ways, .inl (cI, 6, .inl r_o1_seen_ways)), (q_t_seen_ways, .inl (cI, 6, .inl r_t_seen_ways)), (q_o1_seen_fell, .inl (cI, 6, .inl r_o1_seen_fell)), (q_t_seen_fell, .inl (cI, 6, .inl r_t_seen_fell))] := hD
  refine lv_aload_n hx hb dX1_copyFrom_16 rfl (lv_at hl 1 rfl) ?_
  refine va_get (D := D) (ci := 1) (v := .ref q_o1_kinds) (C := RX1) (T := TX1) (N := 11) hx hb hts in_X1_copyFrom_1 hown hK hP 1 rfl rfl 2 (by decide) (hts (.fieldLink RX1 9 "PinLanes$Green" "kinds" "[I") (by decide +kernel)) (fun _ h9 => h9) rfl dX1_copyFrom_17 ?_
  refine lv_iconst (v := (0 : Int32)) hx hb dX1_copyFrom_20 (by decide) ?_
  refine lv_aload_n hx hb dX1_copyFrom_21 rfl (lv_at hl 0 rfl) ?_
  refine va_get (D := D) (ci := 1) (v := .ref q_t_kinds) (C := RX1) (T := TX1) (N := 11) hx hb hts in_X1_copyFrom_1 hown hK hP 0 rfl rfl 2 (by decide) (hts (.fieldLink RX1 9 "PinLanes$Green" "kinds" "[I") (by decide +kernel)) (fun _ h9 => h9) rfl dX1_copyFrom_22 ?_
  refine lv_iconst (v := (0 : Int32)) hx hb dX1_copyFrom_25 (by decide) ?_
  refine lv_bipush (v := (9 : Int32)) hx hb dX1_copyFrom_26 (by decide) ?_
  refine va_copyi hx hb (hml.trans hl.1.symm) hown (hts (.methodLink RX1 38 arraycopyName) (by decide +kernel)) (hts (.native arraycopyName) (by decide +kernel)) (hts (.static arraycopyName) (by decide +kernel)) (hts (.initialized "java/lang/System") (by decide +kernel)) hK hP hD hS 2 3 0 0 rfl rfl rfl rfl rfl (by decide) (by decide) (by decide) (by decide) (by decide) (fun _ _ => rfl) (Nat.le_of_ble_eq_true rfl) (Nat.le_of_ble_eq_true rfl) dX1_copyFrom_28 (fun H locs hP hD hS => ?_)
  have hP : va_P D vwCl [(q_t, .inr (1, [.int v_o1_pins, .int v_o1_lanes, .ref q_t_kinds, .ref q_t_laneOf, .ref q_t_firsts, .ref q_t_lengths, .int v_t_ball, .int v_t_law, .int v_t_standing, .int v_t_struck, .ref q_t_seen])), (q_o1, .inr (1, [.int v_o1_pins, .int v_o1_lanes, .ref q_o1_kinds, .ref q_o1_laneOf, .ref q_o1_firsts, .ref q_o1_lengths, .int v_o1_ball, .int v_o1_law, .int v_o1_standing, .int v_o1_struck, .ref q_o1_seen])), (q_o1_kinds, .inl (cI, 9, .inl r_o1_kinds)), (q_t_kinds, .inl (cI, 9, .inl (va_cpy r_o1_kinds r_t_kinds 0 0 9))), (q_o1_laneOf, .inl (cI, 9, .inl r_o1_laneOf)), (q_t_laneOf, .inl (cI, 9, .inl r_t_laneOf)), (q_o1_firsts, .inl (cI, 3, .inl r_o1_firsts)), (q_t_firsts, .inl (cI, 3, .inl r_t_firsts)), (q_o1_lengths, .inl (cI, 3, .inl r_o1_lengths)), (q_t_lengths, .inl (cI, 3, .inl r_t_lengths)), (q_t_seen, .inr (5, [.int v_t_seen_size, .ref q_t_seen_pins, .ref q_t_seen_ways, .ref q_t_seen_fell])), (q_o1_seen, .inr (5, [.int v_o1_seen_size, .ref q_o1_seen_pins, .ref q_o1_seen_ways, .ref q_o1_seen_fell])), (q_o1_seen_pins, .inl (cI, 6, .inl r_o1_seen_pins)), (q_t_seen_pins, .inl (cI, 6, .inl r_t_seen_pins)), (q_o1_seen_ways, .inl (cI, 6, .inl r_o1_seen_ways)), (q_t_seen_ways, .inl (cI, 6, .inl r_t_seen_ways)), (q_o1_seen_fell, .inl (cI, 6, .inl r_o1_seen_fell)), (q_t_seen_fell, .inl (cI, 6, .inl r_t_seen_fell))] H := hP
  have hD : va_D A [(q_t, .inr (1, [.int v_o1_pins, .int v_o1_lanes, .ref q_t_kinds, .ref q_t_laneOf, .ref q_t_firsts, .ref q_t_lengths, .int v_t_ball, .int v_t_law, .int v_t_standing, .int v_t_struck, .ref q_t_seen])), (q_o1, .inr (1, [.int v_o1_pins, .int v_o1_lanes, .ref q_o1_kinds, .ref q_o1_laneOf, .ref q_o1_firsts, .ref q_o1_lengths, .int v_o1_ball, .int v_o1_law, .int v_o1_standing, .int v_o1_struck, .ref q_o1_seen])), (q_o1_kinds, .inl (cI, 9, .inl r_o1_kinds)), (q_t_kinds, .inl (cI, 9, .inl (va_cpy r_o1_kinds r_t_kinds 0 0 9))), (q_o1_laneOf, .inl (cI, 9, .inl r_o1_laneOf)), (q_t_laneOf, .inl (cI, 9, .inl r_t_laneOf)), (q_o1_firsts, .inl (cI, 3, .inl r_o1_firsts)), (q_t_firsts, .inl (cI, 3, .inl r_t_firsts)), (q_o1_lengths, .inl (cI, 3, .inl r_o1_lengths)), (q_t_lengths, .inl (cI, 3, .inl r_t_lengths)), (q_t_seen, .inr (5, [.int v_t_seen_size, .ref q_t_seen_pins, .ref q_t_seen_ways, .ref q_t_seen_fell])), (q_o1_seen, .inr (5, [.int v_o1_seen_size, .ref q_o1_seen_pins, .ref q_o1_seen_ways, .ref q_o1_seen_fell])), (q_o1_seen_pins, .inl (cI, 6, .inl r_o1_seen_pins)), (q_t_seen_pins, .inl (cI, 6, .inl r_t_seen_pins)), (q_o1_seen_ways, .inl (cI, 6, .inl r_o1_seen_ways)), (q_t_seen_ways, .inl (cI, 6, .inl r_t_seen_ways)), (q_o1_seen_fell, .inl (cI, 6, .inl r_o1_seen_fell)), (q_t_seen_fell, .inl (cI, 6, .inl r_t_seen_fell))] := hD
  refine lv_aload_n hx hb dX1_copyFrom_31 rfl (lv_at hl 1 rfl) ?_
  refine va_get (D := D) (ci := 1) (v := .ref q_o1_laneOf) (C := RX1) (T := TX1) (N := 11) hx hb hts in_X1_copyFrom_1 hown hK hP 1 rfl rfl 3 (by decide) (hts (.fieldLink RX1 15 "PinLanes$Green" "laneOf" "[I") (by decide +kernel)) (fun _ h9 => h9) rfl dX1_copyFrom_32 ?_
  refine lv_iconst (v := (0 : Int32)) hx hb dX1_copyFrom_35 (by decide) ?_
  refine lv_aload_n hx hb dX1_copyFrom_36 rfl (lv_at hl 0 rfl) ?_
  refine va_get (D := D) (ci := 1) (v := .ref q_t_laneOf) (C := RX1) (T := TX1) (N := 11) hx hb hts in_X1_copyFrom_1 hown hK hP 0 rfl rfl 3 (by decide) (hts (.fieldLink RX1 15 "PinLanes$Green" "laneOf" "[I") (by decide +kernel)) (fun _ h9 => h9) rfl dX1_copyFrom_37 ?_
  refine lv_iconst (v := (0 : Int32)) hx hb dX1_copyFrom_40 (by decide) ?_
  refine lv_bipush (v := (9 : Int32)) hx hb dX1_copyFrom_41 (by decide) ?_
  refine va_copyi hx hb (hml.trans hl.1.symm) hown (hts (.methodLink RX1 38 arraycopyName) (by decide +kernel)) (hts (.native arraycopyName) (by decide +kernel)) (hts (.static arraycopyName) (by decide +kernel)) (hts (.initialized "java/lang/System") (by decide +kernel)) hK hP hD hS 4 5 0 0 rfl rfl rfl rfl rfl (by decide) (by decide) (by decide) (by decide) (by decide) (fun _ _ => rfl) (Nat.le_of_ble_eq_true rfl) (Nat.le_of_ble_eq_true rfl) dX1_copyFrom_43 (fun H locs hP hD hS => ?_)
  have hP : va_P D vwCl [(q_t, .inr (1, [.int v_o1_pins, .int v_o1_lanes, .ref q_t_kinds, .ref q_t_laneOf, .ref q_t_firsts, .ref q_t_lengths, .int v_t_ball, .int v_t_law, .int v_t_standing, .int v_t_struck, .ref q_t_seen])), (q_o1, .inr (1, [.int v_o1_pins, .int v_o1_lanes, .ref q_o1_kinds, .ref q_o1_laneOf, .ref q_o1_firsts, .ref q_o1_lengths, .int v_o1_ball, .int v_o1_law, .int v_o1_standing, .int v_o1_struck, .ref q_o1_seen])), (q_o1_kinds, .inl (cI, 9, .inl r_o1_kinds)), (q_t_kinds, .inl (cI, 9, .inl (va_cpy r_o1_kinds r_t_kinds 0 0 9))), (q_o1_laneOf, .inl (cI, 9, .inl r_o1_laneOf)), (q_t_laneOf, .inl (cI, 9, .inl (va_cpy r_o1_laneOf r_t_laneOf 0 0 9))), (q_o1_firsts, .inl (cI, 3, .inl r_o1_firsts)), (q_t_firsts, .inl (cI, 3, .inl r_t_firsts)), (q_o1_lengths, .inl (cI, 3, .inl r_o1_lengths)), (q_t_lengths, .inl (cI, 3, .inl r_t_lengths)), (q_t_seen, .inr (5, [.int v_t_seen_size, .ref q_t_seen_pins, .ref q_t_seen_ways, .ref q_t_seen_fell])), (q_o1_seen, .inr (5, [.int v_o1_seen_size, .ref q_o1_seen_pins, .ref q_o1_seen_ways, .ref q_o1_seen_fell])), (q_o1_seen_pins, .inl (cI, 6, .inl r_o1_seen_pins)), (q_t_seen_pins, .inl (cI, 6, .inl r_t_seen_pins)), (q_o1_seen_ways, .inl (cI, 6, .inl r_o1_seen_ways)), (q_t_seen_ways, .inl (cI, 6, .inl r_t_seen_ways)), (q_o1_seen_fell, .inl (cI, 6, .inl r_o1_seen_fell)), (q_t_seen_fell, .inl (cI, 6, .inl r_t_seen_fell))] H := hP
  have hD : va_D A [(q_t, .inr (1, [.int v_o1_pins, .int v_o1_lanes, .ref q_t_kinds, .ref q_t_laneOf, .ref q_t_firsts, .ref q_t_lengths, .int v_t_ball, .int v_t_law, .int v_t_standing, .int v_t_struck, .ref q_t_seen])), (q_o1, .inr (1, [.int v_o1_pins, .int v_o1_lanes, .ref q_o1_kinds, .ref q_o1_laneOf, .ref q_o1_firsts, .ref q_o1_lengths, .int v_o1_ball, .int v_o1_law, .int v_o1_standing, .int v_o1_struck, .ref q_o1_seen])), (q_o1_kinds, .inl (cI, 9, .inl r_o1_kinds)), (q_t_kinds, .inl (cI, 9, .inl (va_cpy r_o1_kinds r_t_kinds 0 0 9))), (q_o1_laneOf, .inl (cI, 9, .inl r_o1_laneOf)), (q_t_laneOf, .inl (cI, 9, .inl (va_cpy r_o1_laneOf r_t_laneOf 0 0 9))), (q_o1_firsts, .inl (cI, 3, .inl r_o1_firsts)), (q_t_firsts, .inl (cI, 3, .inl r_t_firsts)), (q_o1_lengths, .inl (cI, 3, .inl r_o1_lengths)), (q_t_lengths, .inl (cI, 3, .inl r_t_lengths)), (q_t_seen, .inr (5, [.int v_t_seen_size, .ref q_t_seen_pins, .ref q_t_seen_ways, .ref q_t_seen_fell])), (q_o1_seen, .inr (5, [.int v_o1_seen_size, .ref q_o1_seen_pins, .ref q_o1_seen_ways, .ref q_o1_seen_fell])), (q_o1_seen_pins, .inl (cI, 6, .inl r_o1_seen_pins)), (q_t_seen_pins, .inl (cI, 6, .inl r_t_seen_pins)), (q_o1_seen_ways, .inl (cI, 6, .inl r_o1_seen_ways)), (q_t_seen_ways, .inl (cI, 6, .inl r_t_seen_ways)), (q_o1_seen_fell, .inl (cI, 6, .inl r_o1_seen_fell)), (q_t_seen_fell, .inl (cI, 6, .inl r_t_seen_fell))] := hD
  refine lv_aload_n hx hb dX1_copyFrom_46 rfl (lv_at hl 1 rfl) ?_
  refine va_get (D := D) (ci := 1) (v := .ref q_o1_firsts) (C := RX1) (T := TX1) (N := 11) hx hb hts in_X1_copyFrom_1 hown hK hP 1 rfl rfl 4 (by decide) (hts (.fieldLink RX1 18 "PinLanes$Green" "firsts" "[I") (by decide +kernel)) (fun _ h9 => h9) rfl dX1_copyFrom_47 ?_
  refine lv_iconst (v := (0 : Int32)) hx hb dX1_copyFrom_50 (by decide) ?_
  refine lv_aload_n hx hb dX1_copyFrom_51 rfl (lv_at hl 0 rfl) ?_
  refine va_get (D := D) (ci := 1) (v := .ref q_t_firsts) (C := RX1) (T := TX1) (N := 11) hx hb hts in_X1_copyFrom_1 hown hK hP 0 rfl rfl 4 (by decide) (hts (.fieldLink RX1 18 "PinLanes$Green" "firsts" "[I") (by decide +kernel)) (fun _ h9 => h9) rfl dX1_copyFrom_52 ?_
  refine lv_iconst (v := (0 : Int32)) hx hb dX1_copyFrom_55 (by decide) ?_
  refine lv_iconst (v := (3 : Int32)) hx hb dX1_copyFrom_56 (by decide) ?_
  refine va_copyi hx hb (hml.trans hl.1.symm) hown (hts (.methodLink RX1 38 arraycopyName) (by decide +kernel)) (hts (.native arraycopyName) (by decide +kernel)) (hts (.static arraycopyName) (by decide +kernel)) (hts (.initialized "java/lang/System") (by decide +kernel)) hK hP hD hS 6 7 0 0 rfl rfl rfl rfl rfl (by decide) (by decide) (by decide) (by decide) (by decide) (fun _ _ => rfl) (Nat.le_of_ble_eq_true rfl) (Nat.le_of_ble_eq_true rfl) dX1_copyFrom_57 (fun H locs hP hD hS => ?_)
  have hP : va_P D vwCl [(q_t, .inr (1, [.int v_o1_pins, .int v_o1_lanes, .ref q_t_kinds, .ref q_t_laneOf, .ref q_t_firsts, .ref q_t_lengths, .int v_t_ball, .int v_t_law, .int v_t_standing, .int v_t_struck, .ref q_t_seen])), (q_o1, .inr (1, [.int v_o1_pins, .int v_o1_lanes, .ref q_o1_kinds, .ref q_o1_laneOf, .ref q_o1_firsts, .ref q_o1_lengths, .int v_o1_ball, .int v_o1_law, .int v_o1_standing, .int v_o1_struck, .ref q_o1_seen])), (q_o1_kinds, .inl (cI, 9, .inl r_o1_kinds)), (q_t_kinds, .inl (cI, 9, .inl (va_cpy r_o1_kinds r_t_kinds 0 0 9))), (q_o1_laneOf, .inl (cI, 9, .inl r_o1_laneOf)), (q_t_laneOf, .inl (cI, 9, .inl (va_cpy r_o1_laneOf r_t_laneOf 0 0 9))), (q_o1_firsts, .inl (cI, 3, .inl r_o1_firsts)), (q_t_firsts, .inl (cI, 3, .inl (va_cpy r_o1_firsts r_t_firsts 0 0 3))), (q_o1_lengths, .inl (cI, 3, .inl r_o1_lengths)), (q_t_lengths, .inl (cI, 3, .inl r_t_lengths)), (q_t_seen, .inr (5, [.int v_t_seen_size, .ref q_t_seen_pins, .ref q_t_seen_ways, .ref q_t_seen_fell])), (q_o1_seen, .inr (5, [.int v_o1_seen_size, .ref q_o1_seen_pins, .ref q_o1_seen_ways, .ref q_o1_seen_fell])), (q_o1_seen_pins, .inl (cI, 6, .inl r_o1_seen_pins)), (q_t_seen_pins, .inl (cI, 6, .inl r_t_seen_pins)), (q_o1_seen_ways, .inl (cI, 6, .inl r_o1_seen_ways)), (q_t_seen_ways, .inl (cI, 6, .inl r_t_seen_ways)), (q_o1_seen_fell, .inl (cI, 6, .inl r_o1_seen_fell)), (q_t_seen_fell, .inl (cI, 6, .inl r_t_seen_fell))] H := hP
  have hD : va_D A [(q_t, .inr (1, [.int v_o1_pins, .int v_o1_lanes, .ref q_t_kinds, .ref q_t_laneOf, .ref q_t_firsts, .ref q_t_lengths, .int v_t_ball, .int v_t_law, .int v_t_standing, .int v_t_struck, .ref q_t_seen])), (q_o1, .inr (1, [.int v_o1_pins, .int v_o1_lanes, .ref q_o1_kinds, .ref q_o1_laneOf, .ref q_o1_firsts, .ref q_o1_lengths, .int v_o1_ball, .int v_o1_law, .int v_o1_standing, .int v_o1_struck, .ref q_o1_seen])), (q_o1_kinds, .inl (cI, 9, .inl r_o1_kinds)), (q_t_kinds, .inl (cI, 9, .inl (va_cpy r_o1_kinds r_t_kinds 0 0 9))), (q_o1_laneOf, .inl (cI, 9, .inl r_o1_laneOf)), (q_t_laneOf, .inl (cI, 9, .inl (va_cpy r_o1_laneOf r_t_laneOf 0 0 9))), (q_o1_firsts, .inl (cI, 3, .inl r_o1_firsts)), (q_t_firsts, .inl (cI, 3, .inl (va_cpy r_o1_firsts r_t_firsts 0 0 3))), (q_o1_lengths, .inl (cI, 3, .inl r_o1_lengths)), (q_t_lengths, .inl (cI, 3, .inl r_t_lengths)), (q_t_seen, .inr (5, [.int v_t_seen_size, .ref q_t_seen_pins, .ref q_t_seen_ways, .ref q_t_seen_fell])), (q_o1_seen, .inr (5, [.int v_o1_seen_size, .ref q_o1_seen_pins, .ref q_o1_seen_ways, .ref q_o1_seen_fell])), (q_o1_seen_pins, .inl (cI, 6, .inl r_o1_seen_pins)), (q_t_seen_pins, .inl (cI, 6, .inl r_t_seen_pins)), (q_o1_seen_ways, .inl (cI, 6, .inl r_o1_seen_ways)), (q_t_seen_ways, .inl (cI, 6, .inl r_t_seen_ways)), (q_o1_seen_fell, .inl (cI, 6, .inl r_o1_seen_fell)), (q_t_seen_fell, .inl (cI, 6, .inl r_t_seen_fell))] := hD
  refine lv_aload_n hx hb dX1_copyFrom_60 rfl (lv_at hl 1 rfl) ?_
  refine va_get (D := D) (ci := 1) (v := .ref q_o1_lengths) (C := RX1) (T := TX1) (N := 11) hx hb hts in_X1_copyFrom_1 hown hK hP 1 rfl rfl 5 (by decide) (hts (.fieldLink RX1 21 "PinLanes$Green" "lengths" "[I") (by decide +kernel)) (fun _ h9 => h9) rfl dX1_copyFrom_61 ?_
  refine lv_iconst (v := (0 : Int32)) hx hb dX1_copyFrom_64 (by decide) ?_
  refine lv_aload_n hx hb dX1_copyFrom_65 rfl (lv_at hl 0 rfl) ?_
  refine va_get (D := D) (ci := 1) (v := .ref q_t_lengths) (C := RX1) (T := TX1) (N := 11) hx hb hts in_X1_copyFrom_1 hown hK hP 0 rfl rfl 5 (by decide) (hts (.fieldLink RX1 21 "PinLanes$Green" "lengths" "[I") (by decide +kernel)) (fun _ h9 => h9) rfl dX1_copyFrom_66 ?_
  refine lv_iconst (v := (0 : Int32)) hx hb dX1_copyFrom_69 (by decide) ?_
  refine lv_iconst (v := (3 : Int32)) hx hb dX1_copyFrom_70 (by decide) ?_
  refine va_copyi hx hb (hml.trans hl.1.symm) hown (hts (.methodLink RX1 38 arraycopyName) (by decide +kernel)) (hts (.native arraycopyName) (by decide +kernel)) (hts (.static arraycopyName) (by decide +kernel)) (hts (.initialized "java/lang/System") (by decide +kernel)) hK hP hD hS 8 9 0 0 rfl rfl rfl rfl rfl (by decide) (by decide) (by decide) (by decide) (by decide) (fun _ _ => rfl) (Nat.le_of_ble_eq_true rfl) (Nat.le_of_ble_eq_true rfl) dX1_copyFrom_71 (fun H locs hP hD hS => ?_)
  have hP : va_P D vwCl [(q_t, .inr (1, [.int v_o1_pins, .int v_o1_lanes, .ref q_t_kinds, .ref q_t_laneOf, .ref q_t_firsts, .ref q_t_lengths, .int v_t_ball, .int v_t_law, .int v_t_standing, .int v_t_struck, .ref q_t_seen])), (q_o1, .inr (1, [.int v_o1_pins, .int v_o1_lanes, .ref q_o1_kinds, .ref q_o1_laneOf, .ref q_o1_firsts, .ref q_o1_lengths, .int v_o1_ball, .int v_o1_law, .int v_o1_standing, .int v_o1_struck, .ref q_o1_seen])), (q_o1_kinds, .inl (cI, 9, .inl r_o1_kinds)), (q_t_kinds, .inl (cI, 9, .inl (va_cpy r_o1_kinds r_t_kinds 0 0 9))), (q_o1_laneOf, .inl (cI, 9, .inl r_o1_laneOf)), (q_t_laneOf, .inl (cI, 9, .inl (va_cpy r_o1_laneOf r_t_laneOf 0 0 9))), (q_o1_firsts, .inl (cI, 3, .inl r_o1_firsts)), (q_t_firsts, .inl (cI, 3, .inl (va_cpy r_o1_firsts r_t_firsts 0 0 3))), (q_o1_lengths, .inl (cI, 3, .inl r_o1_lengths)), (q_t_lengths, .inl (cI, 3, .inl (va_cpy r_o1_lengths r_t_lengths 0 0 3))), (q_t_seen, .inr (5, [.int v_t_seen_size, .ref q_t_seen_pins, .ref q_t_seen_ways, .ref q_t_seen_fell])), (q_o1_seen, .inr (5, [.int v_o1_seen_size, .ref q_o1_seen_pins, .ref q_o1_seen_ways, .ref q_o1_seen_fell])), (q_o1_seen_pins, .inl (cI, 6, .inl r_o1_seen_pins)), (q_t_seen_pins, .inl (cI, 6, .inl r_t_seen_pins)), (q_o1_seen_ways, .inl (cI, 6, .inl r_o1_seen_ways)), (q_t_seen_ways, .inl (cI, 6, .inl r_t_seen_ways)), (q_o1_seen_fell, .inl (cI, 6, .inl r_o1_seen_fell)), (q_t_seen_fell, .inl (cI, 6, .inl r_t_seen_fell))] H := hP
  have hD : va_D A [(q_t, .inr (1, [.int v_o1_pins, .int v_o1_lanes, .ref q_t_kinds, .ref q_t_laneOf, .ref q_t_firsts, .ref q_t_lengths, .int v_t_ball, .int v_t_law, .int v_t_standing, .int v_t_struck, .ref q_t_seen])), (q_o1, .inr (1, [.int v_o1_pins, .int v_o1_lanes, .ref q_o1_kinds, .ref q_o1_laneOf, .ref q_o1_firsts, .ref q_o1_lengths, .int v_o1_ball, .int v_o1_law, .int v_o1_standing, .int v_o1_struck, .ref q_o1_seen])), (q_o1_kinds, .inl (cI, 9, .inl r_o1_kinds)), (q_t_kinds, .inl (cI, 9, .inl (va_cpy r_o1_kinds r_t_kinds 0 0 9))), (q_o1_laneOf, .inl (cI, 9, .inl r_o1_laneOf)), (q_t_laneOf, .inl (cI, 9, .inl (va_cpy r_o1_laneOf r_t_laneOf 0 0 9))), (q_o1_firsts, .inl (cI, 3, .inl r_o1_firsts)), (q_t_firsts, .inl (cI, 3, .inl (va_cpy r_o1_firsts r_t_firsts 0 0 3))), (q_o1_lengths, .inl (cI, 3, .inl r_o1_lengths)), (q_t_lengths, .inl (cI, 3, .inl (va_cpy r_o1_lengths r_t_lengths 0 0 3))), (q_t_seen, .inr (5, [.int v_t_seen_size, .ref q_t_seen_pins, .ref q_t_seen_ways, .ref q_t_seen_fell])), (q_o1_seen, .inr (5, [.int v_o1_seen_size, .ref q_o1_seen_pins, .ref q_o1_seen_ways, .ref q_o1_seen_fell])), (q_o1_seen_pins, .inl (cI, 6, .inl r_o1_seen_pins)), (q_t_seen_pins, .inl (cI, 6, .inl r_t_seen_pins)), (q_o1_seen_ways, .inl (cI, 6, .inl r_o1_seen_ways)), (q_t_seen_ways, .inl (cI, 6, .inl r_t_seen_ways)), (q_o1_seen_fell, .inl (cI, 6, .inl r_o1_seen_fell)), (q_t_seen_fell, .inl (cI, 6, .inl r_t_seen_fell))] := hD
  refine lv_aload_n hx hb dX1_copyFrom_74 rfl (lv_at hl 0 rfl) ?_
  refine lv_aload_n hx hb dX1_copyFrom_75 rfl (lv_at hl 1 rfl) ?_
  refine va_get (D := D) (ci := 1) (v := .int v_o1_ball) (C := RX1) (T := TX1) (N := 11) hx hb hts in_X1_copyFrom_1 hown hK hP 1 rfl rfl 6 (by decide) (hts (.fieldLink RX1 44 "PinLanes$Green" "ball" "I") (by decide +kernel)) (fun _ h9 => h9) rfl dX1_copyFrom_76 ?_
  refine va_put (D := D) (ci := 1) (v := .int v_o1_ball) (ty := .int) (C := RX1) (T := TX1) (N := 11) hx hb hts in_X1_copyFrom_1 tyX1 tyX1_ok nmX1 hown hK hP hD hS 0 rfl rfl 6 (by decide) (hts (.fieldLink RX1 44 "PinLanes$Green" "ball" "I") (by decide +kernel)) (fun _ h9 => h9) rfl (by decide +kernel) rfl rfl (Nat.le_of_ble_eq_true rfl) dX1_copyFrom_79 (fun H locs hP hD hS => ?_)
  have hP : va_P D vwCl [(q_t, .inr (1, [.int v_o1_pins, .int v_o1_lanes, .ref q_t_kinds, .ref q_t_laneOf, .ref q_t_firsts, .ref q_t_lengths, .int v_o1_ball, .int v_t_law, .int v_t_standing, .int v_t_struck, .ref q_t_seen])), (q_o1, .inr (1, [.int v_o1_pins, .int v_o1_lanes, .ref q_o1_kinds, .ref q_o1_laneOf, .ref q_o1_firsts, .ref q_o1_lengths, .int v_o1_ball, .int v_o1_law, .int v_o1_standing, .int v_o1_struck, .ref q_o1_seen])), (q_o1_kinds, .inl (cI, 9, .inl r_o1_kinds)), (q_t_kinds, .inl (cI, 9, .inl (va_cpy r_o1_kinds r_t_kinds 0 0 9))), (q_o1_laneOf, .inl (cI, 9, .inl r_o1_laneOf)), (q_t_laneOf, .inl (cI, 9, .inl (va_cpy r_o1_laneOf r_t_laneOf 0 0 9))), (q_o1_firsts, .inl (cI, 3, .inl r_o1_firsts)), (q_t_firsts, .inl (cI, 3, .inl (va_cpy r_o1_firsts r_t_firsts 0 0 3))), (q_o1_lengths, .inl (cI, 3, .inl r_o1_lengths)), (q_t_lengths, .inl (cI, 3, .inl (va_cpy r_o1_lengths r_t_lengths 0 0 3))), (q_t_seen, .inr (5, [.int v_t_seen_size, .ref q_t_seen_pins, .ref q_t_seen_ways, .ref q_t_seen_fell])), (q_o1_seen, .inr (5, [.int v_o1_seen_size, .ref q_o1_seen_pins, .ref q_o1_seen_ways, .ref q_o1_seen_fell])), (q_o1_seen_pins, .inl (cI, 6, .inl r_o1_seen_pins)), (q_t_seen_pins, .inl (cI, 6, .inl r_t_seen_pins)), (q_o1_seen_ways, .inl (cI, 6, .inl r_o1_seen_ways)), (q_t_seen_ways, .inl (cI, 6, .inl r_t_seen_ways)), (q_o1_seen_fell, .inl (cI, 6, .inl r_o1_seen_fell)), (q_t_seen_fell, .inl (cI, 6, .inl r_t_seen_fell))] H := hP
  have hD : va_D A [(q_t, .inr (1, [.int v_o1_pins, .int v_o1_lanes, .ref q_t_kinds, .ref q_t_laneOf, .ref q_t_firsts, .ref q_t_lengths, .int v_o1_ball, .int v_t_law, .int v_t_standing, .int v_t_struck, .ref q_t_seen])), (q_o1, .inr (1, [.int v_o1_pins, .int v_o1_lanes, .ref q_o1_kinds, .ref q_o1_laneOf, .ref q_o1_firsts, .ref q_o1_lengths, .int v_o1_ball, .int v_o1_law, .int v_o1_standing, .int v_o1_struck, .ref q_o1_seen])), (q_o1_kinds, .inl (cI, 9, .inl r_o1_kinds)), (q_t_kinds, .inl (cI, 9, .inl (va_cpy r_o1_kinds r_t_kinds 0 0 9))), (q_o1_laneOf, .inl (cI, 9, .inl r_o1_laneOf)), (q_t_laneOf, .inl (cI, 9, .inl (va_cpy r_o1_laneOf r_t_laneOf 0 0 9))), (q_o1_firsts, .inl (cI, 3, .inl r_o1_firsts)), (q_t_firsts, .inl (cI, 3, .inl (va_cpy r_o1_firsts r_t_firsts 0 0 3))), (q_o1_lengths, .inl (cI, 3, .inl r_o1_lengths)), (q_t_lengths, .inl (cI, 3, .inl (va_cpy r_o1_lengths r_t_lengths 0 0 3))), (q_t_seen, .inr (5, [.int v_t_seen_size, .ref q_t_seen_pins, .ref q_t_seen_ways, .ref q_t_seen_fell])), (q_o1_seen, .inr (5, [.int v_o1_seen_size, .ref q_o1_seen_pins, .ref q_o1_seen_ways, .ref q_o1_seen_fell])), (q_o1_seen_pins, .inl (cI, 6, .inl r_o1_seen_pins)), (q_t_seen_pins, .inl (cI, 6, .inl r_t_seen_pins)), (q_o1_seen_ways, .inl (cI, 6, .inl r_o1_seen_ways)), (q_t_seen_ways, .inl (cI, 6, .inl r_t_seen_ways)), (q_o1_seen_fell, .inl (cI, 6, .inl r_o1_seen_fell)), (q_t_seen_fell, .inl (cI, 6, .inl r_t_seen_fell))] := hD
  refine lv_aload_n hx hb dX1_copyFrom_82 rfl (lv_at hl 0 rfl) ?_
  refine lv_aload_n hx hb dX1_copyFrom_83 rfl (lv_at hl 1 rfl) ?_
  refine va_get (D := D) (ci := 1) (v := .int v_o1_law) (C := RX1) (T := TX1) (N := 11) hx hb hts in_X1_copyFrom_1 hown hK hP 1 rfl rfl 7 (by decide) (hts (.fieldLink RX1 47 "PinLanes$Green" "law" "I") (by decide +kernel)) (fun _ h9 => h9) rfl dX1_copyFrom_84 ?_
  refine va_put (D := D) (ci := 1) (v := .int v_o1_law) (ty := .int) (C := RX1) (T := TX1) (N := 11) hx hb hts in_X1_copyFrom_1 tyX1 tyX1_ok nmX1 hown hK hP hD hS 0 rfl rfl 7 (by decide) (hts (.fieldLink RX1 47 "PinLanes$Green" "law" "I") (by decide +kernel)) (fun _ h9 => h9) rfl (by decide +kernel) rfl rfl (Nat.le_of_ble_eq_true rfl) dX1_copyFrom_87 (fun H locs hP hD hS => ?_)
  have hP : va_P D vwCl [(q_t, .inr (1, [.int v_o1_pins, .int v_o1_lanes, .ref q_t_kinds, .ref q_t_laneOf, .ref q_t_firsts, .ref q_t_lengths, .int v_o1_ball, .int v_o1_law, .int v_t_standing, .int v_t_struck, .ref q_t_seen])), (q_o1, .inr (1, [.int v_o1_pins, .int v_o1_lanes, .ref q_o1_kinds, .ref q_o1_laneOf, .ref q_o1_firsts, .ref q_o1_lengths, .int v_o1_ball, .int v_o1_law, .int v_o1_standing, .int v_o1_struck, .ref q_o1_seen])), (q_o1_kinds, .inl (cI, 9, .inl r_o1_kinds)), (q_t_kinds, .inl (cI, 9, .inl (va_cpy r_o1_kinds r_t_kinds 0 0 9))), (q_o1_laneOf, .inl (cI, 9, .inl r_o1_laneOf)), (q_t_laneOf, .inl (cI, 9, .inl (va_cpy r_o1_laneOf r_t_laneOf 0 0 9))), (q_o1_firsts, .inl (cI, 3, .inl r_o1_firsts)), (q_t_firsts, .inl (cI, 3, .inl (va_cpy r_o1_firsts r_t_firsts 0 0 3))), (q_o1_lengths, .inl (cI, 3, .inl r_o1_lengths)), (q_t_lengths, .inl (cI, 3, .inl (va_cpy r_o1_lengths r_t_lengths 0 0 3))), (q_t_seen, .inr (5, [.int v_t_seen_size, .ref q_t_seen_pins, .ref q_t_seen_ways, .ref q_t_seen_fell])), (q_o1_seen, .inr (5, [.int v_o1_seen_size, .ref q_o1_seen_pins, .ref q_o1_seen_ways, .ref q_o1_seen_fell])), (q_o1_seen_pins, .inl (cI, 6, .inl r_o1_seen_pins)), (q_t_seen_pins, .inl (cI, 6, .inl r_t_seen_pins)), (q_o1_seen_ways, .inl (cI, 6, .inl r_o1_seen_ways)), (q_t_seen_ways, .inl (cI, 6, .inl r_t_seen_ways)), (q_o1_seen_fell, .inl (cI, 6, .inl r_o1_seen_fell)), (q_t_seen_fell, .inl (cI, 6, .inl r_t_seen_fell))] H := hP
  have hD : va_D A [(q_t, .inr (1, [.int v_o1_pins, .int v_o1_lanes, .ref q_t_kinds, .ref q_t_laneOf, .ref q_t_firsts, .ref q_t_lengths, .int v_o1_ball, .int v_o1_law, .int v_t_standing, .int v_t_struck, .ref q_t_seen])), (q_o1, .inr (1, [.int v_o1_pins, .int v_o1_lanes, .ref q_o1_kinds, .ref q_o1_laneOf, .ref q_o1_firsts, .ref q_o1_lengths, .int v_o1_ball, .int v_o1_law, .int v_o1_standing, .int v_o1_struck, .ref q_o1_seen])), (q_o1_kinds, .inl (cI, 9, .inl r_o1_kinds)), (q_t_kinds, .inl (cI, 9, .inl (va_cpy r_o1_kinds r_t_kinds 0 0 9))), (q_o1_laneOf, .inl (cI, 9, .inl r_o1_laneOf)), (q_t_laneOf, .inl (cI, 9, .inl (va_cpy r_o1_laneOf r_t_laneOf 0 0 9))), (q_o1_firsts, .inl (cI, 3, .inl r_o1_firsts)), (q_t_firsts, .inl (cI, 3, .inl (va_cpy r_o1_firsts r_t_firsts 0 0 3))), (q_o1_lengths, .inl (cI, 3, .inl r_o1_lengths)), (q_t_lengths, .inl (cI, 3, .inl (va_cpy r_o1_lengths r_t_lengths 0 0 3))), (q_t_seen, .inr (5, [.int v_t_seen_size, .ref q_t_seen_pins, .ref q_t_seen_ways, .ref q_t_seen_fell])), (q_o1_seen, .inr (5, [.int v_o1_seen_size, .ref q_o1_seen_pins, .ref q_o1_seen_ways, .ref q_o1_seen_fell])), (q_o1_seen_pins, .inl (cI, 6, .inl r_o1_seen_pins)), (q_t_seen_pins, .inl (cI, 6, .inl r_t_seen_pins)), (q_o1_seen_ways, .inl (cI, 6, .inl r_o1_seen_ways)), (q_t_seen_ways, .inl (cI, 6, .inl r_t_seen_ways)), (q_o1_seen_fell, .inl (cI, 6, .inl r_o1_seen_fell)), (q_t_seen_fell, .inl (cI, 6, .inl r_t_seen_fell))] := hD
  refine lv_aload_n hx hb dX1_copyFrom_90 rfl (lv_at hl 0 rfl) ?_
  refine lv_aload_n hx hb dX1_copyFrom_91 rfl (lv_at hl 1 rfl) ?_
  refine va_get (D := D) (ci := 1) (v := .int v_o1_standing) (C := RX1) (T := TX1) (N := 11) hx hb hts in_X1_copyFrom_1 hown hK hP 1 rfl rfl 8 (by decide) (hts (.fieldLink RX1 50 "PinLanes$Green" "standing" "I") (by decide +kernel)) (fun _ h9 => h9) rfl dX1_copyFrom_92 ?_
  refine va_put (D := D) (ci := 1) (v := .int v_o1_standing) (ty := .int) (C := RX1) (T := TX1) (N := 11) hx hb hts in_X1_copyFrom_1 tyX1 tyX1_ok nmX1 hown hK hP hD hS 0 rfl rfl 8 (by decide) (hts (.fieldLink RX1 50 "PinLanes$Green" "standing" "I") (by decide +kernel)) (fun _ h9 => h9) rfl (by decide +kernel) rfl rfl (Nat.le_of_ble_eq_true rfl) dX1_copyFrom_95 (fun H locs hP hD hS => ?_)
  have hP : va_P D vwCl [(q_t, .inr (1, [.int v_o1_pins, .int v_o1_lanes, .ref q_t_kinds, .ref q_t_laneOf, .ref q_t_firsts, .ref q_t_lengths, .int v_o1_ball, .int v_o1_law, .int v_o1_standing, .int v_t_struck, .ref q_t_seen])), (q_o1, .inr (1, [.int v_o1_pins, .int v_o1_lanes, .ref q_o1_kinds, .ref q_o1_laneOf, .ref q_o1_firsts, .ref q_o1_lengths, .int v_o1_ball, .int v_o1_law, .int v_o1_standing, .int v_o1_struck, .ref q_o1_seen])), (q_o1_kinds, .inl (cI, 9, .inl r_o1_kinds)), (q_t_kinds, .inl (cI, 9, .inl (va_cpy r_o1_kinds r_t_kinds 0 0 9))), (q_o1_laneOf, .inl (cI, 9, .inl r_o1_laneOf)), (q_t_laneOf, .inl (cI, 9, .inl (va_cpy r_o1_laneOf r_t_laneOf 0 0 9))), (q_o1_firsts, .inl (cI, 3, .inl r_o1_firsts)), (q_t_firsts, .inl (cI, 3, .inl (va_cpy r_o1_firsts r_t_firsts 0 0 3))), (q_o1_lengths, .inl (cI, 3, .inl r_o1_lengths)), (q_t_lengths, .inl (cI, 3, .inl (va_cpy r_o1_lengths r_t_lengths 0 0 3))), (q_t_seen, .inr (5, [.int v_t_seen_size, .ref q_t_seen_pins, .ref q_t_seen_ways, .ref q_t_seen_fell])), (q_o1_seen, .inr (5, [.int v_o1_seen_size, .ref q_o1_seen_pins, .ref q_o1_seen_ways, .ref q_o1_seen_fell])), (q_o1_seen_pins, .inl (cI, 6, .inl r_o1_seen_pins)), (q_t_seen_pins, .inl (cI, 6, .inl r_t_seen_pins)), (q_o1_seen_ways, .inl (cI, 6, .inl r_o1_seen_ways)), (q_t_seen_ways, .inl (cI, 6, .inl r_t_seen_ways)), (q_o1_seen_fell, .inl (cI, 6, .inl r_o1_seen_fell)), (q_t_seen_fell, .inl (cI, 6, .inl r_t_seen_fell))] H := hP
  have hD : va_D A [(q_t, .inr (1, [.int v_o1_pins, .int v_o1_lanes, .ref q_t_kinds, .ref q_t_laneOf, .ref q_t_firsts, .ref q_t_lengths, .int v_o1_ball, .int v_o1_law, .int v_o1_standing, .int v_t_struck, .ref q_t_seen])), (q_o1, .inr (1, [.int v_o1_pins, .int v_o1_lanes, .ref q_o1_kinds, .ref q_o1_laneOf, .ref q_o1_firsts, .ref q_o1_lengths, .int v_o1_ball, .int v_o1_law, .int v_o1_standing, .int v_o1_struck, .ref q_o1_seen])), (q_o1_kinds, .inl (cI, 9, .inl r_o1_kinds)), (q_t_kinds, .inl (cI, 9, .inl (va_cpy r_o1_kinds r_t_kinds 0 0 9))), (q_o1_laneOf, .inl (cI, 9, .inl r_o1_laneOf)), (q_t_laneOf, .inl (cI, 9, .inl (va_cpy r_o1_laneOf r_t_laneOf 0 0 9))), (q_o1_firsts, .inl (cI, 3, .inl r_o1_firsts)), (q_t_firsts, .inl (cI, 3, .inl (va_cpy r_o1_firsts r_t_firsts 0 0 3))), (q_o1_lengths, .inl (cI, 3, .inl r_o1_lengths)), (q_t_lengths, .inl (cI, 3, .inl (va_cpy r_o1_lengths r_t_lengths 0 0 3))), (q_t_seen, .inr (5, [.int v_t_seen_size, .ref q_t_seen_pins, .ref q_t_seen_ways, .ref q_t_seen_fell])), (q_o1_seen, .inr (5, [.int v_o1_seen_size, .ref q_o1_seen_pins, .ref q_o1_seen_ways, .ref q_o1_seen_fell])), (q_o1_seen_pins, .inl (cI, 6, .inl r_o1_seen_pins)), (q_t_seen_pins, .inl (cI, 6, .inl r_t_seen_pins)), (q_o1_seen_ways, .inl (cI, 6, .inl r_o1_seen_ways)), (q_t_seen_ways, .inl (cI, 6, .inl r_t_seen_ways)), (q_o1_seen_fell, .inl (cI, 6, .inl r_o1_seen_fell)), (q_t_seen_fell, .inl (cI, 6, .inl r_t_seen_fell))] := hD
  refine lv_aload_n hx hb dX1_copyFrom_98 rfl (lv_at hl 0 rfl) ?_
  refine lv_aload_n hx hb dX1_copyFrom_99 rfl (lv_at hl 1 rfl) ?_
  refine va_get (D := D) (ci := 1) (v := .int v_o1_struck) (C := RX1) (T := TX1) (N := 11) hx hb hts in_X1_copyFrom_1 hown hK hP 1 rfl rfl 9 (by decide) (hts (.fieldLink RX1 53 "PinLanes$Green" "struck" "I") (by decide +kernel)) (fun _ h9 => h9) rfl dX1_copyFrom_100 ?_
  refine va_put (D := D) (ci := 1) (v := .int v_o1_struck) (ty := .int) (C := RX1) (T := TX1) (N := 11) hx hb hts in_X1_copyFrom_1 tyX1 tyX1_ok nmX1 hown hK hP hD hS 0 rfl rfl 9 (by decide) (hts (.fieldLink RX1 53 "PinLanes$Green" "struck" "I") (by decide +kernel)) (fun _ h9 => h9) rfl (by decide +kernel) rfl rfl (Nat.le_of_ble_eq_true rfl) dX1_copyFrom_103 (fun H locs hP hD hS => ?_)
  have hP : va_P D vwCl [(q_t, .inr (1, [.int v_o1_pins, .int v_o1_lanes, .ref q_t_kinds, .ref q_t_laneOf, .ref q_t_firsts, .ref q_t_lengths, .int v_o1_ball, .int v_o1_law, .int v_o1_standing, .int v_o1_struck, .ref q_t_seen])), (q_o1, .inr (1, [.int v_o1_pins, .int v_o1_lanes, .ref q_o1_kinds, .ref q_o1_laneOf, .ref q_o1_firsts, .ref q_o1_lengths, .int v_o1_ball, .int v_o1_law, .int v_o1_standing, .int v_o1_struck, .ref q_o1_seen])), (q_o1_kinds, .inl (cI, 9, .inl r_o1_kinds)), (q_t_kinds, .inl (cI, 9, .inl (va_cpy r_o1_kinds r_t_kinds 0 0 9))), (q_o1_laneOf, .inl (cI, 9, .inl r_o1_laneOf)), (q_t_laneOf, .inl (cI, 9, .inl (va_cpy r_o1_laneOf r_t_laneOf 0 0 9))), (q_o1_firsts, .inl (cI, 3, .inl r_o1_firsts)), (q_t_firsts, .inl (cI, 3, .inl (va_cpy r_o1_firsts r_t_firsts 0 0 3))), (q_o1_lengths, .inl (cI, 3, .inl r_o1_lengths)), (q_t_lengths, .inl (cI, 3, .inl (va_cpy r_o1_lengths r_t_lengths 0 0 3))), (q_t_seen, .inr (5, [.int v_t_seen_size, .ref q_t_seen_pins, .ref q_t_seen_ways, .ref q_t_seen_fell])), (q_o1_seen, .inr (5, [.int v_o1_seen_size, .ref q_o1_seen_pins, .ref q_o1_seen_ways, .ref q_o1_seen_fell])), (q_o1_seen_pins, .inl (cI, 6, .inl r_o1_seen_pins)), (q_t_seen_pins, .inl (cI, 6, .inl r_t_seen_pins)), (q_o1_seen_ways, .inl (cI, 6, .inl r_o1_seen_ways)), (q_t_seen_ways, .inl (cI, 6, .inl r_t_seen_ways)), (q_o1_seen_fell, .inl (cI, 6, .inl r_o1_seen_fell)), (q_t_seen_fell, .inl (cI, 6, .inl r_t_seen_fell))] H := hP
  have hD : va_D A [(q_t, .inr (1, [.int v_o1_pins, .int v_o1_lanes, .ref q_t_kinds, .ref q_t_laneOf, .ref q_t_firsts, .ref q_t_lengths, .int v_o1_ball, .int v_o1_law, .int v_o1_standing, .int v_o1_struck, .ref q_t_seen])), (q_o1, .inr (1, [.int v_o1_pins, .int v_o1_lanes, .ref q_o1_kinds, .ref q_o1_laneOf, .ref q_o1_firsts, .ref q_o1_lengths, .int v_o1_ball, .int v_o1_law, .int v_o1_standing, .int v_o1_struck, .ref q_o1_seen])), (q_o1_kinds, .inl (cI, 9, .inl r_o1_kinds)), (q_t_kinds, .inl (cI, 9, .inl (va_cpy r_o1_kinds r_t_kinds 0 0 9))), (q_o1_laneOf, .inl (cI, 9, .inl r_o1_laneOf)), (q_t_laneOf, .inl (cI, 9, .inl (va_cpy r_o1_laneOf r_t_laneOf 0 0 9))), (q_o1_firsts, .inl (cI, 3, .inl r_o1_firsts)), (q_t_firsts, .inl (cI, 3, .inl (va_cpy r_o1_firsts r_t_firsts 0 0 3))), (q_o1_lengths, .inl (cI, 3, .inl r_o1_lengths)), (q_t_lengths, .inl (cI, 3, .inl (va_cpy r_o1_lengths r_t_lengths 0 0 3))), (q_t_seen, .inr (5, [.int v_t_seen_size, .ref q_t_seen_pins, .ref q_t_seen_ways, .ref q_t_seen_fell])), (q_o1_seen, .inr (5, [.int v_o1_seen_size, .ref q_o1_seen_pins, .ref q_o1_seen_ways, .ref q_o1_seen_fell])), (q_o1_seen_pins, .inl (cI, 6, .inl r_o1_seen_pins)), (q_t_seen_pins, .inl (cI, 6, .inl r_t_seen_pins)), (q_o1_seen_ways, .inl (cI, 6, .inl r_o1_seen_ways)), (q_t_seen_ways, .inl (cI, 6, .inl r_t_seen_ways)), (q_o1_seen_fell, .inl (cI, 6, .inl r_o1_seen_fell)), (q_t_seen_fell, .inl (cI, 6, .inl r_t_seen_fell))] := hD
  refine lv_aload_n hx hb dX1_copyFrom_106 rfl (lv_at hl 0 rfl) ?_
  refine va_get (D := D) (ci := 1) (v := .ref q_t_seen) (C := RX1) (T := TX1) (N := 11) hx hb hts in_X1_copyFrom_1 hown hK hP 0 rfl rfl 10 (by decide) (hts (.fieldLink RX1 27 "PinLanes$Green" "seen" "LPinLanes$Seen;") (by decide +kernel)) (fun _ h9 => h9) rfl dX1_copyFrom_107 ?_
  refine lv_aload_n hx hb dX1_copyFrom_110 rfl (lv_at hl 1 rfl) ?_
  refine va_get (D := D) (ci := 1) (v := .ref q_o1_seen) (C := RX1) (T := TX1) (N := 11) hx hb hts in_X1_copyFrom_1 hown hK hP 1 rfl rfl 10 (by decide) (hts (.fieldLink RX1 27 "PinLanes$Green" "seen" "LPinLanes$Seen;") (by decide +kernel)) (fun _ h9 => h9) rfl dX1_copyFrom_111 ?_
  obtain ⟨a1, a2, a3, a4, hra1, hf⟩ := ob4_e hf
  refine callVv (As := [.ref q_o1_seen]) (rest := []) (wn := [(q_t, .inr (1, [.int v_o1_pins, .int v_o1_lanes, .ref q_t_kinds, .ref q_t_laneOf, .ref q_t_firsts, .ref q_t_lengths, .int v_o1_ball, .int v_o1_law, .int v_o1_standing, .int v_o1_struck, .ref q_t_seen])), (q_o1, .inr (1, [.int v_o1_pins, .int v_o1_lanes, .ref q_o1_kinds, .ref q_o1_laneOf, .ref q_o1_firsts, .ref q_o1_lengths, .int v_o1_ball, .int v_o1_law, .int v_o1_standing, .int v_o1_struck, .ref q_o1_seen])), (q_o1_kinds, .inl (cI, 9, .inl r_o1_kinds)), (q_t_kinds, .inl (cI, 9, .inl (va_cpy r_o1_kinds r_t_kinds 0 0 9))), (q_o1_laneOf, .inl (cI, 9, .inl r_o1_laneOf)), (q_t_laneOf, .inl (cI, 9, .inl (va_cpy r_o1_laneOf r_t_laneOf 0 0 9))), (q_o1_firsts, .inl (cI, 3, .inl r_o1_firsts)), (q_t_firsts, .inl (cI, 3, .inl (va_cpy r_o1_firsts r_t_firsts 0 0 3))), (q_o1_lengths, .inl (cI, 3, .inl r_o1_lengths)), (q_t_lengths, .inl (cI, 3, .inl (va_cpy r_o1_lengths r_t_lengths 0 0 3))), (q_t_seen, .inr (5, [.int a1, .ref q_t_seen_pins, .ref q_t_seen_ways, .ref q_t_seen_fell])), (q_o1_seen, .inr (5, [.int v_o1_seen_size, .ref q_o1_seen_pins, .ref q_o1_seen_ways, .ref q_o1_seen_fell])), (q_o1_seen_pins, .inl (cI, 6, .inl r_o1_seen_pins)), (q_t_seen_pins, .inl (cI, 6, .inl a2)), (q_o1_seen_ways, .inl (cI, 6, .inl r_o1_seen_ways)), (q_t_seen_ways, .inl (cI, 6, .inl a3)), (q_o1_seen_fell, .inl (cI, 6, .inl r_o1_seen_fell)), (q_t_seen_fell, .inl (cI, 6, .inl a4))]) (q0 := 0) (ci := 5) ⟨hx, hb, hml, hown, hts⟩ (c_X5_copyFrom l D cI cC N _ q_t_seen q_t_seen_pins q_t_seen_ways q_t_seen_fell q_o1_seen q_o1_seen_pins q_o1_seen_ways q_o1_seen_fell v_t_seen_size v_o1_seen_size r_o1_seen_pins r_t_seen_pins r_o1_seen_ways r_t_seen_ways r_o1_seen_fell r_t_seen_fell a1 a2 a3 a4 hra1) (cwV 1 hts gX1_copyFrom_X5_copyFrom rfl rfl rfl (by decide +kernel) ⟨Nat.le_of_ble_eq_true rfl, Nat.le_of_ble_eq_true rfl⟩) hK hP hD hS hA hG (Cut.mk [10, 11, 12, 13, 14, 15, 16, 17] [0, 1, 2, 3, 4, 5, 6, 7, 8, 9] [0, 1, 2, 3, 4, 5, 6, 7, 8, 9, 10, 11, 12, 13, 14, 15, 16, 17] [(q_t, .inr (1, [.int v_o1_pins, .int v_o1_lanes, .ref q_t_kinds, .ref q_t_laneOf, .ref q_t_firsts, .ref q_t_lengths, .int v_o1_ball, .int v_o1_law, .int v_o1_standing, .int v_o1_struck, .ref q_t_seen])), (q_o1, .inr (1, [.int v_o1_pins, .int v_o1_lanes, .ref q_o1_kinds, .ref q_o1_laneOf, .ref q_o1_firsts, .ref q_o1_lengths, .int v_o1_ball, .int v_o1_law, .int v_o1_standing, .int v_o1_struck, .ref q_o1_seen])), (q_o1_kinds, .inl (cI, 9, .inl r_o1_kinds)), (q_t_kinds, .inl (cI, 9, .inl (va_cpy r_o1_kinds r_t_kinds 0 0 9))), (q_o1_laneOf, .inl (cI, 9, .inl r_o1_laneOf)), (q_t_laneOf, .inl (cI, 9, .inl (va_cpy r_o1_laneOf r_t_laneOf 0 0 9))), (q_o1_firsts, .inl (cI, 3, .inl r_o1_firsts)), (q_t_firsts, .inl (cI, 3, .inl (va_cpy r_o1_firsts r_t_firsts 0 0 3))), (q_o1_lengths, .inl (cI, 3, .inl r_o1_lengths)), (q_t_lengths, .inl (cI, 3, .inl (va_cpy r_o1_lengths r_t_lengths 0 0 3)))] rfl rfl rfl rfl (by decide) rfl rfl) rfl rfl rfl rfl hl.1 rfl (Nat.le_of_ble_eq_true rfl) ⟨Nat.zero_le _, Nat.zero_le _⟩ dX1_copyFrom_114 (fun H locs hP hD hS => ?_)
  obtain ⟨e1_, e2_, e3_, e4_, e5_, e6_, e7_, e8_, e9_, e10_, e11_, e12_, e13_, e14_⟩ := so14 hf
  exact endV hx hb hr hlk hK (by rw [hwE, ← e1_, ← e2_, ← e3_, ← e4_, ← e5_, ← e6_, ← e7_, ← e8_, ← e9_, ← e10_, ← e11_, ← e12_, ← e13_, ← e14_]; exact hP) (by rw [hwE, ← e1_, ← e2_, ← e3_, ← e4_, ← e5_, ← e6_, ← e7_, ← e8_, ← e9_, ← e10_, ← e11_, ← e12_, ← e13_, ← e14_]; exact hD) hS dX1_copyFrom_117
-- X1_lastLaneHasPins
set_option maxRecDepth 20000 in
theorem in_X1_lastLaneHasPins_1 : ∀ w ∈ wsX10, w ∈ wsX1_lastLaneHasPins := by decide +kernel
set_option maxHeartbeats 4000000 in
set_option maxRecDepth 100000 in
theorem c_X1_lastLaneHasPins (l : Launch) (D : va_G) (cI cC : ClassId) (N sz : Nat) (q_t q_t_kinds q_t_laneOf q_t_firsts q_t_lengths q_t_seen : Nat) (v_t_pins : Int32) (v_t_lanes : Int32) (v_t_ball : Int32) (v_t_law : Int32) (v_t_standing : Int32) (v_t_struck : Int32) (r_t_lengths : Nat → Int32) (z0 : Int32) (hf : f_X1_lastLaneHasPins N v_t_lanes r_t_lengths = some (z0)) : Ct l yX1_lastLaneHasPins wsX1_lastLaneHasPins ⟨1, 0, 0, 21⟩ [.ref q_t] D cI cC [(q_t, .inr (1, [.int v_t_pins, .int v_t_lanes, .ref q_t_kinds, .ref q_t_laneOf, .ref q_t_firsts, .ref q_t_lengths, .int v_t_ball, .int v_t_law, .int v_t_standing, .int v_t_struck, .ref q_t_seen])), (q_t_lengths, .inl (cI, 3, .inl r_t_lengths))] sz (fun A => (QI D cI cC A [(q_t, .inr (1, [.int v_t_pins, .int v_t_lanes, .ref q_t_kinds, .ref q_t_laneOf, .ref q_t_firsts, .ref q_t_lengths, .int v_t_ball, .int v_t_law, .int v_t_standing, .int v_t_struck, .ref q_t_seen])), (q_t_lengths, .inl (cI, 3, .inl r_t_lengths))] z0)) := by
  suffices h : ∀ wE : va_W, wE = [(q_t, .inr (1, [.int v_t_pins, .int v_t_lanes, .ref q_t_kinds, .ref q_t_laneOf, .ref q_t_firsts, .ref q_t_lengths, .int v_t_ball, .int v_t_law, .int v_t_standing, .int v_t_struck, .ref q_t_seen])), (q_t_lengths, .inl (cI, 3, .inl r_t_lengths))] → Ct l yX1_lastLaneHasPins wsX1_lastLaneHasPins ⟨1, 0, 0, 21⟩ [.ref q_t] D cI cC [(q_t, .inr (1, [.int v_t_pins, .int v_t_lanes, .ref q_t_kinds, .ref q_t_laneOf, .ref q_t_firsts, .ref q_t_lengths, .int v_t_ball, .int v_t_law, .int v_t_standing, .int v_t_struck, .ref q_t_seen])), (q_t_lengths, .inl (cI, 3, .inl r_t_lengths))] sz (fun A => (QI D cI cC A wE z0)) from h _ rfl
  intro wE hwE
  rw [f_X1_lastLaneHasPins] at hf
  refine Ct.beg cX1_lastLaneHasPins 1 (some .boolean) [(0, .ref q_t)] RX1 (by decide) rfl rfl (Nat.le_of_ble_eq_true rfl) rfl (fun p e s m below meth c A hx hb hr hts hown hlk hml hnm hK hP hD hS hA hG ls hl => ?_)
  refine lv_aload_n hx hb dX1_lastLaneHasPins_0 rfl (lv_at hl 0 rfl) ?_
  refine lv_aload_n hx hb dX1_lastLaneHasPins_1 rfl (lv_at hl 0 rfl) ?_
  refine va_get (D := D) (ci := 1) (v := .int v_t_lanes) (C := RX1) (T := TX1) (N := 11) hx hb hts in_X1_lastLaneHasPins_1 hown hK hP 0 rfl rfl 1 (by decide) (hts (.fieldLink RX1 35 "PinLanes$Green" "lanes" "I") (by decide +kernel)) (fun _ h9 => h9) rfl dX1_lastLaneHasPins_2 ?_
  refine lv_iconst (v := (1 : Int32)) hx hb dX1_lastLaneHasPins_5 (by decide) ?_
  refine lv_isub hx hb dX1_lastLaneHasPins_6 ?_
  obtain ⟨a1, hra1, hf⟩ := ob1_e hf
  refine callVi (As := [.int (v_t_lanes - (1 : Int32))]) (rest := []) (wn := [(q_t, .inr (1, [.int v_t_pins, .int v_t_lanes, .ref q_t_kinds, .ref q_t_laneOf, .ref q_t_firsts, .ref q_t_lengths, .int v_t_ball, .int v_t_law, .int v_t_standing, .int v_t_struck, .ref q_t_seen])), (q_t_lengths, .inl (cI, 3, .inl r_t_lengths))]) (q0 := 0) (ci := 1) ⟨hx, hb, hml, hown, hts⟩ (c_X1_hasLane l D cI cC N _ q_t q_t_kinds q_t_laneOf q_t_firsts q_t_lengths q_t_seen v_t_pins v_t_lanes v_t_ball v_t_law v_t_standing v_t_struck (v_t_lanes - (1 : Int32)) a1 hra1) (cwV 1 hts gX1_lastLaneHasPins_X1_hasLane rfl rfl rfl (by decide +kernel) ⟨Nat.le_of_ble_eq_true rfl, Nat.le_of_ble_eq_true rfl⟩) hK hP hD hS hA hG (Cut.mk [0] [1] [1, 0] [(q_t_lengths, .inl (cI, 3, .inl r_t_lengths))] rfl rfl rfl rfl (by decide) rfl rfl) rfl rfl rfl rfl hl.1 rfl (Nat.le_of_ble_eq_true rfl) ⟨Nat.zero_le _, Nat.zero_le _⟩ dX1_lastLaneHasPins_7 (fun H locs hP hD hS => ?_)
  refine lv_if_eq (tgt := 31) hx hb dX1_lastLaneHasPins_10 (by decide) (fun c2 => ?_) (fun c2 => ?_)
  · have hf := ip c2 hf
    refine lv_iconst (v := (0 : Int32)) hx hb dX1_lastLaneHasPins_31 (by decide) ?_
    have e1_ := Option.some.inj hf
    exact endZ hx hb hr rfl hlk hK (by rw [hwE]; exact hP) (by rw [hwE]; exact hD) hS e1_ dX1_lastLaneHasPins_32
  · have hf := iq c2 hf
    refine lv_aload_n hx hb dX1_lastLaneHasPins_13 rfl (lv_at hl 0 rfl) ?_
    refine va_get (D := D) (ci := 1) (v := .ref q_t_lengths) (C := RX1) (T := TX1) (N := 11) hx hb hts in_X1_lastLaneHasPins_1 hown hK hP 0 rfl rfl 5 (by decide) (hts (.fieldLink RX1 21 "PinLanes$Green" "lengths" "[I") (by decide +kernel)) (fun _ h9 => h9) rfl dX1_lastLaneHasPins_14 ?_
    refine lv_aload_n hx hb dX1_lastLaneHasPins_17 rfl (lv_at hl 0 rfl) ?_
    refine va_get (D := D) (ci := 1) (v := .int v_t_lanes) (C := RX1) (T := TX1) (N := 11) hx hb hts in_X1_lastLaneHasPins_1 hown hK hP 0 rfl rfl 1 (by decide) (hts (.fieldLink RX1 35 "PinLanes$Green" "lanes" "I") (by decide +kernel)) (fun _ h9 => h9) rfl dX1_lastLaneHasPins_18 ?_
    refine lv_iconst (v := (1 : Int32)) hx hb dX1_lastLaneHasPins_21 (by decide) ?_
    refine lv_isub hx hb dX1_lastLaneHasPins_22 ?_
    obtain ⟨b3, hf⟩ := gd_e hf
    refine va_iald hx hb hK hP 1 0 rfl rfl (inb_in b3) dX1_lastLaneHasPins_23 ?_
    refine lv_if_le (tgt := 31) hx hb dX1_lastLaneHasPins_24 (by decide) (fun c4 => ?_) (fun c4 => ?_)
    · have hf := ip c4 hf
      refine lv_iconst (v := (0 : Int32)) hx hb dX1_lastLaneHasPins_31 (by decide) ?_
      have e1_ := Option.some.inj hf
      exact endZ hx hb hr rfl hlk hK (by rw [hwE]; exact hP) (by rw [hwE]; exact hD) hS e1_ dX1_lastLaneHasPins_32
    · have hf := iq c4 hf
      refine lv_iconst (v := (1 : Int32)) hx hb dX1_lastLaneHasPins_27 (by decide) ?_
      refine lv_goto (tgt := 32) hx hb dX1_lastLaneHasPins_28 (by decide) ?_
      have e1_ := Option.some.inj hf
      exact endZ hx hb hr rfl hlk hK (by rw [hwE]; exact hP) (by rw [hwE]; exact hD) hS e1_ dX1_lastLaneHasPins_32
-- X1_setAllUp
set_option maxRecDepth 20000 in
theorem in_X1_setAllUp_1 : ∀ w ∈ wsX10, w ∈ wsX1_setAllUp := by decide +kernel
set_option maxHeartbeats 4000000 in
set_option maxRecDepth 100000 in
theorem c_X1_setAllUp (l : Launch) (D : va_G) (cI cC : ClassId) (N sz : Nat) (q_t q_t_kinds q_t_laneOf q_t_firsts q_t_lengths q_t_seen : Nat) (v_t_pins : Int32) (v_t_lanes : Int32) (v_t_ball : Int32) (v_t_law : Int32) (v_t_standing : Int32) (v_t_struck : Int32) (z_v_t_standing : Int32) (hf : f_X1_setAllUp N v_t_pins = some (z_v_t_standing)) : Ct l yX1_setAllUp wsX1_setAllUp ⟨0, 0, 0, 0⟩ [.ref q_t] D cI cC [(q_t, .inr (1, [.int v_t_pins, .int v_t_lanes, .ref q_t_kinds, .ref q_t_laneOf, .ref q_t_firsts, .ref q_t_lengths, .int v_t_ball, .int v_t_law, .int v_t_standing, .int v_t_struck, .ref q_t_seen]))] sz (fun A => (QV D cI cC A [(q_t, .inr (1, [.int v_t_pins, .int v_t_lanes, .ref q_t_kinds, .ref q_t_laneOf, .ref q_t_firsts, .ref q_t_lengths, .int v_t_ball, .int v_t_law, .int z_v_t_standing, .int v_t_struck, .ref q_t_seen]))])) := by
  suffices h : ∀ wE : va_W, wE = [(q_t, .inr (1, [.int v_t_pins, .int v_t_lanes, .ref q_t_kinds, .ref q_t_laneOf, .ref q_t_firsts, .ref q_t_lengths, .int v_t_ball, .int v_t_law, .int z_v_t_standing, .int v_t_struck, .ref q_t_seen]))] → Ct l yX1_setAllUp wsX1_setAllUp ⟨0, 0, 0, 0⟩ [.ref q_t] D cI cC [(q_t, .inr (1, [.int v_t_pins, .int v_t_lanes, .ref q_t_kinds, .ref q_t_laneOf, .ref q_t_firsts, .ref q_t_lengths, .int v_t_ball, .int v_t_law, .int v_t_standing, .int v_t_struck, .ref q_t_seen]))] sz (fun A => (QV D cI cC A wE)) from h _ rfl
  intro wE hwE
  rw [f_X1_setAllUp] at hf
  refine Ct.beg cX1_setAllUp 1 none [(0, .ref q_t)] RX1 (by decide) rfl rfl (Nat.le_of_ble_eq_true rfl) rfl (fun p e s m below meth c A hx hb hr hts hown hlk hml hnm hK hP hD hS hA hG ls hl => ?_)
  refine lv_aload_n hx hb dX1_setAllUp_0 rfl (lv_at hl 0 rfl) ?_
  refine lv_iconst (v := (1 : Int32)) hx hb dX1_setAllUp_1 (by decide) ?_
  refine lv_aload_n hx hb dX1_setAllUp_2 rfl (lv_at hl 0 rfl) ?_
  refine va_get (D := D) (ci := 1) (v := .int v_t_pins) (C := RX1) (T := TX1) (N := 11) hx hb hts in_X1_setAllUp_1 hown hK hP 0 rfl rfl 0 (by decide) (hts (.fieldLink RX1 31 "PinLanes$Green" "pins" "I") (by decide +kernel)) (fun _ h9 => h9) rfl dX1_setAllUp_3 ?_
  refine lv_ishl hx hb dX1_setAllUp_6 ?_
  refine lv_iconst (v := (1 : Int32)) hx hb dX1_setAllUp_7 (by decide) ?_
  refine lv_isub hx hb dX1_setAllUp_8 ?_
  refine va_put (D := D) (ci := 1) (v := .int (((1 : Int32) <<< (v_t_pins &&& 31)) - (1 : Int32))) (ty := .int) (C := RX1) (T := TX1) (N := 11) hx hb hts in_X1_setAllUp_1 tyX1 tyX1_ok nmX1 hown hK hP hD hS 0 rfl rfl 8 (by decide) (hts (.fieldLink RX1 50 "PinLanes$Green" "standing" "I") (by decide +kernel)) (fun _ h9 => h9) rfl (by decide +kernel) rfl rfl (Nat.le_of_ble_eq_true rfl) dX1_setAllUp_9 (fun H locs hP hD hS => ?_)
  have hP : va_P D vwCl [(q_t, .inr (1, [.int v_t_pins, .int v_t_lanes, .ref q_t_kinds, .ref q_t_laneOf, .ref q_t_firsts, .ref q_t_lengths, .int v_t_ball, .int v_t_law, .int (((1 : Int32) <<< (v_t_pins &&& 31)) - (1 : Int32)), .int v_t_struck, .ref q_t_seen]))] H := hP
  have hD : va_D A [(q_t, .inr (1, [.int v_t_pins, .int v_t_lanes, .ref q_t_kinds, .ref q_t_laneOf, .ref q_t_firsts, .ref q_t_lengths, .int v_t_ball, .int v_t_law, .int (((1 : Int32) <<< (v_t_pins &&& 31)) - (1 : Int32)), .int v_t_struck, .ref q_t_seen]))] := hD
  have e1_ := Option.some.inj hf
  exact endV hx hb hr hlk hK (by rw [hwE, ← e1_]; exact hP) (by rw [hwE, ← e1_]; exact hD) hS dX1_setAllUp_12
-- X7_bits
set_option maxHeartbeats 4000000 in
set_option maxRecDepth 100000 in
theorem c_X7_bits (l : Launch) (D : va_G) (cI cC : ClassId) (N sz : Nat) (x0 : Int32) (x1 : Int32) (z0 : Int32) (hf : f_X7_bits N x0 x1 = some (z0)) : Ct l yX7_bits wsX7_bits ⟨0, 0, 0, 0⟩ [.int x0, .int x1] D cI cC [] sz (fun A => (QI D cI cC A [] z0)) := by
  suffices h : ∀ wE : va_W, wE = [] → Ct l yX7_bits wsX7_bits ⟨0, 0, 0, 0⟩ [.int x0, .int x1] D cI cC [] sz (fun A => (QI D cI cC A wE z0)) from h _ rfl
  intro wE hwE
  rw [f_X7_bits] at hf
  refine Ct.beg cX7_bits 2 (some .int) [(0, .int x0), (1, .int x1)] RX7 (by decide) rfl rfl (Nat.le_of_ble_eq_true rfl) rfl (fun p e s m below meth c A hx hb hr hts hown hlk hml hnm hK hP hD hS hA hG ls hl => ?_)
  refine lv_iconst (v := (1 : Int32)) hx hb dX7_bits_0 (by decide) ?_
  refine lv_iload_n hx hb dX7_bits_1 rfl (lv_at hl 1 rfl) ?_
  refine lv_ishl hx hb dX7_bits_2 ?_
  refine lv_iconst (v := (1 : Int32)) hx hb dX7_bits_3 (by decide) ?_
  refine lv_isub hx hb dX7_bits_4 ?_
  refine lv_iload_n hx hb dX7_bits_5 rfl (lv_at hl 0 rfl) ?_
  refine lv_ishl hx hb dX7_bits_6 ?_
  have e1_ := Option.some.inj hf
  exact endI hx hb hr hlk hK (by rw [hwE]; exact hP) (by rw [hwE]; exact hD) hS e1_ dX7_bits_7
-- X1_standingIn
set_option maxRecDepth 20000 in
theorem in_X1_standingIn_1 : ∀ w ∈ wsX10, w ∈ wsX1_standingIn := by decide +kernel
set_option maxHeartbeats 4000000 in
set_option maxRecDepth 100000 in
theorem c_X1_standingIn (l : Launch) (D : va_G) (cI cC : ClassId) (N sz : Nat) (q_t q_t_kinds q_t_laneOf q_t_firsts q_t_lengths q_t_seen : Nat) (v_t_pins : Int32) (v_t_lanes : Int32) (v_t_ball : Int32) (v_t_law : Int32) (v_t_standing : Int32) (v_t_struck : Int32) (r_t_firsts : Nat → Int32) (r_t_lengths : Nat → Int32) (x1 : Int32) (z0 : Int32) (hf : f_X1_standingIn N v_t_standing r_t_firsts r_t_lengths x1 = some (z0)) : Ct l yX1_standingIn wsX1_standingIn ⟨1, 0, 0, 21⟩ [.ref q_t, .int x1] D cI cC [(q_t, .inr (1, [.int v_t_pins, .int v_t_lanes, .ref q_t_kinds, .ref q_t_laneOf, .ref q_t_firsts, .ref q_t_lengths, .int v_t_ball, .int v_t_law, .int v_t_standing, .int v_t_struck, .ref q_t_seen])), (q_t_firsts, .inl (cI, 3, .inl r_t_firsts)), (q_t_lengths, .inl (cI, 3, .inl r_t_lengths))] sz (fun A => (QI D cI cC A [(q_t, .inr (1, [.int v_t_pins, .int v_t_lanes, .ref q_t_kinds, .ref q_t_laneOf, .ref q_t_firsts, .ref q_t_lengths, .int v_t_ball, .int v_t_law, .int v_t_standing, .int v_t_struck, .ref q_t_seen])), (q_t_firsts, .inl (cI, 3, .inl r_t_firsts)), (q_t_lengths, .inl (cI, 3, .inl r_t_lengths))] z0)) := by
  suffices h : ∀ wE : va_W, wE = [(q_t, .inr (1, [.int v_t_pins, .int v_t_lanes, .ref q_t_kinds, .ref q_t_laneOf, .ref q_t_firsts, .ref q_t_lengths, .int v_t_ball, .int v_t_law, .int v_t_standing, .int v_t_struck, .ref q_t_seen])), (q_t_firsts, .inl (cI, 3, .inl r_t_firsts)), (q_t_lengths, .inl (cI, 3, .inl r_t_lengths))] → Ct l yX1_standingIn wsX1_standingIn ⟨1, 0, 0, 21⟩ [.ref q_t, .int x1] D cI cC [(q_t, .inr (1, [.int v_t_pins, .int v_t_lanes, .ref q_t_kinds, .ref q_t_laneOf, .ref q_t_firsts, .ref q_t_lengths, .int v_t_ball, .int v_t_law, .int v_t_standing, .int v_t_struck, .ref q_t_seen])), (q_t_firsts, .inl (cI, 3, .inl r_t_firsts)), (q_t_lengths, .inl (cI, 3, .inl r_t_lengths))] sz (fun A => (QI D cI cC A wE z0)) from h _ rfl
  intro wE hwE
  rw [f_X1_standingIn] at hf
  refine Ct.beg cX1_standingIn 2 (some .int) [(0, .ref q_t), (1, .int x1)] RX1 (by decide) rfl rfl (Nat.le_of_ble_eq_true rfl) rfl (fun p e s m below meth c A hx hb hr hts hown hlk hml hnm hK hP hD hS hA hG ls hl => ?_)
  refine lv_aload_n hx hb dX1_standingIn_0 rfl (lv_at hl 0 rfl) ?_
  refine va_get (D := D) (ci := 1) (v := .int v_t_standing) (C := RX1) (T := TX1) (N := 11) hx hb hts in_X1_standingIn_1 hown hK hP 0 rfl rfl 8 (by decide) (hts (.fieldLink RX1 50 "PinLanes$Green" "standing" "I") (by decide +kernel)) (fun _ h9 => h9) rfl dX1_standingIn_1 ?_
  refine lv_aload_n hx hb dX1_standingIn_4 rfl (lv_at hl 0 rfl) ?_
  refine va_get (D := D) (ci := 1) (v := .ref q_t_firsts) (C := RX1) (T := TX1) (N := 11) hx hb hts in_X1_standingIn_1 hown hK hP 0 rfl rfl 4 (by decide) (hts (.fieldLink RX1 18 "PinLanes$Green" "firsts" "[I") (by decide +kernel)) (fun _ h9 => h9) rfl dX1_standingIn_5 ?_
  refine lv_iload_n hx hb dX1_standingIn_8 rfl (lv_at hl 1 rfl) ?_
  obtain ⟨b1, hf⟩ := gd_e hf
  refine va_iald hx hb hK hP 1 0 rfl rfl (inb_in b1) dX1_standingIn_9 ?_
  refine lv_aload_n hx hb dX1_standingIn_10 rfl (lv_at hl 0 rfl) ?_
  refine va_get (D := D) (ci := 1) (v := .ref q_t_lengths) (C := RX1) (T := TX1) (N := 11) hx hb hts in_X1_standingIn_1 hown hK hP 0 rfl rfl 5 (by decide) (hts (.fieldLink RX1 21 "PinLanes$Green" "lengths" "[I") (by decide +kernel)) (fun _ h9 => h9) rfl dX1_standingIn_11 ?_
  refine lv_iload_n hx hb dX1_standingIn_14 rfl (lv_at hl 1 rfl) ?_
  obtain ⟨b2, hf⟩ := gd_e hf
  refine va_iald hx hb hK hP 2 0 rfl rfl (inb_in b2) dX1_standingIn_15 ?_
  obtain ⟨a3, hra3, hf⟩ := ob1_e hf
  refine callNi (As := [.int (r_t_firsts x1.toNatClampNeg), .int (r_t_lengths x1.toNatClampNeg)]) (rest := [.int v_t_standing]) (wn := [(q_t, .inr (1, [.int v_t_pins, .int v_t_lanes, .ref q_t_kinds, .ref q_t_laneOf, .ref q_t_firsts, .ref q_t_lengths, .int v_t_ball, .int v_t_law, .int v_t_standing, .int v_t_struck, .ref q_t_seen])), (q_t_firsts, .inl (cI, 3, .inl r_t_firsts)), (q_t_lengths, .inl (cI, 3, .inl r_t_lengths))]) ⟨hx, hb, hml, hown, hts⟩ (c_X7_bits l D cI cC N _ (r_t_firsts x1.toNatClampNeg) (r_t_lengths x1.toNatClampNeg) a3 hra3) ⟨va_cnB 2 hts gX1_standingIn_X7_bits_n60 rfl rfl rfl (hG.1 (.methodLinkNest "PinLanes$Green" 60 yX7_bits "PinLanes") (by decide +kernel)) (hts (.initialized RX7) (by decide +kernel)) (by decide +kernel) ⟨Nat.le_of_ble_eq_true rfl, Nat.le_of_ble_eq_true rfl⟩, hts (.static yX7_bits) (by decide +kernel), trivial⟩ hK hP hD hS hA hG (Cut.mk [] [0, 1, 2] [0, 1, 2] [(q_t, .inr (1, [.int v_t_pins, .int v_t_lanes, .ref q_t_kinds, .ref q_t_laneOf, .ref q_t_firsts, .ref q_t_lengths, .int v_t_ball, .int v_t_law, .int v_t_standing, .int v_t_struck, .ref q_t_seen])), (q_t_firsts, .inl (cI, 3, .inl r_t_firsts)), (q_t_lengths, .inl (cI, 3, .inl r_t_lengths))] rfl rfl rfl rfl (by decide) rfl rfl) rfl hl.1 rfl (Nat.le_of_ble_eq_true rfl) ⟨Nat.zero_le _, Nat.zero_le _⟩ dX1_standingIn_16 (fun H locs hP hD hS => ?_)
  refine lv_iand hx hb dX1_standingIn_19 ?_
  have e1_ := Option.some.inj hf
  exact endI hx hb hr hlk hK (by rw [hwE]; exact hP) (by rw [hwE]; exact hD) hS e1_ dX1_standingIn_20
-- X7_isAlso
set_option maxHeartbeats 4000000 in
set_option maxRecDepth 100000 in
theorem c_X7_isAlso (l : Launch) (D : va_G) (cI cC : ClassId) (N sz : Nat) (x0 : Int32) (x1 : Int32) (z0 : Int32) (hf : f_X7_isAlso N x0 x1 = some (z0)) : Ct l yX7_isAlso wsX7_isAlso ⟨0, 0, 0, 0⟩ [.int x0, .int x1] D cI cC [] sz (fun A => (QI D cI cC A [] z0)) := by
  suffices h : ∀ wE : va_W, wE = [] → Ct l yX7_isAlso wsX7_isAlso ⟨0, 0, 0, 0⟩ [.int x0, .int x1] D cI cC [] sz (fun A => (QI D cI cC A wE z0)) from h _ rfl
  intro wE hwE
  rw [f_X7_isAlso] at hf
  refine Ct.beg cX7_isAlso 2 (some .boolean) [(0, .int x0), (1, .int x1)] RX7 (by decide) rfl rfl (Nat.le_of_ble_eq_true rfl) rfl (fun p e s m below meth c A hx hb hr hts hown hlk hml hnm hK hP hD hS hA hG ls hl => ?_)
  refine lv_iload_n hx hb dX7_isAlso_0 rfl (lv_at hl 1 rfl) ?_
  refine lv_if_eq (tgt := 19) hx hb dX7_isAlso_1 (by decide) (fun c1 => ?_) (fun c1 => ?_)
  · have hf := ip c1 hf
    refine lv_iconst (v := (1 : Int32)) hx hb dX7_isAlso_19 (by decide) ?_
    refine lv_goto (tgt := 24) hx hb dX7_isAlso_20 (by decide) ?_
    have e1_ := Option.some.inj hf
    exact endZ hx hb hr rfl hlk hK (by rw [hwE]; exact hP) (by rw [hwE]; exact hD) hS e1_ dX7_isAlso_24
  · have hf := iq c1 hf
    refine lv_iload_n hx hb dX7_isAlso_4 rfl (lv_at hl 0 rfl) ?_
    refine lv_iload_n hx hb dX7_isAlso_5 rfl (lv_at hl 1 rfl) ?_
    refine lv_icmp_eq (tgt := 19) hx hb dX7_isAlso_6 (by decide) (fun c2 => ?_) (fun c2 => ?_)
    · have hf := ip c2 hf
      refine lv_iconst (v := (1 : Int32)) hx hb dX7_isAlso_19 (by decide) ?_
      refine lv_goto (tgt := 24) hx hb dX7_isAlso_20 (by decide) ?_
      have e1_ := Option.some.inj hf
      exact endZ hx hb hr rfl hlk hK (by rw [hwE]; exact hP) (by rw [hwE]; exact hD) hS e1_ dX7_isAlso_24
    · have hf := iq c2 hf
      refine lv_iload_n hx hb dX7_isAlso_9 rfl (lv_at hl 0 rfl) ?_
      refine lv_iconst (v := (4 : Int32)) hx hb dX7_isAlso_10 (by decide) ?_
      refine lv_icmp_ne (tgt := 23) hx hb dX7_isAlso_11 (by decide) (fun c3 => ?_) (fun c3 => ?_)
      · have hf := iq c3 hf
        refine lv_iconst (v := (0 : Int32)) hx hb dX7_isAlso_23 (by decide) ?_
        have e1_ := Option.some.inj hf
        exact endZ hx hb hr rfl hlk hK (by rw [hwE]; exact hP) (by rw [hwE]; exact hD) hS e1_ dX7_isAlso_24
      · have hf := ip c3 hf
        refine lv_iload_n hx hb dX7_isAlso_14 rfl (lv_at hl 1 rfl) ?_
        refine lv_iconst (v := (1 : Int32)) hx hb dX7_isAlso_15 (by decide) ?_
        refine lv_icmp_ne (tgt := 23) hx hb dX7_isAlso_16 (by decide) (fun c4 => ?_) (fun c4 => ?_)
        · have hf := iq c4 hf
          refine lv_iconst (v := (0 : Int32)) hx hb dX7_isAlso_23 (by decide) ?_
          have e1_ := Option.some.inj hf
          exact endZ hx hb hr rfl hlk hK (by rw [hwE]; exact hP) (by rw [hwE]; exact hD) hS e1_ dX7_isAlso_24
        · have hf := ip c4 hf
          refine lv_iconst (v := (1 : Int32)) hx hb dX7_isAlso_19 (by decide) ?_
          refine lv_goto (tgt := 24) hx hb dX7_isAlso_20 (by decide) ?_
          have e1_ := Option.some.inj hf
          exact endZ hx hb hr rfl hlk hK (by rw [hwE]; exact hP) (by rw [hwE]; exact hD) hS e1_ dX7_isAlso_24
-- X1_takesAlong
set_option maxRecDepth 20000 in
theorem in_X1_takesAlong_1 : ∀ w ∈ wsX10, w ∈ wsX1_takesAlong := by decide +kernel
set_option maxHeartbeats 4000000 in
set_option maxRecDepth 100000 in
theorem c_X1_takesAlong (l : Launch) (D : va_G) (cI cC : ClassId) (N sz : Nat) (q_t q_t_kinds q_t_laneOf q_t_firsts q_t_lengths q_t_seen : Nat) (v_t_pins : Int32) (v_t_lanes : Int32) (v_t_ball : Int32) (v_t_law : Int32) (v_t_standing : Int32) (v_t_struck : Int32) (r_t_laneOf : Nat → Int32) (r_t_kinds : Nat → Int32) (x1 : Int32) (x2 : Int32) (z0 : Int32) (hf : f_X1_takesAlong N v_t_pins r_t_laneOf r_t_kinds x1 x2 = some (z0)) : Ct l yX1_takesAlong wsX1_takesAlong ⟨1, 0, 0, 21⟩ [.ref q_t, .int x1, .int x2] D cI cC [(q_t, .inr (1, [.int v_t_pins, .int v_t_lanes, .ref q_t_kinds, .ref q_t_laneOf, .ref q_t_firsts, .ref q_t_lengths, .int v_t_ball, .int v_t_law, .int v_t_standing, .int v_t_struck, .ref q_t_seen])), (q_t_laneOf, .inl (cI, 9, .inl r_t_laneOf)), (q_t_kinds, .inl (cI, 9, .inl r_t_kinds))] sz (fun A => (QI D cI cC A [(q_t, .inr (1, [.int v_t_pins, .int v_t_lanes, .ref q_t_kinds, .ref q_t_laneOf, .ref q_t_firsts, .ref q_t_lengths, .int v_t_ball, .int v_t_law, .int v_t_standing, .int v_t_struck, .ref q_t_seen])), (q_t_laneOf, .inl (cI, 9, .inl r_t_laneOf)), (q_t_kinds, .inl (cI, 9, .inl r_t_kinds))] z0)) := by
  suffices h : ∀ wE : va_W, wE = [(q_t, .inr (1, [.int v_t_pins, .int v_t_lanes, .ref q_t_kinds, .ref q_t_laneOf, .ref q_t_firsts, .ref q_t_lengths, .int v_t_ball, .int v_t_law, .int v_t_standing, .int v_t_struck, .ref q_t_seen])), (q_t_laneOf, .inl (cI, 9, .inl r_t_laneOf)), (q_t_kinds, .inl (cI, 9, .inl r_t_kinds))] → Ct l yX1_takesAlong wsX1_takesAlong ⟨1, 0, 0, 21⟩ [.ref q_t, .int x1, .int x2] D cI cC [(q_t, .inr (1, [.int v_t_pins, .int v_t_lanes, .ref q_t_kinds, .ref q_t_laneOf, .ref q_t_firsts, .ref q_t_lengths, .int v_t_ball, .int v_t_law, .int v_t_standing, .int v_t_struck, .ref q_t_seen])), (q_t_laneOf, .inl (cI, 9, .inl r_t_laneOf)), (q_t_kinds, .inl (cI, 9, .inl r_t_kinds))] sz (fun A => (QI D cI cC A wE z0)) from h _ rfl
  intro wE hwE
  rw [f_X1_takesAlong] at hf
  refine Ct.beg cX1_takesAlong 4 (some .boolean) [(0, .ref q_t), (1, .int x1), (2, .int x2)] RX1 (by decide) rfl rfl (Nat.le_of_ble_eq_true rfl) rfl (fun p e s m below meth c A hx hb hr hts hown hlk hml hnm hK hP hD hS hA hG ls hl => ?_)
  refine lv_aload_n hx hb dX1_takesAlong_0 rfl (lv_at hl 0 rfl) ?_
  refine lv_iload_n hx hb dX1_takesAlong_1 rfl (lv_at hl 1 rfl) ?_
  obtain ⟨a1, hra1, hf⟩ := ob1_e hf
  refine callVi (As := [.int x1]) (rest := []) (wn := [(q_t, .inr (1, [.int v_t_pins, .int v_t_lanes, .ref q_t_kinds, .ref q_t_laneOf, .ref q_t_firsts, .ref q_t_lengths, .int v_t_ball, .int v_t_law, .int v_t_standing, .int v_t_struck, .ref q_t_seen])), (q_t_laneOf, .inl (cI, 9, .inl r_t_laneOf)), (q_t_kinds, .inl (cI, 9, .inl r_t_kinds))]) (q0 := 0) (ci := 1) ⟨hx, hb, hml, hown, hts⟩ (c_X1_hasPin l D cI cC N _ q_t q_t_kinds q_t_laneOf q_t_firsts q_t_lengths q_t_seen v_t_pins v_t_lanes v_t_ball v_t_law v_t_standing v_t_struck x1 a1 hra1) (cwV 1 hts gX1_takesAlong_X1_hasPin rfl rfl rfl (by decide +kernel) ⟨Nat.le_of_ble_eq_true rfl, Nat.le_of_ble_eq_true rfl⟩) hK hP hD hS hA hG (Cut.mk [0] [1, 2] [2, 0, 1] [(q_t_laneOf, .inl (cI, 9, .inl r_t_laneOf)), (q_t_kinds, .inl (cI, 9, .inl r_t_kinds))] rfl rfl rfl rfl (by decide) rfl rfl) rfl rfl rfl rfl hl.1 rfl (Nat.le_of_ble_eq_true rfl) ⟨Nat.zero_le _, Nat.zero_le _⟩ dX1_takesAlong_2 (fun H locs hP hD hS => ?_)
  refine lv_if_eq (tgt := 31) hx hb dX1_takesAlong_5 (by decide) (fun c2 => ?_) (fun c2 => ?_)
  · have hf := ip c2 hf
    refine lv_iconst (v := (0 : Int32)) hx hb dX1_takesAlong_31 (by decide) ?_
    have e1_ := Option.some.inj hf
    exact endZ hx hb hr rfl hlk hK (by rw [hwE]; exact hP) (by rw [hwE]; exact hD) hS e1_ dX1_takesAlong_32
  · have hf := iq c2 hf
    refine lv_aload_n hx hb dX1_takesAlong_8 rfl (lv_at hl 0 rfl) ?_
    refine lv_iload_n hx hb dX1_takesAlong_9 rfl (lv_at hl 2 rfl) ?_
    obtain ⟨a3, hra3, hf⟩ := ob1_e hf
    refine callVi (As := [.int x2]) (rest := []) (wn := [(q_t, .inr (1, [.int v_t_pins, .int v_t_lanes, .ref q_t_kinds, .ref q_t_laneOf, .ref q_t_firsts, .ref q_t_lengths, .int v_t_ball, .int v_t_law, .int v_t_standing, .int v_t_struck, .ref q_t_seen])), (q_t_laneOf, .inl (cI, 9, .inl r_t_laneOf)), (q_t_kinds, .inl (cI, 9, .inl r_t_kinds))]) (q0 := 0) (ci := 1) ⟨hx, hb, hml, hown, hts⟩ (c_X1_hasPin l D cI cC N _ q_t q_t_kinds q_t_laneOf q_t_firsts q_t_lengths q_t_seen v_t_pins v_t_lanes v_t_ball v_t_law v_t_standing v_t_struck x2 a3 hra3) (cwV 1 hts gX1_takesAlong_X1_hasPin rfl rfl rfl (by decide +kernel) ⟨Nat.le_of_ble_eq_true rfl, Nat.le_of_ble_eq_true rfl⟩) hK hP hD hS hA hG (Cut.mk [0] [1, 2] [2, 0, 1] [(q_t_laneOf, .inl (cI, 9, .inl r_t_laneOf)), (q_t_kinds, .inl (cI, 9, .inl r_t_kinds))] rfl rfl rfl rfl (by decide) rfl rfl) rfl rfl rfl rfl hl.1 rfl (Nat.le_of_ble_eq_true rfl) ⟨Nat.zero_le _, Nat.zero_le _⟩ dX1_takesAlong_10 (fun H locs hP hD hS => ?_)
    refine lv_if_eq (tgt := 31) hx hb dX1_takesAlong_13 (by decide) (fun c4 => ?_) (fun c4 => ?_)
    · have hf := ip c4 hf
      refine lv_iconst (v := (0 : Int32)) hx hb dX1_takesAlong_31 (by decide) ?_
      have e1_ := Option.some.inj hf
      exact endZ hx hb hr rfl hlk hK (by rw [hwE]; exact hP) (by rw [hwE]; exact hD) hS e1_ dX1_takesAlong_32
    · have hf := iq c4 hf
      refine lv_aload_n hx hb dX1_takesAlong_16 rfl (lv_at hl 0 rfl) ?_
      refine va_get (D := D) (ci := 1) (v := .ref q_t_laneOf) (C := RX1) (T := TX1) (N := 11) hx hb hts in_X1_takesAlong_1 hown hK hP 0 rfl rfl 3 (by decide) (hts (.fieldLink RX1 15 "PinLanes$Green" "laneOf" "[I") (by decide +kernel)) (fun _ h9 => h9) rfl dX1_takesAlong_17 ?_
      refine lv_iload_n hx hb dX1_takesAlong_20 rfl (lv_at hl 1 rfl) ?_
      obtain ⟨b5, hf⟩ := gd_e hf
      refine va_iald hx hb hK hP 1 0 rfl rfl (inb_in b5) dX1_takesAlong_21 ?_
      refine lv_aload_n hx hb dX1_takesAlong_22 rfl (lv_at hl 0 rfl) ?_
      refine va_get (D := D) (ci := 1) (v := .ref q_t_laneOf) (C := RX1) (T := TX1) (N := 11) hx hb hts in_X1_takesAlong_1 hown hK hP 0 rfl rfl 3 (by decide) (hts (.fieldLink RX1 15 "PinLanes$Green" "laneOf" "[I") (by decide +kernel)) (fun _ h9 => h9) rfl dX1_takesAlong_23 ?_
      refine lv_iload_n hx hb dX1_takesAlong_26 rfl (lv_at hl 2 rfl) ?_
      obtain ⟨b6, hf⟩ := gd_e hf
      refine va_iald hx hb hK hP 1 0 rfl rfl (inb_in b6) dX1_takesAlong_27 ?_
      refine lv_icmp_eq (tgt := 33) hx hb dX1_takesAlong_28 (by decide) (fun c7 => ?_) (fun c7 => ?_)
      · have hf := ip c7 hf
        refine lv_aload_n hx hb dX1_takesAlong_33 rfl (lv_at hl 0 rfl) ?_
        refine va_get (D := D) (ci := 1) (v := .ref q_t_kinds) (C := RX1) (T := TX1) (N := 11) hx hb hts in_X1_takesAlong_1 hown hK hP 0 rfl rfl 2 (by decide) (hts (.fieldLink RX1 9 "PinLanes$Green" "kinds" "[I") (by decide +kernel)) (fun _ h9 => h9) rfl dX1_takesAlong_34 ?_
        refine lv_iload_n hx hb dX1_takesAlong_37 rfl (lv_at hl 1 rfl) ?_
        obtain ⟨b8, hf⟩ := gd_e hf
        refine va_iald hx hb hK hP 2 0 rfl rfl (inb_in b8) dX1_takesAlong_38 ?_
        refine lv_iload_n hx hb dX1_takesAlong_39 rfl (lv_at hl 2 rfl) ?_
        refine lv_iload_n hx hb dX1_takesAlong_40 rfl (lv_at hl 1 rfl) ?_
        obtain ⟨j10, ej10, hf⟩ := jm_e hf
        have hj10 : ∀ (y9 : Int32) (H : Heap) (locs : List Loc) (ls : Array Slot), va_P D vwCl [(q_t, .inr (1, [.int v_t_pins, .int v_t_lanes, .ref q_t_kinds, .ref q_t_laneOf, .ref q_t_firsts, .ref q_t_lengths, .int v_t_ball, .int v_t_law, .int v_t_standing, .int v_t_struck, .ref q_t_seen])), (q_t_laneOf, .inl (cI, 9, .inl r_t_laneOf)), (q_t_kinds, .inl (cI, 9, .inl r_t_kinds))] H → va_D A [(q_t, .inr (1, [.int v_t_pins, .int v_t_lanes, .ref q_t_kinds, .ref q_t_laneOf, .ref q_t_firsts, .ref q_t_lengths, .int v_t_ball, .int v_t_law, .int v_t_standing, .int v_t_struck, .ref q_t_seen])), (q_t_laneOf, .inl (cI, 9, .inl r_t_laneOf)), (q_t_kinds, .inl (cI, 9, .inl r_t_kinds))] → va_S A s.heap H locs → lv_has ls 4 [(0, .ref q_t), (2, .int x2)] → j10 y9 = some (z0) → W p l e ⟨1, 0, 0, 21⟩ s m ([.ref q_t, .int x1, .int x2] : List Value).toArray below meth c H locs 0 0 (MQ below (QI D cI cC A wE z0) ([.ref q_t, .int x1, .int x2] : List Value).toArray s 0 0 A) (F0 m 49 ls [.int y9, .int (r_t_kinds x1.toNatClampNeg)]) := by
          intro y9 H locs ls hP hD hS hl hf
          rw [ej10] at hf
          obtain ⟨a11, hra11, hf⟩ := ob1_e hf
          refine callNi (As := [.int (r_t_kinds x1.toNatClampNeg), .int y9]) (rest := []) (wn := [(q_t, .inr (1, [.int v_t_pins, .int v_t_lanes, .ref q_t_kinds, .ref q_t_laneOf, .ref q_t_firsts, .ref q_t_lengths, .int v_t_ball, .int v_t_law, .int v_t_standing, .int v_t_struck, .ref q_t_seen])), (q_t_laneOf, .inl (cI, 9, .inl r_t_laneOf)), (q_t_kinds, .inl (cI, 9, .inl r_t_kinds))]) ⟨hx, hb, hml, hown, hts⟩ (c_X7_isAlso l D cI cC N _ (r_t_kinds x1.toNatClampNeg) y9 a11 hra11) ⟨va_cnB 2 hts gX1_takesAlong_X7_isAlso_n71 rfl rfl rfl (hG.1 (.methodLinkNest "PinLanes$Green" 71 yX7_isAlso "PinLanes") (by decide +kernel)) (hts (.initialized RX7) (by decide +kernel)) (by decide +kernel) ⟨Nat.le_of_ble_eq_true rfl, Nat.le_of_ble_eq_true rfl⟩, hts (.static yX7_isAlso) (by decide +kernel), trivial⟩ hK hP hD hS hA hG (Cut.mk [] [0, 1, 2] [0, 1, 2] [(q_t, .inr (1, [.int v_t_pins, .int v_t_lanes, .ref q_t_kinds, .ref q_t_laneOf, .ref q_t_firsts, .ref q_t_lengths, .int v_t_ball, .int v_t_law, .int v_t_standing, .int v_t_struck, .ref q_t_seen])), (q_t_laneOf, .inl (cI, 9, .inl r_t_laneOf)), (q_t_kinds, .inl (cI, 9, .inl r_t_kinds))] rfl rfl rfl rfl (by decide) rfl rfl) rfl hl.1 rfl (Nat.le_of_ble_eq_true rfl) ⟨Nat.zero_le _, Nat.zero_le _⟩ dX1_takesAlong_49 (fun H locs hP hD hS => ?_)
          refine lv_istore_n (lv' := [(3, .int a11), (0, .ref q_t), (2, .int x2)]) hx hb dX1_takesAlong_52 rfl hl (by decide) rfl (fun ls hl => ?_)
          refine lv_iload_n hx hb dX1_takesAlong_53 rfl (lv_at hl 0 rfl) ?_
          refine lv_if_eq (tgt := 81) hx hb dX1_takesAlong_54 (by decide) (fun c12 => ?_) (fun c12 => ?_)
          · have hf := ip c12 hf
            refine lv_iconst (v := (0 : Int32)) hx hb dX1_takesAlong_81 (by decide) ?_
            have e1_ := Option.some.inj hf
            exact endZ hx hb hr rfl hlk hK (by rw [hwE]; exact hP) (by rw [hwE]; exact hD) hS e1_ dX1_takesAlong_82
          · have hf := iq c12 hf
            refine lv_aload_n hx hb dX1_takesAlong_57 rfl (lv_at hl 1 rfl) ?_
            refine va_get (D := D) (ci := 1) (v := .ref q_t_kinds) (C := RX1) (T := TX1) (N := 11) hx hb hts in_X1_takesAlong_1 hown hK hP 0 rfl rfl 2 (by decide) (hts (.fieldLink RX1 9 "PinLanes$Green" "kinds" "[I") (by decide +kernel)) (fun _ h9 => h9) rfl dX1_takesAlong_58 ?_
            refine lv_iload_n hx hb dX1_takesAlong_61 rfl (lv_at hl 2 rfl) ?_
            obtain ⟨b13, hf⟩ := gd_e hf
            refine va_iald hx hb hK hP 2 0 rfl rfl (inb_in b13) dX1_takesAlong_62 ?_
            refine lv_iconst (v := (2 : Int32)) hx hb dX1_takesAlong_63 (by decide) ?_
            refine lv_icmp_eq (tgt := 81) hx hb dX1_takesAlong_64 (by decide) (fun c14 => ?_) (fun c14 => ?_)
            · have hf := ip c14 hf
              refine lv_iconst (v := (0 : Int32)) hx hb dX1_takesAlong_81 (by decide) ?_
              have e1_ := Option.some.inj hf
              exact endZ hx hb hr rfl hlk hK (by rw [hwE]; exact hP) (by rw [hwE]; exact hD) hS e1_ dX1_takesAlong_82
            · have hf := iq c14 hf
              refine lv_aload_n hx hb dX1_takesAlong_67 rfl (lv_at hl 1 rfl) ?_
              refine va_get (D := D) (ci := 1) (v := .ref q_t_kinds) (C := RX1) (T := TX1) (N := 11) hx hb hts in_X1_takesAlong_1 hown hK hP 0 rfl rfl 2 (by decide) (hts (.fieldLink RX1 9 "PinLanes$Green" "kinds" "[I") (by decide +kernel)) (fun _ h9 => h9) rfl dX1_takesAlong_68 ?_
              refine lv_iload_n hx hb dX1_takesAlong_71 rfl (lv_at hl 2 rfl) ?_
              obtain ⟨b15, hf⟩ := gd_e hf
              refine va_iald hx hb hK hP 2 0 rfl rfl (inb_in b15) dX1_takesAlong_72 ?_
              refine lv_iconst (v := (3 : Int32)) hx hb dX1_takesAlong_73 (by decide) ?_
              refine lv_icmp_eq (tgt := 81) hx hb dX1_takesAlong_74 (by decide) (fun c16 => ?_) (fun c16 => ?_)
              · have hf := ip c16 hf
                refine lv_iconst (v := (0 : Int32)) hx hb dX1_takesAlong_81 (by decide) ?_
                have e1_ := Option.some.inj hf
                exact endZ hx hb hr rfl hlk hK (by rw [hwE]; exact hP) (by rw [hwE]; exact hD) hS e1_ dX1_takesAlong_82
              · have hf := iq c16 hf
                refine lv_iconst (v := (1 : Int32)) hx hb dX1_takesAlong_77 (by decide) ?_
                refine lv_goto (tgt := 82) hx hb dX1_takesAlong_78 (by decide) ?_
                have e1_ := Option.some.inj hf
                exact endZ hx hb hr rfl hlk hK (by rw [hwE]; exact hP) (by rw [hwE]; exact hD) hS e1_ dX1_takesAlong_82
        refine lv_icmp_le (tgt := 48) hx hb dX1_takesAlong_41 (by decide) (fun c17 => ?_) (fun c17 => ?_)
        · have hf := ip c17 hf
          refine lv_iconst (v := (4 : Int32)) hx hb dX1_takesAlong_48 (by decide) ?_
          exact hj10 (4 : Int32) _ _ _ hP hD hS (lv_sub hl [0, 2] rfl) hf
        · have hf := iq c17 hf
          refine lv_iconst (v := (1 : Int32)) hx hb dX1_takesAlong_44 (by decide) ?_
          refine lv_goto (tgt := 49) hx hb dX1_takesAlong_45 (by decide) ?_
          exact hj10 (1 : Int32) _ _ _ hP hD hS (lv_sub hl [0, 2] rfl) hf
      · have hf := iq c7 hf
        refine lv_iconst (v := (0 : Int32)) hx hb dX1_takesAlong_31 (by decide) ?_
        have e1_ := Option.some.inj hf
        exact endZ hx hb hr rfl hlk hK (by rw [hwE]; exact hP) (by rw [hwE]; exact hD) hS e1_ dX1_takesAlong_32
-- X7_leastNotIn
set_option maxHeartbeats 4000000 in
set_option maxRecDepth 100000 in
theorem c_X7_leastNotIn (l : Launch) (D : va_G) (cI cC : ClassId) (N sz : Nat) (x0 : Int64) (z0 : Int32) (hf : f_X7_leastNotIn N x0 = some (z0)) : Ct l yX7_leastNotIn wsX7_leastNotIn ⟨0, 0, 0, 0⟩ [.long x0] D cI cC [] sz (fun A => (QI D cI cC A [] z0)) := by
  suffices h : ∀ wE : va_W, wE = [] → Ct l yX7_leastNotIn wsX7_leastNotIn ⟨0, 0, 0, 0⟩ [.long x0] D cI cC [] sz (fun A => (QI D cI cC A wE z0)) from h _ rfl
  intro wE hwE
  rw [f_X7_leastNotIn] at hf
  refine Ct.beg cX7_leastNotIn 3 (some .int) [(0, .long x0)] RX7 (by decide) rfl rfl (Nat.le_of_ble_eq_true rfl) rfl (fun p e s m below meth c A hx hb hr hts hown hlk hml hnm hK hP hD hS hA hG ls hl => ?_)
  refine lv_iconst (v := (0 : Int32)) hx hb dX7_leastNotIn_0 (by decide) ?_
  refine lv_istore_n (lv' := [(2, .int (0 : Int32)), (0, .long x0)]) hx hb dX7_leastNotIn_1 rfl hl (by decide) rfl (fun ls hl => ?_)
  have hL1 : ∀ (n : Nat) (y2 : Int32) (H : Heap) (locs : List Loc) (ls : Array Slot), va_P D vwCl [] H → va_D A [] → va_S A s.heap H locs → lv_has ls 3 [(0, .long x0), (2, .int y2)] → f_X7_leastNotIn_L2 N x0 n y2 = some (z0) → W p l e ⟨0, 0, 0, 0⟩ s m ([.long x0] : List Value).toArray below meth c H locs 0 0 (MQ below (QI D cI cC A wE z0) ([.long x0] : List Value).toArray s 0 0 A) (F0 m 2 ls []) := by
    intro n
    induction n with
    | zero => intro y2 H locs ls hP hD hS hl hf; rw [f_X7_leastNotIn_L2] at hf; cases hf
    | succ n ih =>
      intro y2 H locs ls hP hD hS hl hf
      rw [f_X7_leastNotIn_L2] at hf
      refine lv_iload_n hx hb dX7_leastNotIn_2 rfl (lv_at hl 1 rfl) ?_
      refine lv_bipush (v := (63 : Int32)) hx hb dX7_leastNotIn_3 (by decide) ?_
      refine lv_icmp_ge (tgt := 24) hx hb dX7_leastNotIn_5 (by decide) (fun c3 => ?_) (fun c3 => ?_)
      · have hf := ip c3 hf
        refine lv_iload_n hx hb dX7_leastNotIn_24 rfl (lv_at hl 1 rfl) ?_
        have e1_ := Option.some.inj hf
        exact endI hx hb hr hlk hK (by rw [hwE]; exact hP) (by rw [hwE]; exact hD) hS e1_ dX7_leastNotIn_25
      · have hf := iq c3 hf
        refine lv_lload_n hx hb dX7_leastNotIn_8 rfl (lv_at hl 0 rfl) ?_
        refine lv_iload_n hx hb dX7_leastNotIn_9 rfl (lv_at hl 1 rfl) ?_
        refine lv_lshr hx hb dX7_leastNotIn_10 rfl ?_
        refine lv_lconst (v := (1 : Int64)) hx hb dX7_leastNotIn_11 (by decide) ?_
        refine lv_land hx hb dX7_leastNotIn_12 ?_
        refine lv_lconst (v := (1 : Int64)) hx hb dX7_leastNotIn_13 (by decide) ?_
        refine W.lcmp hx hb dX7_leastNotIn_14 ?_
        refine lv_if_ne (tgt := 24) hx hb dX7_leastNotIn_15 (by decide) (fun c4 => ?_) (fun c4 => ?_)
        · have hf := iq c4 hf
          refine lv_iload_n hx hb dX7_leastNotIn_24 rfl (lv_at hl 1 rfl) ?_
          have e1_ := Option.some.inj hf
          exact endI hx hb hr hlk hK (by rw [hwE]; exact hP) (by rw [hwE]; exact hD) hS e1_ dX7_leastNotIn_25
        · have hf := ip c4 hf
          refine lv_iinc (v := y2 + (1 : Int32)) (lv' := [(2, .int (y2 + (1 : Int32))), (0, .long x0)]) hx hb dX7_leastNotIn_18 hl (k := 1) rfl rfl (by decide) rfl (fun ls hl => ?_)
          refine lv_goto (tgt := 2) hx hb dX7_leastNotIn_21 (by decide) ?_
          exact ih (y2 + (1 : Int32)) _ _ _ hP hD hS (lv_sub hl [1, 0] rfl) hf
  exact hL1 N (0 : Int32) _ _ _ hP hD hS (lv_sub hl [1, 0] rfl) hf
