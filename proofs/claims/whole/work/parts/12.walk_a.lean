-- X2_weigh
set_option maxRecDepth 20000 in
theorem in_X2_weigh_2 : ∀ w ∈ wsX20, w ∈ wsX2_weigh := by decide +kernel
set_option maxRecDepth 20000 in
theorem in_X2_weigh_6 : ∀ w ∈ wsX60, w ∈ wsX2_weigh := by decide +kernel
set_option maxHeartbeats 4000000 in
set_option maxRecDepth 100000 in
theorem c_X2_weigh (l : Launch) (D : va_G) (cI cC : ClassId) (N sz : Nat) (q_t q_t_numbers q_t_wins q_t_fewest q_t_most q_t_likely q_o1 q_o1_firsts q_o1_counts q_o1_taken : Nat) (v_o1_size : Int32) (v_o1_takesRight : Int32) (v_o1_takesLeft : Int32) (r_o1_taken : Nat → Int32) (r_o1_firsts : Nat → Int32) (r_o1_counts : Nat → Int32) (r_t_numbers : Nat → Int32) (r_t_wins : Nat → Int32) (r_t_fewest : Nat → Int32) (r_t_most : Nat → Int32) (r_t_likely : Nat → Int32) (x2 : Int32) (x3 : Int32) (z_r_t_numbers : Nat → Int32) (z_r_t_wins : Nat → Int32) (z_r_t_fewest : Nat → Int32) (z_r_t_most : Nat → Int32) (z_r_t_likely : Nat → Int32) (hf : f_X2_weigh N v_o1_size v_o1_takesRight v_o1_takesLeft r_o1_taken r_o1_firsts r_o1_counts r_t_numbers r_t_wins r_t_fewest r_t_most r_t_likely x2 x3 = some (z_r_t_numbers, z_r_t_wins, z_r_t_fewest, z_r_t_most, z_r_t_likely)) : Ct l yX2_weigh wsX2_weigh ⟨1, 0, 0, 25⟩ [.ref q_t, .ref q_o1, .int x2, .int x3] D cI cC [(q_t, .inr (2, [.ref q_t_numbers, .ref q_t_wins, .ref q_t_fewest, .ref q_t_most, .ref q_t_likely])), (q_o1, .inr (6, [.int v_o1_size, .ref q_o1_firsts, .ref q_o1_counts, .ref q_o1_taken, .int v_o1_takesRight, .int v_o1_takesLeft])), (q_o1_taken, .inl (cI, 27, .inl r_o1_taken)), (q_o1_firsts, .inl (cI, 27, .inl r_o1_firsts)), (q_o1_counts, .inl (cI, 27, .inl r_o1_counts)), (q_t_numbers, .inl (cI, 512, .inl r_t_numbers)), (q_t_wins, .inl (cI, 512, .inl r_t_wins)), (q_t_fewest, .inl (cI, 512, .inl r_t_fewest)), (q_t_most, .inl (cI, 512, .inl r_t_most)), (q_t_likely, .inl (cI, 512, .inl r_t_likely))] sz (fun A => (QV D cI cC A [(q_t, .inr (2, [.ref q_t_numbers, .ref q_t_wins, .ref q_t_fewest, .ref q_t_most, .ref q_t_likely])), (q_o1, .inr (6, [.int v_o1_size, .ref q_o1_firsts, .ref q_o1_counts, .ref q_o1_taken, .int v_o1_takesRight, .int v_o1_takesLeft])), (q_o1_taken, .inl (cI, 27, .inl r_o1_taken)), (q_o1_firsts, .inl (cI, 27, .inl r_o1_firsts)), (q_o1_counts, .inl (cI, 27, .inl r_o1_counts)), (q_t_numbers, .inl (cI, 512, .inl z_r_t_numbers)), (q_t_wins, .inl (cI, 512, .inl z_r_t_wins)), (q_t_fewest, .inl (cI, 512, .inl z_r_t_fewest)), (q_t_most, .inl (cI, 512, .inl z_r_t_most)), (q_t_likely, .inl (cI, 512, .inl z_r_t_likely))])) := by
  suffices h : ∀ wE : va_W, wE = [(q_t, .inr (2, [.ref q_t_numbers, .ref q_t_wins, .ref q_t_fewest, .ref q_t_most, .ref q_t_likely])), (q_o1, .inr (6, [.int v_o1_size, .ref q_o1_firsts, .ref q_o1_counts, .ref q_o1_taken, .int v_o1_takesRight, .int v_o1_takesLeft])), (q_o1_taken, .inl (cI, 27, .inl r_o1_taken)), (q_o1_firsts, .inl (cI, 27, .inl r_o1_firsts)), (q_o1_counts, .inl (cI, 27, .inl r_o1_counts)), (q_t_numbers, .inl (cI, 512, .inl z_r_t_numbers)), (q_t_wins, .inl (cI, 512, .inl z_r_t_wins)), (q_t_fewest, .inl (cI, 512, .inl z_r_t_fewest)), (q_t_most, .inl (cI, 512, .inl z_r_t_most)), (q_t_likely, .inl (cI, 512, .inl z_r_t_likely))] → Ct l yX2_weigh wsX2_weigh ⟨1, 0, 0, 25⟩ [.ref q_t, .ref q_o1, .int x2, .int x3] D cI cC [(q_t, .inr (2, [.ref q_t_numbers, .ref q_t_wins, .ref q_t_fewest, .ref q_t_most, .ref q_t_likely])), (q_o1, .inr (6, [.int v_o1_size, .ref q_o1_firsts, .ref q_o1_counts, .ref q_o1_taken, .int v_o1_takesRight, .int v_o1_takesLeft])), (q_o1_taken, .inl (cI, 27, .inl r_o1_taken)), (q_o1_firsts, .inl (cI, 27, .inl r_o1_firsts)), (q_o1_counts, .inl (cI, 27, .inl r_o1_counts)), (q_t_numbers, .inl (cI, 512, .inl r_t_numbers)), (q_t_wins, .inl (cI, 512, .inl r_t_wins)), (q_t_fewest, .inl (cI, 512, .inl r_t_fewest)), (q_t_most, .inl (cI, 512, .inl r_t_most)), (q_t_likely, .inl (cI, 512, .inl r_t_likely))] sz (fun A => (QV D cI cC A wE)) from h _ rfl
  intro wE hwE
  rw [f_X2_weigh] at hf
  refine Ct.beg cX2_weigh 14 none [(0, .ref q_t), (1, .ref q_o1), (2, .int x2), (3, .int x3)] RX2 (by decide) rfl rfl (Nat.le_of_ble_eq_true rfl) rfl (fun p e s m below meth c A hx hb hr hts hown hlk hml hnm hK hP hD hS hA hG ls hl => ?_)
  refine lv_iconst (v := (0 : Int32)) hx hb dX2_weigh_0 (by decide) ?_
  refine lv_istore (lv' := [(4, .int (0 : Int32)), (0, .ref q_t), (1, .ref q_o1), (2, .int x2), (3, .int x3)]) hx hb dX2_weigh_1 hl (by decide) rfl (fun ls hl => ?_)
  refine lv_lconst (v := (0 : Int64)) hx hb dX2_weigh_3 (by decide) ?_
  refine lv_lstore (lv' := [(5, .long (0 : Int64)), (4, .int (0 : Int32)), (0, .ref q_t), (1, .ref q_o1), (2, .int x2), (3, .int x3)]) hx hb dX2_weigh_4 hl (by decide) rfl (fun ls hl => ?_)
  refine lv_iconst (v := (0 : Int32)) hx hb dX2_weigh_6 (by decide) ?_
  refine lv_istore (lv' := [(7, .int (0 : Int32)), (5, .long (0 : Int64)), (4, .int (0 : Int32)), (0, .ref q_t), (1, .ref q_o1), (2, .int x2), (3, .int x3)]) hx hb dX2_weigh_7 hl (by decide) rfl (fun ls hl => ?_)
  refine lv_bipush (v := (9 : Int32)) hx hb dX2_weigh_9 (by decide) ?_
  refine lv_istore (lv' := [(8, .int (9 : Int32)), (7, .int (0 : Int32)), (5, .long (0 : Int64)), (4, .int (0 : Int32)), (0, .ref q_t), (1, .ref q_o1), (2, .int x2), (3, .int x3)]) hx hb dX2_weigh_11 hl (by decide) rfl (fun ls hl => ?_)
  refine lv_iconst (v := (0 : Int32)) hx hb dX2_weigh_13 (by decide) ?_
  refine lv_istore (lv' := [(9, .int (0 : Int32)), (8, .int (9 : Int32)), (7, .int (0 : Int32)), (5, .long (0 : Int64)), (4, .int (0 : Int32)), (0, .ref q_t), (1, .ref q_o1), (2, .int x2), (3, .int x3)]) hx hb dX2_weigh_14 hl (by decide) rfl (fun ls hl => ?_)
  refine lv_iconst (v := (0 : Int32)) hx hb dX2_weigh_16 (by decide) ?_
  refine lv_istore (lv' := [(10, .int (0 : Int32)), (9, .int (0 : Int32)), (8, .int (9 : Int32)), (7, .int (0 : Int32)), (5, .long (0 : Int64)), (4, .int (0 : Int32)), (0, .ref q_t), (1, .ref q_o1), (2, .int x2), (3, .int x3)]) hx hb dX2_weigh_17 hl (by decide) rfl (fun ls hl => ?_)
  refine lv_iconst (v := (0 : Int32)) hx hb dX2_weigh_19 (by decide) ?_
  refine lv_istore (lv' := [(11, .int (0 : Int32)), (10, .int (0 : Int32)), (9, .int (0 : Int32)), (8, .int (9 : Int32)), (7, .int (0 : Int32)), (5, .long (0 : Int64)), (4, .int (0 : Int32)), (0, .ref q_t), (1, .ref q_o1), (2, .int x2), (3, .int x3)]) hx hb dX2_weigh_20 hl (by decide) rfl (fun ls hl => ?_)
  have hL1 : ∀ (kk9 : Int32 → Int64 → Int32 → Int32 → Int32 → Int32 → Option ((Nat → Int32) × (Nat → Int32) × (Nat → Int32) × (Nat → Int32) × (Nat → Int32))), (∀ (y10 : Int32) (y11 : Int64) (y12 : Int32) (y13 : Int32) (y14 : Int32) (y15 : Int32) (H : Heap) (locs : List Loc) (ls : Array Slot), va_P D vwCl [(q_t, .inr (2, [.ref q_t_numbers, .ref q_t_wins, .ref q_t_fewest, .ref q_t_most, .ref q_t_likely])), (q_o1, .inr (6, [.int v_o1_size, .ref q_o1_firsts, .ref q_o1_counts, .ref q_o1_taken, .int v_o1_takesRight, .int v_o1_takesLeft])), (q_o1_taken, .inl (cI, 27, .inl r_o1_taken)), (q_o1_firsts, .inl (cI, 27, .inl r_o1_firsts)), (q_o1_counts, .inl (cI, 27, .inl r_o1_counts)), (q_t_numbers, .inl (cI, 512, .inl r_t_numbers)), (q_t_wins, .inl (cI, 512, .inl r_t_wins)), (q_t_fewest, .inl (cI, 512, .inl r_t_fewest)), (q_t_most, .inl (cI, 512, .inl r_t_most)), (q_t_likely, .inl (cI, 512, .inl r_t_likely))] H → va_D A [(q_t, .inr (2, [.ref q_t_numbers, .ref q_t_wins, .ref q_t_fewest, .ref q_t_most, .ref q_t_likely])), (q_o1, .inr (6, [.int v_o1_size, .ref q_o1_firsts, .ref q_o1_counts, .ref q_o1_taken, .int v_o1_takesRight, .int v_o1_takesLeft])), (q_o1_taken, .inl (cI, 27, .inl r_o1_taken)), (q_o1_firsts, .inl (cI, 27, .inl r_o1_firsts)), (q_o1_counts, .inl (cI, 27, .inl r_o1_counts)), (q_t_numbers, .inl (cI, 512, .inl r_t_numbers)), (q_t_wins, .inl (cI, 512, .inl r_t_wins)), (q_t_fewest, .inl (cI, 512, .inl r_t_fewest)), (q_t_most, .inl (cI, 512, .inl r_t_most)), (q_t_likely, .inl (cI, 512, .inl r_t_likely))] → va_S A s.heap H locs → lv_has ls 14 [(0, .ref q_t), (2, .int x2), (3, .int x3), (4, .int y10), (5, .long y11), (7, .int y12), (8, .int y13), (9, .int y14), (10, .int y15)] → kk9 y10 y11 y12 y13 y14 y15 = some (z_r_t_numbers, z_r_t_wins, z_r_t_fewest, z_r_t_most, z_r_t_likely) → W p l e ⟨1, 0, 0, 25⟩ s m ([.ref q_t, .ref q_o1, .int x2, .int x3] : List Value).toArray below meth c H locs 0 0 (MQ below (QV D cI cC A wE) ([.ref q_t, .ref q_o1, .int x2, .int x3] : List Value).toArray s 0 0 A) (F0 m 137 ls [])) → ∀ (n : Nat) (y2 : Int32) (y3 : Int64) (y4 : Int32) (y5 : Int32) (y6 : Int32) (y7 : Int32) (y8 : Int32) (H : Heap) (locs : List Loc) (ls : Array Slot), va_P D vwCl [(q_t, .inr (2, [.ref q_t_numbers, .ref q_t_wins, .ref q_t_fewest, .ref q_t_most, .ref q_t_likely])), (q_o1, .inr (6, [.int v_o1_size, .ref q_o1_firsts, .ref q_o1_counts, .ref q_o1_taken, .int v_o1_takesRight, .int v_o1_takesLeft])), (q_o1_taken, .inl (cI, 27, .inl r_o1_taken)), (q_o1_firsts, .inl (cI, 27, .inl r_o1_firsts)), (q_o1_counts, .inl (cI, 27, .inl r_o1_counts)), (q_t_numbers, .inl (cI, 512, .inl r_t_numbers)), (q_t_wins, .inl (cI, 512, .inl r_t_wins)), (q_t_fewest, .inl (cI, 512, .inl r_t_fewest)), (q_t_most, .inl (cI, 512, .inl r_t_most)), (q_t_likely, .inl (cI, 512, .inl r_t_likely))] H → va_D A [(q_t, .inr (2, [.ref q_t_numbers, .ref q_t_wins, .ref q_t_fewest, .ref q_t_most, .ref q_t_likely])), (q_o1, .inr (6, [.int v_o1_size, .ref q_o1_firsts, .ref q_o1_counts, .ref q_o1_taken, .int v_o1_takesRight, .int v_o1_takesLeft])), (q_o1_taken, .inl (cI, 27, .inl r_o1_taken)), (q_o1_firsts, .inl (cI, 27, .inl r_o1_firsts)), (q_o1_counts, .inl (cI, 27, .inl r_o1_counts)), (q_t_numbers, .inl (cI, 512, .inl r_t_numbers)), (q_t_wins, .inl (cI, 512, .inl r_t_wins)), (q_t_fewest, .inl (cI, 512, .inl r_t_fewest)), (q_t_most, .inl (cI, 512, .inl r_t_most)), (q_t_likely, .inl (cI, 512, .inl r_t_likely))] → va_S A s.heap H locs → lv_has ls 14 [(0, .ref q_t), (1, .ref q_o1), (2, .int x2), (3, .int x3), (4, .int y2), (5, .long y3), (7, .int y4), (8, .int y5), (9, .int y6), (10, .int y7), (11, .int y8)] → f_X2_weigh_L22 N x2 v_o1_size v_o1_takesRight v_o1_takesLeft r_o1_taken r_o1_firsts r_o1_counts r_t_numbers r_t_wins r_t_fewest r_t_most r_t_likely kk9 n y2 y3 y4 y5 y6 y7 y8 = some (z_r_t_numbers, z_r_t_wins, z_r_t_fewest, z_r_t_most, z_r_t_likely) → W p l e ⟨1, 0, 0, 25⟩ s m ([.ref q_t, .ref q_o1, .int x2, .int x3] : List Value).toArray below meth c H locs 0 0 (MQ below (QV D cI cC A wE) ([.ref q_t, .ref q_o1, .int x2, .int x3] : List Value).toArray s 0 0 A) (F0 m 22 ls []) := by
    intro kk9 hk16 n
    induction n with
    | zero => intro y2 y3 y4 y5 y6 y7 y8 H locs ls hP hD hS hl hf; rw [f_X2_weigh_L22] at hf; cases hf
    | succ n ih =>
      intro y2 y3 y4 y5 y6 y7 y8 H locs ls hP hD hS hl hf
      rw [f_X2_weigh_L22] at hf
      refine lv_iload hx hb dX2_weigh_22 (lv_at hl 10 rfl) ?_
      refine lv_aload_n hx hb dX2_weigh_24 rfl (lv_at hl 1 rfl) ?_
      refine va_get (D := D) (ci := 6) (v := .int v_o1_size) (C := RX6) (T := TX6) (N := 6) hx hb hts in_X2_weigh_6 hown hK hP 1 rfl rfl 0 (by decide) (hts (.fieldLink RX2 37 "PinLanes$Strikes" "size" "I") (by decide +kernel)) (fun _ h9 => h9) rfl dX2_weigh_25 ?_
      refine lv_icmp_ge (tgt := 137) hx hb dX2_weigh_28 (by decide) (fun c17 => ?_) (fun c17 => ?_)
      · have hf := ip c17 hf
        exact hk16 y2 y3 y4 y5 y6 y7 _ _ _ hP hD hS (lv_sub hl [0, 2, 3, 4, 5, 6, 7, 8, 9] rfl) hf
      · have hf := iq c17 hf
        refine lv_aload_n hx hb dX2_weigh_31 rfl (lv_at hl 1 rfl) ?_
        refine lv_iload hx hb dX2_weigh_32 (lv_at hl 10 rfl) ?_
        refine lv_iload_n hx hb dX2_weigh_34 rfl (lv_at hl 2 rfl) ?_
        obtain ⟨a18, hra18, hf⟩ := ob1_e hf
        refine callVi (As := [.int y8, .int x2]) (rest := []) (wn := [(q_t, .inr (2, [.ref q_t_numbers, .ref q_t_wins, .ref q_t_fewest, .ref q_t_most, .ref q_t_likely])), (q_o1, .inr (6, [.int v_o1_size, .ref q_o1_firsts, .ref q_o1_counts, .ref q_o1_taken, .int v_o1_takesRight, .int v_o1_takesLeft])), (q_o1_taken, .inl (cI, 27, .inl r_o1_taken)), (q_o1_firsts, .inl (cI, 27, .inl r_o1_firsts)), (q_o1_counts, .inl (cI, 27, .inl r_o1_counts)), (q_t_numbers, .inl (cI, 512, .inl r_t_numbers)), (q_t_wins, .inl (cI, 512, .inl r_t_wins)), (q_t_fewest, .inl (cI, 512, .inl r_t_fewest)), (q_t_most, .inl (cI, 512, .inl r_t_most)), (q_t_likely, .inl (cI, 512, .inl r_t_likely))]) (q0 := 0) (ci := 6) ⟨hx, hb, hml, hown, hts⟩ (c_X6_fallen l D cI cC N _ q_o1 q_o1_firsts q_o1_counts q_o1_taken v_o1_size v_o1_takesRight v_o1_takesLeft r_o1_taken r_o1_firsts r_o1_counts y8 x2 a18 hra18) (cwV 2 hts gX2_weigh_X6_fallen rfl rfl rfl (by decide +kernel) ⟨Nat.le_of_ble_eq_true rfl, Nat.le_of_ble_eq_true rfl⟩) hK hP hD hS hA hG (Cut.mk [1, 2, 3, 4] [0, 5, 6, 7, 8, 9] [0, 6, 7, 8, 9, 1, 2, 3, 4, 5] [(q_t, .inr (2, [.ref q_t_numbers, .ref q_t_wins, .ref q_t_fewest, .ref q_t_most, .ref q_t_likely])), (q_t_numbers, .inl (cI, 512, .inl r_t_numbers)), (q_t_wins, .inl (cI, 512, .inl r_t_wins)), (q_t_fewest, .inl (cI, 512, .inl r_t_fewest)), (q_t_most, .inl (cI, 512, .inl r_t_most)), (q_t_likely, .inl (cI, 512, .inl r_t_likely))] rfl rfl rfl rfl (by decide) rfl rfl) rfl rfl rfl rfl hl.1 rfl (Nat.le_of_ble_eq_true rfl) ⟨Nat.zero_le _, Nat.zero_le _⟩ dX2_weigh_35 (fun H locs hP hD hS => ?_)
        refine lv_istore (lv' := [(12, .int a18), (0, .ref q_t), (1, .ref q_o1), (2, .int x2), (3, .int x3), (4, .int y2), (5, .long y3), (7, .int y4), (8, .int y5), (9, .int y6), (10, .int y7), (11, .int y8)]) hx hb dX2_weigh_38 hl (by decide) rfl (fun ls hl => ?_)
        refine lv_iload hx hb dX2_weigh_40 (lv_at hl 0 rfl) ?_
        obtain ⟨j25, ej25, hf⟩ := jm_e hf
        have hj25 : ∀ (y19 : Int32) (y20 : Int64) (y21 : Int32) (y22 : Int32) (y23 : Int32) (y24 : Int32) (H : Heap) (locs : List Loc) (ls : Array Slot), va_P D vwCl [(q_t, .inr (2, [.ref q_t_numbers, .ref q_t_wins, .ref q_t_fewest, .ref q_t_most, .ref q_t_likely])), (q_o1, .inr (6, [.int v_o1_size, .ref q_o1_firsts, .ref q_o1_counts, .ref q_o1_taken, .int v_o1_takesRight, .int v_o1_takesLeft])), (q_o1_taken, .inl (cI, 27, .inl r_o1_taken)), (q_o1_firsts, .inl (cI, 27, .inl r_o1_firsts)), (q_o1_counts, .inl (cI, 27, .inl r_o1_counts)), (q_t_numbers, .inl (cI, 512, .inl r_t_numbers)), (q_t_wins, .inl (cI, 512, .inl r_t_wins)), (q_t_fewest, .inl (cI, 512, .inl r_t_fewest)), (q_t_most, .inl (cI, 512, .inl r_t_most)), (q_t_likely, .inl (cI, 512, .inl r_t_likely))] H → va_D A [(q_t, .inr (2, [.ref q_t_numbers, .ref q_t_wins, .ref q_t_fewest, .ref q_t_most, .ref q_t_likely])), (q_o1, .inr (6, [.int v_o1_size, .ref q_o1_firsts, .ref q_o1_counts, .ref q_o1_taken, .int v_o1_takesRight, .int v_o1_takesLeft])), (q_o1_taken, .inl (cI, 27, .inl r_o1_taken)), (q_o1_firsts, .inl (cI, 27, .inl r_o1_firsts)), (q_o1_counts, .inl (cI, 27, .inl r_o1_counts)), (q_t_numbers, .inl (cI, 512, .inl r_t_numbers)), (q_t_wins, .inl (cI, 512, .inl r_t_wins)), (q_t_fewest, .inl (cI, 512, .inl r_t_fewest)), (q_t_most, .inl (cI, 512, .inl r_t_most)), (q_t_likely, .inl (cI, 512, .inl r_t_likely))] → va_S A s.heap H locs → lv_has ls 14 [(0, .ref q_t), (1, .ref q_o1), (2, .int x2), (3, .int x3), (4, .int y19), (5, .long y20), (7, .int y21), (8, .int y22), (9, .int y23), (10, .int y24), (11, .int y8)] → j25 y19 y20 y21 y22 y23 y24 = some (z_r_t_numbers, z_r_t_wins, z_r_t_fewest, z_r_t_most, z_r_t_likely) → W p l e ⟨1, 0, 0, 25⟩ s m ([.ref q_t, .ref q_o1, .int x2, .int x3] : List Value).toArray below meth c H locs 0 0 (MQ below (QV D cI cC A wE) ([.ref q_t, .ref q_o1, .int x2, .int x3] : List Value).toArray s 0 0 A) (F0 m 131 ls []) := by
          intro y19 y20 y21 y22 y23 y24 H locs ls hP hD hS hl hf
          rw [ej25] at hf
          refine lv_iinc (v := y8 + (1 : Int32)) (lv' := [(11, .int (y8 + (1 : Int32))), (0, .ref q_t), (1, .ref q_o1), (2, .int x2), (3, .int x3), (4, .int y19), (5, .long y20), (7, .int y21), (8, .int y22), (9, .int y23), (10, .int y24)]) hx hb dX2_weigh_131 hl (k := 10) rfl rfl (by decide) rfl (fun ls hl => ?_)
          refine lv_goto (tgt := 22) hx hb dX2_weigh_134 (by decide) ?_
          exact ih y19 y20 y21 y22 y23 y24 (y8 + (1 : Int32)) _ _ _ hP hD hS (lv_sub hl [1, 2, 3, 4, 5, 6, 7, 8, 9, 10, 0] rfl) hf
        refine lv_if_eq (tgt := 131) hx hb dX2_weigh_42 (by decide) (fun c26 => ?_) (fun c26 => ?_)
        · have hf := ip c26 hf
          exact hj25 y2 y3 y4 y5 y6 y7 _ _ _ hP hD hS (lv_sub hl [1, 2, 3, 4, 5, 6, 7, 8, 9, 10, 11] rfl) hf
        · have hf := iq c26 hf
          refine lv_iload_n hx hb dX2_weigh_45 rfl (lv_at hl 3 rfl) ?_
          refine lv_iload hx hb dX2_weigh_46 (lv_at hl 0 rfl) ?_
          refine lv_iconst (v := (-1 : Int32)) hx hb dX2_weigh_48 (by decide) ?_
          refine lv_ixor hx hb dX2_weigh_49 ?_
          refine lv_iand hx hb dX2_weigh_50 ?_
          refine lv_istore (lv' := [(13, .int (x2 &&& (a18 ^^^ (-1 : Int32)))), (12, .int a18), (0, .ref q_t), (1, .ref q_o1), (2, .int x2), (3, .int x3), (4, .int y2), (5, .long y3), (7, .int y4), (8, .int y5), (9, .int y6), (10, .int y7), (11, .int y8)]) hx hb dX2_weigh_51 hl (by decide) rfl (fun ls hl => ?_)
          refine lv_iinc (v := y2 + (1 : Int32)) (lv' := [(4, .int (y2 + (1 : Int32))), (13, .int (x2 &&& (a18 ^^^ (-1 : Int32)))), (12, .int a18), (0, .ref q_t), (1, .ref q_o1), (2, .int x2), (3, .int x3), (5, .long y3), (7, .int y4), (8, .int y5), (9, .int y6), (10, .int y7), (11, .int y8)]) hx hb dX2_weigh_53 hl (k := 6) rfl rfl (by decide) rfl (fun ls hl => ?_)
          refine lv_lload hx hb dX2_weigh_56 (lv_at hl 7 rfl) ?_
          refine lv_lconst (v := (1 : Int64)) hx hb dX2_weigh_58 (by decide) ?_
          refine lv_aload_n hx hb dX2_weigh_59 rfl (lv_at hl 3 rfl) ?_
          refine va_get (D := D) (ci := 2) (v := .ref q_t_numbers) (C := RX2) (T := TX2) (N := 5) hx hb hts in_X2_weigh_2 hown hK hP 0 rfl rfl 0 (by decide) (hts (.fieldLink RX2 11 "PinLanes$Outlook" "numbers" "[I") (by decide +kernel)) (fun _ h9 => h9) rfl dX2_weigh_60 ?_
          refine lv_iload hx hb dX2_weigh_63 (lv_at hl 1 rfl) ?_
          obtain ⟨b27, hf⟩ := gd_e hf
          refine va_iald hx hb hK hP 5 0 rfl rfl (inb_in b27) dX2_weigh_65 ?_
          refine lv_lshl hx hb dX2_weigh_66 rfl ?_
          refine lv_lor hx hb dX2_weigh_67 ?_
          refine lv_lstore (lv' := [(5, .long (y3 ||| ((1 : Int64) <<< ((r_t_numbers (x2 &&& (a18 ^^^ (-1 : Int32))).toNatClampNeg).toInt64 &&& 63)))), (4, .int (y2 + (1 : Int32))), (13, .int (x2 &&& (a18 ^^^ (-1 : Int32)))), (12, .int a18), (0, .ref q_t), (1, .ref q_o1), (2, .int x2), (3, .int x3), (7, .int y4), (8, .int y5), (9, .int y6), (10, .int y7), (11, .int y8)]) hx hb dX2_weigh_68 hl (by decide) rfl (fun ls hl => ?_)
          refine lv_iload hx hb dX2_weigh_70 (lv_at hl 8 rfl) ?_
          refine lv_iconst (v := (1 : Int32)) hx hb dX2_weigh_72 (by decide) ?_
          refine lv_aload_n hx hb dX2_weigh_73 rfl (lv_at hl 4 rfl) ?_
          refine va_get (D := D) (ci := 2) (v := .ref q_t_wins) (C := RX2) (T := TX2) (N := 5) hx hb hts in_X2_weigh_2 hown hK hP 0 rfl rfl 1 (by decide) (hts (.fieldLink RX2 15 "PinLanes$Outlook" "wins" "[I") (by decide +kernel)) (fun _ h9 => h9) rfl dX2_weigh_74 ?_
          refine lv_iload hx hb dX2_weigh_77 (lv_at hl 2 rfl) ?_
          obtain ⟨b28, hf⟩ := gd_e hf
          refine va_iald hx hb hK hP 6 0 rfl rfl (inb_in b28) dX2_weigh_79 ?_
          refine lv_isub hx hb dX2_weigh_80 ?_
          refine lv_ior hx hb dX2_weigh_81 ?_
          refine lv_istore (lv' := [(7, .int (y4 ||| ((1 : Int32) - (r_t_wins (x2 &&& (a18 ^^^ (-1 : Int32))).toNatClampNeg)))), (5, .long (y3 ||| ((1 : Int64) <<< ((r_t_numbers (x2 &&& (a18 ^^^ (-1 : Int32))).toNatClampNeg).toInt64 &&& 63)))), (4, .int (y2 + (1 : Int32))), (13, .int (x2 &&& (a18 ^^^ (-1 : Int32)))), (12, .int a18), (0, .ref q_t), (1, .ref q_o1), (2, .int x2), (3, .int x3), (8, .int y5), (9, .int y6), (10, .int y7), (11, .int y8)]) hx hb dX2_weigh_82 hl (by decide) rfl (fun ls hl => ?_)
          refine lv_iload hx hb dX2_weigh_84 (lv_at hl 9 rfl) ?_
          refine lv_iconst (v := (1 : Int32)) hx hb dX2_weigh_86 (by decide) ?_
          refine lv_aload_n hx hb dX2_weigh_87 rfl (lv_at hl 5 rfl) ?_
          refine va_get (D := D) (ci := 2) (v := .ref q_t_fewest) (C := RX2) (T := TX2) (N := 5) hx hb hts in_X2_weigh_2 hown hK hP 0 rfl rfl 2 (by decide) (hts (.fieldLink RX2 18 "PinLanes$Outlook" "fewest" "[I") (by decide +kernel)) (fun _ h9 => h9) rfl dX2_weigh_88 ?_
          refine lv_iload hx hb dX2_weigh_91 (lv_at hl 3 rfl) ?_
          obtain ⟨b29, hf⟩ := gd_e hf
          refine va_iald hx hb hK hP 7 0 rfl rfl (inb_in b29) dX2_weigh_93 ?_
          refine lv_iadd hx hb dX2_weigh_94 ?_
          refine va_mmin hx hb (hml.trans hl.1.symm) hown (hts (.methodLink RX2 27 Lib.Math.min.name) (by decide +kernel)) (hts (.static Lib.Math.min.name) (by decide +kernel)) (hts (.initialized "java/lang/Math") (by decide +kernel)) (hts (.code Lib.Math.min.name Lib.Math.min.code 2 (some .int)) (by decide +kernel)) (Nat.le_of_ble_eq_true rfl) (Nat.le_of_ble_eq_true rfl) (Nat.zero_le _) (Nat.zero_le _) dX2_weigh_95 ?_
          refine lv_istore (lv' := [(8, .int (if ((1 : Int32) + (r_t_fewest (x2 &&& (a18 ^^^ (-1 : Int32))).toNatClampNeg)) < y5 then ((1 : Int32) + (r_t_fewest (x2 &&& (a18 ^^^ (-1 : Int32))).toNatClampNeg)) else y5)), (7, .int (y4 ||| ((1 : Int32) - (r_t_wins (x2 &&& (a18 ^^^ (-1 : Int32))).toNatClampNeg)))), (5, .long (y3 ||| ((1 : Int64) <<< ((r_t_numbers (x2 &&& (a18 ^^^ (-1 : Int32))).toNatClampNeg).toInt64 &&& 63)))), (4, .int (y2 + (1 : Int32))), (13, .int (x2 &&& (a18 ^^^ (-1 : Int32)))), (12, .int a18), (0, .ref q_t), (1, .ref q_o1), (2, .int x2), (3, .int x3), (9, .int y6), (10, .int y7), (11, .int y8)]) hx hb dX2_weigh_98 hl (by decide) rfl (fun ls hl => ?_)
          refine lv_iload hx hb dX2_weigh_100 (lv_at hl 10 rfl) ?_
          refine lv_iconst (v := (1 : Int32)) hx hb dX2_weigh_102 (by decide) ?_
          refine lv_aload_n hx hb dX2_weigh_103 rfl (lv_at hl 6 rfl) ?_
          refine va_get (D := D) (ci := 2) (v := .ref q_t_most) (C := RX2) (T := TX2) (N := 5) hx hb hts in_X2_weigh_2 hown hK hP 0 rfl rfl 3 (by decide) (hts (.fieldLink RX2 21 "PinLanes$Outlook" "most" "[I") (by decide +kernel)) (fun _ h9 => h9) rfl dX2_weigh_104 ?_
          refine lv_iload hx hb dX2_weigh_107 (lv_at hl 4 rfl) ?_
          obtain ⟨b30, hf⟩ := gd_e hf
          refine va_iald hx hb hK hP 8 0 rfl rfl (inb_in b30) dX2_weigh_109 ?_
          refine lv_iadd hx hb dX2_weigh_110 ?_
          refine va_mmax hx hb (hml.trans hl.1.symm) hown (hts (.methodLink RX2 46 Lib.Math.max.name) (by decide +kernel)) (hts (.static Lib.Math.max.name) (by decide +kernel)) (hts (.initialized "java/lang/Math") (by decide +kernel)) (hts (.code Lib.Math.max.name Lib.Math.max.code 2 (some .int)) (by decide +kernel)) (Nat.le_of_ble_eq_true rfl) (Nat.le_of_ble_eq_true rfl) (Nat.zero_le _) (Nat.zero_le _) dX2_weigh_111 ?_
          refine lv_istore (lv' := [(9, .int (if y6 < ((1 : Int32) + (r_t_most (x2 &&& (a18 ^^^ (-1 : Int32))).toNatClampNeg)) then ((1 : Int32) + (r_t_most (x2 &&& (a18 ^^^ (-1 : Int32))).toNatClampNeg)) else y6)), (8, .int (if ((1 : Int32) + (r_t_fewest (x2 &&& (a18 ^^^ (-1 : Int32))).toNatClampNeg)) < y5 then ((1 : Int32) + (r_t_fewest (x2 &&& (a18 ^^^ (-1 : Int32))).toNatClampNeg)) else y5)), (7, .int (y4 ||| ((1 : Int32) - (r_t_wins (x2 &&& (a18 ^^^ (-1 : Int32))).toNatClampNeg)))), (5, .long (y3 ||| ((1 : Int64) <<< ((r_t_numbers (x2 &&& (a18 ^^^ (-1 : Int32))).toNatClampNeg).toInt64 &&& 63)))), (4, .int (y2 + (1 : Int32))), (13, .int (x2 &&& (a18 ^^^ (-1 : Int32)))), (12, .int a18), (0, .ref q_t), (1, .ref q_o1), (2, .int x2), (3, .int x3), (10, .int y7), (11, .int y8)]) hx hb dX2_weigh_114 hl (by decide) rfl (fun ls hl => ?_)
          refine lv_iload hx hb dX2_weigh_116 (lv_at hl 11 rfl) ?_
          refine lv_ldc (v := (1000000 : Int32)) hx hb hown (hts (.constant RX2 49 (1000000)) (by decide +kernel)) dX2_weigh_118 ?_
          refine lv_aload_n hx hb dX2_weigh_120 rfl (lv_at hl 7 rfl) ?_
          refine va_get (D := D) (ci := 2) (v := .ref q_t_likely) (C := RX2) (T := TX2) (N := 5) hx hb hts in_X2_weigh_2 hown hK hP 0 rfl rfl 4 (by decide) (hts (.fieldLink RX2 24 "PinLanes$Outlook" "likely" "[I") (by decide +kernel)) (fun _ h9 => h9) rfl dX2_weigh_121 ?_
          refine lv_iload hx hb dX2_weigh_124 (lv_at hl 5 rfl) ?_
          obtain ⟨b31, hf⟩ := gd_e hf
          refine va_iald hx hb hK hP 9 0 rfl rfl (inb_in b31) dX2_weigh_126 ?_
          refine lv_isub hx hb dX2_weigh_127 ?_
          refine lv_iadd hx hb dX2_weigh_128 ?_
          refine lv_istore (lv' := [(10, .int (y7 + ((1000000 : Int32) - (r_t_likely (x2 &&& (a18 ^^^ (-1 : Int32))).toNatClampNeg)))), (9, .int (if y6 < ((1 : Int32) + (r_t_most (x2 &&& (a18 ^^^ (-1 : Int32))).toNatClampNeg)) then ((1 : Int32) + (r_t_most (x2 &&& (a18 ^^^ (-1 : Int32))).toNatClampNeg)) else y6)), (8, .int (if ((1 : Int32) + (r_t_fewest (x2 &&& (a18 ^^^ (-1 : Int32))).toNatClampNeg)) < y5 then ((1 : Int32) + (r_t_fewest (x2 &&& (a18 ^^^ (-1 : Int32))).toNatClampNeg)) else y5)), (7, .int (y4 ||| ((1 : Int32) - (r_t_wins (x2 &&& (a18 ^^^ (-1 : Int32))).toNatClampNeg)))), (5, .long (y3 ||| ((1 : Int64) <<< ((r_t_numbers (x2 &&& (a18 ^^^ (-1 : Int32))).toNatClampNeg).toInt64 &&& 63)))), (4, .int (y2 + (1 : Int32))), (13, .int (x2 &&& (a18 ^^^ (-1 : Int32)))), (12, .int a18), (0, .ref q_t), (1, .ref q_o1), (2, .int x2), (3, .int x3), (11, .int y8)]) hx hb dX2_weigh_129 hl (by decide) rfl (fun ls hl => ?_)
          exact hj25 (y2 + (1 : Int32)) (y3 ||| ((1 : Int64) <<< ((r_t_numbers (x2 &&& (a18 ^^^ (-1 : Int32))).toNatClampNeg).toInt64 &&& 63))) (y4 ||| ((1 : Int32) - (r_t_wins (x2 &&& (a18 ^^^ (-1 : Int32))).toNatClampNeg))) (if ((1 : Int32) + (r_t_fewest (x2 &&& (a18 ^^^ (-1 : Int32))).toNatClampNeg)) < y5 then ((1 : Int32) + (r_t_fewest (x2 &&& (a18 ^^^ (-1 : Int32))).toNatClampNeg)) else y5) (if y6 < ((1 : Int32) + (r_t_most (x2 &&& (a18 ^^^ (-1 : Int32))).toNatClampNeg)) then ((1 : Int32) + (r_t_most (x2 &&& (a18 ^^^ (-1 : Int32))).toNatClampNeg)) else y6) (y7 + ((1000000 : Int32) - (r_t_likely (x2 &&& (a18 ^^^ (-1 : Int32))).toNatClampNeg))) _ _ _ hP hD hS (lv_sub hl [8, 9, 10, 11, 5, 4, 3, 2, 1, 0, 12] rfl) hf
  refine hL1 _ (fun y10 y11 y12 y13 y14 y15 H locs ls hP hD hS hl hf => ?_) N (0 : Int32) (0 : Int64) (0 : Int32) (9 : Int32) (0 : Int32) (0 : Int32) (0 : Int32) _ _ _ hP hD hS (lv_sub hl [7, 8, 9, 10, 6, 5, 4, 3, 2, 1, 0] rfl) hf
  refine lv_aload_n hx hb dX2_weigh_137 rfl (lv_at hl 0 rfl) ?_
  refine va_get (D := D) (ci := 2) (v := .ref q_t_numbers) (C := RX2) (T := TX2) (N := 5) hx hb hts in_X2_weigh_2 hown hK hP 0 rfl rfl 0 (by decide) (hts (.fieldLink RX2 11 "PinLanes$Outlook" "numbers" "[I") (by decide +kernel)) (fun _ h9 => h9) rfl dX2_weigh_138 ?_
  refine lv_iload_n hx hb dX2_weigh_141 rfl (lv_at hl 1 rfl) ?_
  refine lv_lload hx hb dX2_weigh_142 (lv_at hl 4 rfl) ?_
  obtain ⟨a32, hra32, hf⟩ := ob1_e hf
  refine callNi (As := [.long y11]) (rest := [.int x2, .ref q_t_numbers]) (wn := [(q_t, .inr (2, [.ref q_t_numbers, .ref q_t_wins, .ref q_t_fewest, .ref q_t_most, .ref q_t_likely])), (q_o1, .inr (6, [.int v_o1_size, .ref q_o1_firsts, .ref q_o1_counts, .ref q_o1_taken, .int v_o1_takesRight, .int v_o1_takesLeft])), (q_o1_taken, .inl (cI, 27, .inl r_o1_taken)), (q_o1_firsts, .inl (cI, 27, .inl r_o1_firsts)), (q_o1_counts, .inl (cI, 27, .inl r_o1_counts)), (q_t_numbers, .inl (cI, 512, .inl r_t_numbers)), (q_t_wins, .inl (cI, 512, .inl r_t_wins)), (q_t_fewest, .inl (cI, 512, .inl r_t_fewest)), (q_t_most, .inl (cI, 512, .inl r_t_most)), (q_t_likely, .inl (cI, 512, .inl r_t_likely))]) ⟨hx, hb, hml, hown, hts⟩ (c_X7_leastNotIn l D cI cC N _ y11 a32 hra32) ⟨va_cnB 1 hts gX2_weigh_X7_leastNotIn_n50 rfl rfl rfl (hG.1 (.methodLinkNest "PinLanes$Outlook" 50 yX7_leastNotIn "PinLanes") (by decide +kernel)) (hts (.initialized RX7) (by decide +kernel)) (by decide +kernel) ⟨Nat.le_of_ble_eq_true rfl, Nat.le_of_ble_eq_true rfl⟩, hts (.static yX7_leastNotIn) (by decide +kernel), trivial⟩ hK hP hD hS hA hG (Cut.mk [] [0, 1, 2, 3, 4, 5, 6, 7, 8, 9] [0, 1, 2, 3, 4, 5, 6, 7, 8, 9] [(q_t, .inr (2, [.ref q_t_numbers, .ref q_t_wins, .ref q_t_fewest, .ref q_t_most, .ref q_t_likely])), (q_o1, .inr (6, [.int v_o1_size, .ref q_o1_firsts, .ref q_o1_counts, .ref q_o1_taken, .int v_o1_takesRight, .int v_o1_takesLeft])), (q_o1_taken, .inl (cI, 27, .inl r_o1_taken)), (q_o1_firsts, .inl (cI, 27, .inl r_o1_firsts)), (q_o1_counts, .inl (cI, 27, .inl r_o1_counts)), (q_t_numbers, .inl (cI, 512, .inl r_t_numbers)), (q_t_wins, .inl (cI, 512, .inl r_t_wins)), (q_t_fewest, .inl (cI, 512, .inl r_t_fewest)), (q_t_most, .inl (cI, 512, .inl r_t_most)), (q_t_likely, .inl (cI, 512, .inl r_t_likely))] rfl rfl rfl rfl (by decide) rfl rfl) rfl hl.1 rfl (Nat.le_of_ble_eq_true rfl) ⟨Nat.zero_le _, Nat.zero_le _⟩ dX2_weigh_144 (fun H locs hP hD hS => ?_)
  obtain ⟨b33, hf⟩ := gd_e hf
  refine va_iast hx hb hK hP hD hS 5 0 rfl rfl (inb_in b33) dX2_weigh_147 (fun H locs hP hD hS => ?_)
  have hP : va_P D vwCl [(q_t, .inr (2, [.ref q_t_numbers, .ref q_t_wins, .ref q_t_fewest, .ref q_t_most, .ref q_t_likely])), (q_o1, .inr (6, [.int v_o1_size, .ref q_o1_firsts, .ref q_o1_counts, .ref q_o1_taken, .int v_o1_takesRight, .int v_o1_takesLeft])), (q_o1_taken, .inl (cI, 27, .inl r_o1_taken)), (q_o1_firsts, .inl (cI, 27, .inl r_o1_firsts)), (q_o1_counts, .inl (cI, 27, .inl r_o1_counts)), (q_t_numbers, .inl (cI, 512, .inl (upd r_t_numbers x2.toNatClampNeg a32))), (q_t_wins, .inl (cI, 512, .inl r_t_wins)), (q_t_fewest, .inl (cI, 512, .inl r_t_fewest)), (q_t_most, .inl (cI, 512, .inl r_t_most)), (q_t_likely, .inl (cI, 512, .inl r_t_likely))] H := hP
  have hD : va_D A [(q_t, .inr (2, [.ref q_t_numbers, .ref q_t_wins, .ref q_t_fewest, .ref q_t_most, .ref q_t_likely])), (q_o1, .inr (6, [.int v_o1_size, .ref q_o1_firsts, .ref q_o1_counts, .ref q_o1_taken, .int v_o1_takesRight, .int v_o1_takesLeft])), (q_o1_taken, .inl (cI, 27, .inl r_o1_taken)), (q_o1_firsts, .inl (cI, 27, .inl r_o1_firsts)), (q_o1_counts, .inl (cI, 27, .inl r_o1_counts)), (q_t_numbers, .inl (cI, 512, .inl (upd r_t_numbers x2.toNatClampNeg a32))), (q_t_wins, .inl (cI, 512, .inl r_t_wins)), (q_t_fewest, .inl (cI, 512, .inl r_t_fewest)), (q_t_most, .inl (cI, 512, .inl r_t_most)), (q_t_likely, .inl (cI, 512, .inl r_t_likely))] := hD
  refine lv_aload_n hx hb dX2_weigh_148 rfl (lv_at hl 0 rfl) ?_
  refine va_get (D := D) (ci := 2) (v := .ref q_t_wins) (C := RX2) (T := TX2) (N := 5) hx hb hts in_X2_weigh_2 hown hK hP 0 rfl rfl 1 (by decide) (hts (.fieldLink RX2 15 "PinLanes$Outlook" "wins" "[I") (by decide +kernel)) (fun _ h9 => h9) rfl dX2_weigh_149 ?_
  refine lv_iload_n hx hb dX2_weigh_152 rfl (lv_at hl 1 rfl) ?_
  refine lv_iload hx hb dX2_weigh_153 (lv_at hl 3 rfl) ?_
  obtain ⟨j35, ej35, hf⟩ := jm_e hf
  have hj35 : ∀ (y34 : Int32) (H : Heap) (locs : List Loc) (ls : Array Slot), va_P D vwCl [(q_t, .inr (2, [.ref q_t_numbers, .ref q_t_wins, .ref q_t_fewest, .ref q_t_most, .ref q_t_likely])), (q_o1, .inr (6, [.int v_o1_size, .ref q_o1_firsts, .ref q_o1_counts, .ref q_o1_taken, .int v_o1_takesRight, .int v_o1_takesLeft])), (q_o1_taken, .inl (cI, 27, .inl r_o1_taken)), (q_o1_firsts, .inl (cI, 27, .inl r_o1_firsts)), (q_o1_counts, .inl (cI, 27, .inl r_o1_counts)), (q_t_numbers, .inl (cI, 512, .inl (upd r_t_numbers x2.toNatClampNeg a32))), (q_t_wins, .inl (cI, 512, .inl r_t_wins)), (q_t_fewest, .inl (cI, 512, .inl r_t_fewest)), (q_t_most, .inl (cI, 512, .inl r_t_most)), (q_t_likely, .inl (cI, 512, .inl r_t_likely))] H → va_D A [(q_t, .inr (2, [.ref q_t_numbers, .ref q_t_wins, .ref q_t_fewest, .ref q_t_most, .ref q_t_likely])), (q_o1, .inr (6, [.int v_o1_size, .ref q_o1_firsts, .ref q_o1_counts, .ref q_o1_taken, .int v_o1_takesRight, .int v_o1_takesLeft])), (q_o1_taken, .inl (cI, 27, .inl r_o1_taken)), (q_o1_firsts, .inl (cI, 27, .inl r_o1_firsts)), (q_o1_counts, .inl (cI, 27, .inl r_o1_counts)), (q_t_numbers, .inl (cI, 512, .inl (upd r_t_numbers x2.toNatClampNeg a32))), (q_t_wins, .inl (cI, 512, .inl r_t_wins)), (q_t_fewest, .inl (cI, 512, .inl r_t_fewest)), (q_t_most, .inl (cI, 512, .inl r_t_most)), (q_t_likely, .inl (cI, 512, .inl r_t_likely))] → va_S A s.heap H locs → lv_has ls 14 [(0, .ref q_t), (2, .int x2), (3, .int x3), (4, .int y10), (8, .int y13), (9, .int y14), (10, .int y15)] → j35 y34 = some (z_r_t_numbers, z_r_t_wins, z_r_t_fewest, z_r_t_most, z_r_t_likely) → W p l e ⟨1, 0, 0, 25⟩ s m ([.ref q_t, .ref q_o1, .int x2, .int x3] : List Value).toArray below meth c H locs 0 0 (MQ below (QV D cI cC A wE) ([.ref q_t, .ref q_o1, .int x2, .int x3] : List Value).toArray s 0 0 A) (F0 m 164 ls [.int y34, .int x2, .ref q_t_wins]) := by
    intro y34 H locs ls hP hD hS hl hf
    rw [ej35] at hf
    obtain ⟨b36, hf⟩ := gd_e hf
    refine va_iast hx hb hK hP hD hS 6 0 rfl rfl (inb_in b36) dX2_weigh_164 (fun H locs hP hD hS => ?_)
    have hP : va_P D vwCl [(q_t, .inr (2, [.ref q_t_numbers, .ref q_t_wins, .ref q_t_fewest, .ref q_t_most, .ref q_t_likely])), (q_o1, .inr (6, [.int v_o1_size, .ref q_o1_firsts, .ref q_o1_counts, .ref q_o1_taken, .int v_o1_takesRight, .int v_o1_takesLeft])), (q_o1_taken, .inl (cI, 27, .inl r_o1_taken)), (q_o1_firsts, .inl (cI, 27, .inl r_o1_firsts)), (q_o1_counts, .inl (cI, 27, .inl r_o1_counts)), (q_t_numbers, .inl (cI, 512, .inl (upd r_t_numbers x2.toNatClampNeg a32))), (q_t_wins, .inl (cI, 512, .inl (upd r_t_wins x2.toNatClampNeg y34))), (q_t_fewest, .inl (cI, 512, .inl r_t_fewest)), (q_t_most, .inl (cI, 512, .inl r_t_most)), (q_t_likely, .inl (cI, 512, .inl r_t_likely))] H := hP
    have hD : va_D A [(q_t, .inr (2, [.ref q_t_numbers, .ref q_t_wins, .ref q_t_fewest, .ref q_t_most, .ref q_t_likely])), (q_o1, .inr (6, [.int v_o1_size, .ref q_o1_firsts, .ref q_o1_counts, .ref q_o1_taken, .int v_o1_takesRight, .int v_o1_takesLeft])), (q_o1_taken, .inl (cI, 27, .inl r_o1_taken)), (q_o1_firsts, .inl (cI, 27, .inl r_o1_firsts)), (q_o1_counts, .inl (cI, 27, .inl r_o1_counts)), (q_t_numbers, .inl (cI, 512, .inl (upd r_t_numbers x2.toNatClampNeg a32))), (q_t_wins, .inl (cI, 512, .inl (upd r_t_wins x2.toNatClampNeg y34))), (q_t_fewest, .inl (cI, 512, .inl r_t_fewest)), (q_t_most, .inl (cI, 512, .inl r_t_most)), (q_t_likely, .inl (cI, 512, .inl r_t_likely))] := hD
    refine lv_aload_n hx hb dX2_weigh_165 rfl (lv_at hl 0 rfl) ?_
    refine va_get (D := D) (ci := 2) (v := .ref q_t_fewest) (C := RX2) (T := TX2) (N := 5) hx hb hts in_X2_weigh_2 hown hK hP 0 rfl rfl 2 (by decide) (hts (.fieldLink RX2 18 "PinLanes$Outlook" "fewest" "[I") (by decide +kernel)) (fun _ h9 => h9) rfl dX2_weigh_166 ?_
    refine lv_iload_n hx hb dX2_weigh_169 rfl (lv_at hl 1 rfl) ?_
    refine lv_iload hx hb dX2_weigh_170 (lv_at hl 3 rfl) ?_
    obtain ⟨j38, ej38, hf⟩ := jm_e hf
    have hj38 : ∀ (y37 : Int32) (H : Heap) (locs : List Loc) (ls : Array Slot), va_P D vwCl [(q_t, .inr (2, [.ref q_t_numbers, .ref q_t_wins, .ref q_t_fewest, .ref q_t_most, .ref q_t_likely])), (q_o1, .inr (6, [.int v_o1_size, .ref q_o1_firsts, .ref q_o1_counts, .ref q_o1_taken, .int v_o1_takesRight, .int v_o1_takesLeft])), (q_o1_taken, .inl (cI, 27, .inl r_o1_taken)), (q_o1_firsts, .inl (cI, 27, .inl r_o1_firsts)), (q_o1_counts, .inl (cI, 27, .inl r_o1_counts)), (q_t_numbers, .inl (cI, 512, .inl (upd r_t_numbers x2.toNatClampNeg a32))), (q_t_wins, .inl (cI, 512, .inl (upd r_t_wins x2.toNatClampNeg y34))), (q_t_fewest, .inl (cI, 512, .inl r_t_fewest)), (q_t_most, .inl (cI, 512, .inl r_t_most)), (q_t_likely, .inl (cI, 512, .inl r_t_likely))] H → va_D A [(q_t, .inr (2, [.ref q_t_numbers, .ref q_t_wins, .ref q_t_fewest, .ref q_t_most, .ref q_t_likely])), (q_o1, .inr (6, [.int v_o1_size, .ref q_o1_firsts, .ref q_o1_counts, .ref q_o1_taken, .int v_o1_takesRight, .int v_o1_takesLeft])), (q_o1_taken, .inl (cI, 27, .inl r_o1_taken)), (q_o1_firsts, .inl (cI, 27, .inl r_o1_firsts)), (q_o1_counts, .inl (cI, 27, .inl r_o1_counts)), (q_t_numbers, .inl (cI, 512, .inl (upd r_t_numbers x2.toNatClampNeg a32))), (q_t_wins, .inl (cI, 512, .inl (upd r_t_wins x2.toNatClampNeg y34))), (q_t_fewest, .inl (cI, 512, .inl r_t_fewest)), (q_t_most, .inl (cI, 512, .inl r_t_most)), (q_t_likely, .inl (cI, 512, .inl r_t_likely))] → va_S A s.heap H locs → lv_has ls 14 [(0, .ref q_t), (2, .int x2), (3, .int x3), (4, .int y10), (9, .int y14), (10, .int y15)] → j38 y37 = some (z_r_t_numbers, z_r_t_wins, z_r_t_fewest, z_r_t_most, z_r_t_likely) → W p l e ⟨1, 0, 0, 25⟩ s m ([.ref q_t, .ref q_o1, .int x2, .int x3] : List Value).toArray below meth c H locs 0 0 (MQ below (QV D cI cC A wE) ([.ref q_t, .ref q_o1, .int x2, .int x3] : List Value).toArray s 0 0 A) (F0 m 181 ls [.int y37, .int x2, .ref q_t_fewest]) := by
      intro y37 H locs ls hP hD hS hl hf
      rw [ej38] at hf
      obtain ⟨b39, hf⟩ := gd_e hf
      refine va_iast hx hb hK hP hD hS 7 0 rfl rfl (inb_in b39) dX2_weigh_181 (fun H locs hP hD hS => ?_)
      have hP : va_P D vwCl [(q_t, .inr (2, [.ref q_t_numbers, .ref q_t_wins, .ref q_t_fewest, .ref q_t_most, .ref q_t_likely])), (q_o1, .inr (6, [.int v_o1_size, .ref q_o1_firsts, .ref q_o1_counts, .ref q_o1_taken, .int v_o1_takesRight, .int v_o1_takesLeft])), (q_o1_taken, .inl (cI, 27, .inl r_o1_taken)), (q_o1_firsts, .inl (cI, 27, .inl r_o1_firsts)), (q_o1_counts, .inl (cI, 27, .inl r_o1_counts)), (q_t_numbers, .inl (cI, 512, .inl (upd r_t_numbers x2.toNatClampNeg a32))), (q_t_wins, .inl (cI, 512, .inl (upd r_t_wins x2.toNatClampNeg y34))), (q_t_fewest, .inl (cI, 512, .inl (upd r_t_fewest x2.toNatClampNeg y37))), (q_t_most, .inl (cI, 512, .inl r_t_most)), (q_t_likely, .inl (cI, 512, .inl r_t_likely))] H := hP
      have hD : va_D A [(q_t, .inr (2, [.ref q_t_numbers, .ref q_t_wins, .ref q_t_fewest, .ref q_t_most, .ref q_t_likely])), (q_o1, .inr (6, [.int v_o1_size, .ref q_o1_firsts, .ref q_o1_counts, .ref q_o1_taken, .int v_o1_takesRight, .int v_o1_takesLeft])), (q_o1_taken, .inl (cI, 27, .inl r_o1_taken)), (q_o1_firsts, .inl (cI, 27, .inl r_o1_firsts)), (q_o1_counts, .inl (cI, 27, .inl r_o1_counts)), (q_t_numbers, .inl (cI, 512, .inl (upd r_t_numbers x2.toNatClampNeg a32))), (q_t_wins, .inl (cI, 512, .inl (upd r_t_wins x2.toNatClampNeg y34))), (q_t_fewest, .inl (cI, 512, .inl (upd r_t_fewest x2.toNatClampNeg y37))), (q_t_most, .inl (cI, 512, .inl r_t_most)), (q_t_likely, .inl (cI, 512, .inl r_t_likely))] := hD
      refine lv_aload_n hx hb dX2_weigh_182 rfl (lv_at hl 0 rfl) ?_
      refine va_get (D := D) (ci := 2) (v := .ref q_t_most) (C := RX2) (T := TX2) (N := 5) hx hb hts in_X2_weigh_2 hown hK hP 0 rfl rfl 3 (by decide) (hts (.fieldLink RX2 21 "PinLanes$Outlook" "most" "[I") (by decide +kernel)) (fun _ h9 => h9) rfl dX2_weigh_183 ?_
      refine lv_iload_n hx hb dX2_weigh_186 rfl (lv_at hl 1 rfl) ?_
      refine lv_iload hx hb dX2_weigh_187 (lv_at hl 4 rfl) ?_
      obtain ⟨b40, hf⟩ := gd_e hf
      refine va_iast hx hb hK hP hD hS 8 0 rfl rfl (inb_in b40) dX2_weigh_189 (fun H locs hP hD hS => ?_)
      have hP : va_P D vwCl [(q_t, .inr (2, [.ref q_t_numbers, .ref q_t_wins, .ref q_t_fewest, .ref q_t_most, .ref q_t_likely])), (q_o1, .inr (6, [.int v_o1_size, .ref q_o1_firsts, .ref q_o1_counts, .ref q_o1_taken, .int v_o1_takesRight, .int v_o1_takesLeft])), (q_o1_taken, .inl (cI, 27, .inl r_o1_taken)), (q_o1_firsts, .inl (cI, 27, .inl r_o1_firsts)), (q_o1_counts, .inl (cI, 27, .inl r_o1_counts)), (q_t_numbers, .inl (cI, 512, .inl (upd r_t_numbers x2.toNatClampNeg a32))), (q_t_wins, .inl (cI, 512, .inl (upd r_t_wins x2.toNatClampNeg y34))), (q_t_fewest, .inl (cI, 512, .inl (upd r_t_fewest x2.toNatClampNeg y37))), (q_t_most, .inl (cI, 512, .inl (upd r_t_most x2.toNatClampNeg y14))), (q_t_likely, .inl (cI, 512, .inl r_t_likely))] H := hP
      have hD : va_D A [(q_t, .inr (2, [.ref q_t_numbers, .ref q_t_wins, .ref q_t_fewest, .ref q_t_most, .ref q_t_likely])), (q_o1, .inr (6, [.int v_o1_size, .ref q_o1_firsts, .ref q_o1_counts, .ref q_o1_taken, .int v_o1_takesRight, .int v_o1_takesLeft])), (q_o1_taken, .inl (cI, 27, .inl r_o1_taken)), (q_o1_firsts, .inl (cI, 27, .inl r_o1_firsts)), (q_o1_counts, .inl (cI, 27, .inl r_o1_counts)), (q_t_numbers, .inl (cI, 512, .inl (upd r_t_numbers x2.toNatClampNeg a32))), (q_t_wins, .inl (cI, 512, .inl (upd r_t_wins x2.toNatClampNeg y34))), (q_t_fewest, .inl (cI, 512, .inl (upd r_t_fewest x2.toNatClampNeg y37))), (q_t_most, .inl (cI, 512, .inl (upd r_t_most x2.toNatClampNeg y14))), (q_t_likely, .inl (cI, 512, .inl r_t_likely))] := hD
      refine lv_aload_n hx hb dX2_weigh_190 rfl (lv_at hl 0 rfl) ?_
      refine va_get (D := D) (ci := 2) (v := .ref q_t_likely) (C := RX2) (T := TX2) (N := 5) hx hb hts in_X2_weigh_2 hown hK hP 0 rfl rfl 4 (by decide) (hts (.fieldLink RX2 24 "PinLanes$Outlook" "likely" "[I") (by decide +kernel)) (fun _ h9 => h9) rfl dX2_weigh_191 ?_
      refine lv_iload_n hx hb dX2_weigh_194 rfl (lv_at hl 1 rfl) ?_
      refine lv_iload hx hb dX2_weigh_195 (lv_at hl 3 rfl) ?_
      obtain ⟨j42, ej42, hf⟩ := jm_e hf
      have hj42 : ∀ (y41 : Int32) (H : Heap) (locs : List Loc) (ls : Array Slot), va_P D vwCl [(q_t, .inr (2, [.ref q_t_numbers, .ref q_t_wins, .ref q_t_fewest, .ref q_t_most, .ref q_t_likely])), (q_o1, .inr (6, [.int v_o1_size, .ref q_o1_firsts, .ref q_o1_counts, .ref q_o1_taken, .int v_o1_takesRight, .int v_o1_takesLeft])), (q_o1_taken, .inl (cI, 27, .inl r_o1_taken)), (q_o1_firsts, .inl (cI, 27, .inl r_o1_firsts)), (q_o1_counts, .inl (cI, 27, .inl r_o1_counts)), (q_t_numbers, .inl (cI, 512, .inl (upd r_t_numbers x2.toNatClampNeg a32))), (q_t_wins, .inl (cI, 512, .inl (upd r_t_wins x2.toNatClampNeg y34))), (q_t_fewest, .inl (cI, 512, .inl (upd r_t_fewest x2.toNatClampNeg y37))), (q_t_most, .inl (cI, 512, .inl (upd r_t_most x2.toNatClampNeg y14))), (q_t_likely, .inl (cI, 512, .inl r_t_likely))] H → va_D A [(q_t, .inr (2, [.ref q_t_numbers, .ref q_t_wins, .ref q_t_fewest, .ref q_t_most, .ref q_t_likely])), (q_o1, .inr (6, [.int v_o1_size, .ref q_o1_firsts, .ref q_o1_counts, .ref q_o1_taken, .int v_o1_takesRight, .int v_o1_takesLeft])), (q_o1_taken, .inl (cI, 27, .inl r_o1_taken)), (q_o1_firsts, .inl (cI, 27, .inl r_o1_firsts)), (q_o1_counts, .inl (cI, 27, .inl r_o1_counts)), (q_t_numbers, .inl (cI, 512, .inl (upd r_t_numbers x2.toNatClampNeg a32))), (q_t_wins, .inl (cI, 512, .inl (upd r_t_wins x2.toNatClampNeg y34))), (q_t_fewest, .inl (cI, 512, .inl (upd r_t_fewest x2.toNatClampNeg y37))), (q_t_most, .inl (cI, 512, .inl (upd r_t_most x2.toNatClampNeg y14))), (q_t_likely, .inl (cI, 512, .inl r_t_likely))] → va_S A s.heap H locs → lv_has ls 14 [] → j42 y41 = some (z_r_t_numbers, z_r_t_wins, z_r_t_fewest, z_r_t_most, z_r_t_likely) → W p l e ⟨1, 0, 0, 25⟩ s m ([.ref q_t, .ref q_o1, .int x2, .int x3] : List Value).toArray below meth c H locs 0 0 (MQ below (QV D cI cC A wE) ([.ref q_t, .ref q_o1, .int x2, .int x3] : List Value).toArray s 0 0 A) (F0 m 212 ls [.int y41, .int x2, .ref q_t_likely]) := by
        intro y41 H locs ls hP hD hS hl hf
        rw [ej42] at hf
        obtain ⟨b43, hf⟩ := gd_e hf
        refine va_iast hx hb hK hP hD hS 9 0 rfl rfl (inb_in b43) dX2_weigh_212 (fun H locs hP hD hS => ?_)
        have hP : va_P D vwCl [(q_t, .inr (2, [.ref q_t_numbers, .ref q_t_wins, .ref q_t_fewest, .ref q_t_most, .ref q_t_likely])), (q_o1, .inr (6, [.int v_o1_size, .ref q_o1_firsts, .ref q_o1_counts, .ref q_o1_taken, .int v_o1_takesRight, .int v_o1_takesLeft])), (q_o1_taken, .inl (cI, 27, .inl r_o1_taken)), (q_o1_firsts, .inl (cI, 27, .inl r_o1_firsts)), (q_o1_counts, .inl (cI, 27, .inl r_o1_counts)), (q_t_numbers, .inl (cI, 512, .inl (upd r_t_numbers x2.toNatClampNeg a32))), (q_t_wins, .inl (cI, 512, .inl (upd r_t_wins x2.toNatClampNeg y34))), (q_t_fewest, .inl (cI, 512, .inl (upd r_t_fewest x2.toNatClampNeg y37))), (q_t_most, .inl (cI, 512, .inl (upd r_t_most x2.toNatClampNeg y14))), (q_t_likely, .inl (cI, 512, .inl (upd r_t_likely x2.toNatClampNeg y41)))] H := hP
        have hD : va_D A [(q_t, .inr (2, [.ref q_t_numbers, .ref q_t_wins, .ref q_t_fewest, .ref q_t_most, .ref q_t_likely])), (q_o1, .inr (6, [.int v_o1_size, .ref q_o1_firsts, .ref q_o1_counts, .ref q_o1_taken, .int v_o1_takesRight, .int v_o1_takesLeft])), (q_o1_taken, .inl (cI, 27, .inl r_o1_taken)), (q_o1_firsts, .inl (cI, 27, .inl r_o1_firsts)), (q_o1_counts, .inl (cI, 27, .inl r_o1_counts)), (q_t_numbers, .inl (cI, 512, .inl (upd r_t_numbers x2.toNatClampNeg a32))), (q_t_wins, .inl (cI, 512, .inl (upd r_t_wins x2.toNatClampNeg y34))), (q_t_fewest, .inl (cI, 512, .inl (upd r_t_fewest x2.toNatClampNeg y37))), (q_t_most, .inl (cI, 512, .inl (upd r_t_most x2.toNatClampNeg y14))), (q_t_likely, .inl (cI, 512, .inl (upd r_t_likely x2.toNatClampNeg y41)))] := hD
        obtain ⟨e1_, e2_, e3_, e4_, e5_⟩ := so5 hf
        exact endV hx hb hr hlk hK (by rw [hwE, ← e1_, ← e2_, ← e3_, ← e4_, ← e5_]; exact hP) (by rw [hwE, ← e1_, ← e2_, ← e3_, ← e4_, ← e5_]; exact hD) hS dX2_weigh_213
      refine lv_if_ne (tgt := 207) hx hb dX2_weigh_197 (by decide) (fun c44 => ?_) (fun c44 => ?_)
      · have hf := iq c44 hf
        refine lv_iload hx hb dX2_weigh_207 (lv_at hl 5 rfl) ?_
        refine lv_iload hx hb dX2_weigh_209 (lv_at hl 3 rfl) ?_
        obtain ⟨b45, hf⟩ := gd_e hf
        refine lv_idiv hx hb dX2_weigh_211 (by simpa using b45) ?_
        exact hj42 (y15 / y10) _ _ _ hP hD hS (lv_sub hl [] rfl) hf
      · have hf := ip c44 hf
        refine lv_iload_n hx hb dX2_weigh_200 rfl (lv_at hl 2 rfl) ?_
        refine lv_ldc (v := (1000000 : Int32)) hx hb hown (hts (.constant RX2 49 (1000000)) (by decide +kernel)) dX2_weigh_201 ?_
        refine lv_imul hx hb dX2_weigh_203 ?_
        refine lv_goto (tgt := 212) hx hb dX2_weigh_204 (by decide) ?_
        exact hj42 (x3 * (1000000 : Int32)) _ _ _ hP hD hS (lv_sub hl [] rfl) hf
    refine lv_if_ne (tgt := 179) hx hb dX2_weigh_172 (by decide) (fun c46 => ?_) (fun c46 => ?_)
    · have hf := iq c46 hf
      refine lv_iload hx hb dX2_weigh_179 (lv_at hl 4 rfl) ?_
      exact hj38 y13 _ _ _ hP hD hS (lv_sub hl [0, 1, 2, 3, 5, 6] rfl) hf
    · have hf := ip c46 hf
      refine lv_iconst (v := (0 : Int32)) hx hb dX2_weigh_175 (by decide) ?_
      refine lv_goto (tgt := 181) hx hb dX2_weigh_176 (by decide) ?_
      exact hj38 (0 : Int32) _ _ _ hP hD hS (lv_sub hl [0, 1, 2, 3, 5, 6] rfl) hf
  refine lv_if_ne (tgt := 162) hx hb dX2_weigh_155 (by decide) (fun c47 => ?_) (fun c47 => ?_)
  · have hf := iq c47 hf
    refine lv_iload hx hb dX2_weigh_162 (lv_at hl 5 rfl) ?_
    exact hj35 y12 _ _ _ hP hD hS (lv_sub hl [0, 1, 2, 3, 6, 7, 8] rfl) hf
  · have hf := ip c47 hf
    refine lv_iload_n hx hb dX2_weigh_158 rfl (lv_at hl 2 rfl) ?_
    refine lv_goto (tgt := 164) hx hb dX2_weigh_159 (by decide) ?_
    exact hj35 x3 _ _ _ hP hD hS (lv_sub hl [0, 1, 2, 3, 6, 7, 8] rfl) hf
-- X2_fill
set_option maxHeartbeats 4000000 in
set_option maxRecDepth 100000 in
theorem c_X2_fill (l : Launch) (D : va_G) (cI cC : ClassId) (N sz : Nat) (q_t q_t_numbers q_t_wins q_t_fewest q_t_most q_t_likely q_o1 q_o1_firsts q_o1_counts q_o1_taken : Nat) (v_o1_size : Int32) (v_o1_takesRight : Int32) (v_o1_takesLeft : Int32) (r_o1_taken : Nat → Int32) (r_o1_firsts : Nat → Int32) (r_o1_counts : Nat → Int32) (r_t_numbers : Nat → Int32) (r_t_wins : Nat → Int32) (r_t_fewest : Nat → Int32) (r_t_most : Nat → Int32) (r_t_likely : Nat → Int32) (x2 : Int32) (x3 : Int32) (z_r_t_numbers : Nat → Int32) (z_r_t_wins : Nat → Int32) (z_r_t_fewest : Nat → Int32) (z_r_t_most : Nat → Int32) (z_r_t_likely : Nat → Int32) (hf : f_X2_fill N v_o1_size v_o1_takesRight v_o1_takesLeft r_o1_taken r_o1_firsts r_o1_counts r_t_numbers r_t_wins r_t_fewest r_t_most r_t_likely x2 x3 = some (z_r_t_numbers, z_r_t_wins, z_r_t_fewest, z_r_t_most, z_r_t_likely)) : Ct l yX2_fill wsX2_fill ⟨2, 0, 0, 58⟩ [.ref q_t, .ref q_o1, .int x2, .int x3] D cI cC [(q_t, .inr (2, [.ref q_t_numbers, .ref q_t_wins, .ref q_t_fewest, .ref q_t_most, .ref q_t_likely])), (q_o1, .inr (6, [.int v_o1_size, .ref q_o1_firsts, .ref q_o1_counts, .ref q_o1_taken, .int v_o1_takesRight, .int v_o1_takesLeft])), (q_o1_taken, .inl (cI, 27, .inl r_o1_taken)), (q_o1_firsts, .inl (cI, 27, .inl r_o1_firsts)), (q_o1_counts, .inl (cI, 27, .inl r_o1_counts)), (q_t_numbers, .inl (cI, 512, .inl r_t_numbers)), (q_t_wins, .inl (cI, 512, .inl r_t_wins)), (q_t_fewest, .inl (cI, 512, .inl r_t_fewest)), (q_t_most, .inl (cI, 512, .inl r_t_most)), (q_t_likely, .inl (cI, 512, .inl r_t_likely))] sz (fun A => (QV D cI cC A [(q_t, .inr (2, [.ref q_t_numbers, .ref q_t_wins, .ref q_t_fewest, .ref q_t_most, .ref q_t_likely])), (q_o1, .inr (6, [.int v_o1_size, .ref q_o1_firsts, .ref q_o1_counts, .ref q_o1_taken, .int v_o1_takesRight, .int v_o1_takesLeft])), (q_o1_taken, .inl (cI, 27, .inl r_o1_taken)), (q_o1_firsts, .inl (cI, 27, .inl r_o1_firsts)), (q_o1_counts, .inl (cI, 27, .inl r_o1_counts)), (q_t_numbers, .inl (cI, 512, .inl z_r_t_numbers)), (q_t_wins, .inl (cI, 512, .inl z_r_t_wins)), (q_t_fewest, .inl (cI, 512, .inl z_r_t_fewest)), (q_t_most, .inl (cI, 512, .inl z_r_t_most)), (q_t_likely, .inl (cI, 512, .inl z_r_t_likely))])) := by
  suffices h : ∀ wE : va_W, wE = [(q_t, .inr (2, [.ref q_t_numbers, .ref q_t_wins, .ref q_t_fewest, .ref q_t_most, .ref q_t_likely])), (q_o1, .inr (6, [.int v_o1_size, .ref q_o1_firsts, .ref q_o1_counts, .ref q_o1_taken, .int v_o1_takesRight, .int v_o1_takesLeft])), (q_o1_taken, .inl (cI, 27, .inl r_o1_taken)), (q_o1_firsts, .inl (cI, 27, .inl r_o1_firsts)), (q_o1_counts, .inl (cI, 27, .inl r_o1_counts)), (q_t_numbers, .inl (cI, 512, .inl z_r_t_numbers)), (q_t_wins, .inl (cI, 512, .inl z_r_t_wins)), (q_t_fewest, .inl (cI, 512, .inl z_r_t_fewest)), (q_t_most, .inl (cI, 512, .inl z_r_t_most)), (q_t_likely, .inl (cI, 512, .inl z_r_t_likely))] → Ct l yX2_fill wsX2_fill ⟨2, 0, 0, 58⟩ [.ref q_t, .ref q_o1, .int x2, .int x3] D cI cC [(q_t, .inr (2, [.ref q_t_numbers, .ref q_t_wins, .ref q_t_fewest, .ref q_t_most, .ref q_t_likely])), (q_o1, .inr (6, [.int v_o1_size, .ref q_o1_firsts, .ref q_o1_counts, .ref q_o1_taken, .int v_o1_takesRight, .int v_o1_takesLeft])), (q_o1_taken, .inl (cI, 27, .inl r_o1_taken)), (q_o1_firsts, .inl (cI, 27, .inl r_o1_firsts)), (q_o1_counts, .inl (cI, 27, .inl r_o1_counts)), (q_t_numbers, .inl (cI, 512, .inl r_t_numbers)), (q_t_wins, .inl (cI, 512, .inl r_t_wins)), (q_t_fewest, .inl (cI, 512, .inl r_t_fewest)), (q_t_most, .inl (cI, 512, .inl r_t_most)), (q_t_likely, .inl (cI, 512, .inl r_t_likely))] sz (fun A => (QV D cI cC A wE)) from h _ rfl
  intro wE hwE
  rw [f_X2_fill] at hf
  refine Ct.beg cX2_fill 6 none [(0, .ref q_t), (1, .ref q_o1), (2, .int x2), (3, .int x3)] RX2 (by decide) rfl rfl (Nat.le_of_ble_eq_true rfl) rfl (fun p e s m below meth c A hx hb hr hts hown hlk hml hnm hK hP hD hS hA hG ls hl => ?_)
  refine lv_iconst (v := (1 : Int32)) hx hb dX2_fill_0 (by decide) ?_
  refine lv_iload_n hx hb dX2_fill_1 rfl (lv_at hl 2 rfl) ?_
  refine lv_ishl hx hb dX2_fill_2 ?_
  refine lv_sipush (v := (512 : Int32)) hx hb dX2_fill_3 (by decide) ?_
  refine va_mmin hx hb (hml.trans hl.1.symm) hown (hts (.methodLink RX2 27 Lib.Math.min.name) (by decide +kernel)) (hts (.static Lib.Math.min.name) (by decide +kernel)) (hts (.initialized "java/lang/Math") (by decide +kernel)) (hts (.code Lib.Math.min.name Lib.Math.min.code 2 (some .int)) (by decide +kernel)) (Nat.le_of_ble_eq_true rfl) (Nat.le_of_ble_eq_true rfl) (Nat.zero_le _) (Nat.zero_le _) dX2_fill_6 ?_
  refine lv_istore (lv' := [(4, .int (if (512 : Int32) < ((1 : Int32) <<< (x2 &&& 31)) then (512 : Int32) else ((1 : Int32) <<< (x2 &&& 31)))), (0, .ref q_t), (1, .ref q_o1), (2, .int x2), (3, .int x3)]) hx hb dX2_fill_9 hl (by decide) rfl (fun ls hl => ?_)
  refine lv_iconst (v := (0 : Int32)) hx hb dX2_fill_11 (by decide) ?_
  refine lv_istore (lv' := [(5, .int (0 : Int32)), (4, .int (if (512 : Int32) < ((1 : Int32) <<< (x2 &&& 31)) then (512 : Int32) else ((1 : Int32) <<< (x2 &&& 31)))), (0, .ref q_t), (1, .ref q_o1), (2, .int x2), (3, .int x3)]) hx hb dX2_fill_12 hl (by decide) rfl (fun ls hl => ?_)
  have hL1 : ∀ (n : Nat) (y2 : Int32) (y3 : Nat → Int32) (y4 : Nat → Int32) (y5 : Nat → Int32) (y6 : Nat → Int32) (y7 : Nat → Int32) (H : Heap) (locs : List Loc) (ls : Array Slot), va_P D vwCl [(q_t, .inr (2, [.ref q_t_numbers, .ref q_t_wins, .ref q_t_fewest, .ref q_t_most, .ref q_t_likely])), (q_o1, .inr (6, [.int v_o1_size, .ref q_o1_firsts, .ref q_o1_counts, .ref q_o1_taken, .int v_o1_takesRight, .int v_o1_takesLeft])), (q_o1_taken, .inl (cI, 27, .inl r_o1_taken)), (q_o1_firsts, .inl (cI, 27, .inl r_o1_firsts)), (q_o1_counts, .inl (cI, 27, .inl r_o1_counts)), (q_t_numbers, .inl (cI, 512, .inl y3)), (q_t_wins, .inl (cI, 512, .inl y4)), (q_t_fewest, .inl (cI, 512, .inl y5)), (q_t_most, .inl (cI, 512, .inl y6)), (q_t_likely, .inl (cI, 512, .inl y7))] H → va_D A [(q_t, .inr (2, [.ref q_t_numbers, .ref q_t_wins, .ref q_t_fewest, .ref q_t_most, .ref q_t_likely])), (q_o1, .inr (6, [.int v_o1_size, .ref q_o1_firsts, .ref q_o1_counts, .ref q_o1_taken, .int v_o1_takesRight, .int v_o1_takesLeft])), (q_o1_taken, .inl (cI, 27, .inl r_o1_taken)), (q_o1_firsts, .inl (cI, 27, .inl r_o1_firsts)), (q_o1_counts, .inl (cI, 27, .inl r_o1_counts)), (q_t_numbers, .inl (cI, 512, .inl y3)), (q_t_wins, .inl (cI, 512, .inl y4)), (q_t_fewest, .inl (cI, 512, .inl y5)), (q_t_most, .inl (cI, 512, .inl y6)), (q_t_likely, .inl (cI, 512, .inl y7))] → va_S A s.heap H locs → lv_has ls 6 [(0, .ref q_t), (1, .ref q_o1), (3, .int x3), (4, .int (if (512 : Int32) < ((1 : Int32) <<< (x2 &&& 31)) then (512 : Int32) else ((1 : Int32) <<< (x2 &&& 31)))), (5, .int y2)] → f_X2_fill_L14 N x3 (if (512 : Int32) < ((1 : Int32) <<< (x2 &&& 31)) then (512 : Int32) else ((1 : Int32) <<< (x2 &&& 31))) v_o1_size v_o1_takesRight v_o1_takesLeft r_o1_taken r_o1_firsts r_o1_counts n y2 y3 y4 y5 y6 y7 = some (z_r_t_numbers, z_r_t_wins, z_r_t_fewest, z_r_t_most, z_r_t_likely) → W p l e ⟨2, 0, 0, 58⟩ s m ([.ref q_t, .ref q_o1, .int x2, .int x3] : List Value).toArray below meth c H locs 0 0 (MQ below (QV D cI cC A wE) ([.ref q_t, .ref q_o1, .int x2, .int x3] : List Value).toArray s 0 0 A) (F0 m 14 ls []) := by
    intro n
    induction n with
    | zero => intro y2 y3 y4 y5 y6 y7 H locs ls hP hD hS hl hf; rw [f_X2_fill_L14] at hf; cases hf
    | succ n ih =>
      intro y2 y3 y4 y5 y6 y7 H locs ls hP hD hS hl hf
      rw [f_X2_fill_L14] at hf
      refine lv_iload hx hb dX2_fill_14 (lv_at hl 4 rfl) ?_
      refine lv_iload hx hb dX2_fill_16 (lv_at hl 3 rfl) ?_
      refine lv_icmp_ge (tgt := 35) hx hb dX2_fill_18 (by decide) (fun c8 => ?_) (fun c8 => ?_)
      · have hf := ip c8 hf
        obtain ⟨e1_, e2_, e3_, e4_, e5_⟩ := so5 hf
        exact endV hx hb hr hlk hK (by rw [hwE, ← e1_, ← e2_, ← e3_, ← e4_, ← e5_]; exact hP) (by rw [hwE, ← e1_, ← e2_, ← e3_, ← e4_, ← e5_]; exact hD) hS dX2_fill_35
      · have hf := iq c8 hf
        refine lv_aload_n hx hb dX2_fill_21 rfl (lv_at hl 0 rfl) ?_
        refine lv_aload_n hx hb dX2_fill_22 rfl (lv_at hl 1 rfl) ?_
        refine lv_iload hx hb dX2_fill_23 (lv_at hl 4 rfl) ?_
        refine lv_iload_n hx hb dX2_fill_25 rfl (lv_at hl 2 rfl) ?_
        obtain ⟨a9, a10, a11, a12, a13, hra9, hf⟩ := ob5_e hf
        refine callVv (As := [.ref q_o1, .int y2, .int x3]) (rest := []) (wn := [(q_t, .inr (2, [.ref q_t_numbers, .ref q_t_wins, .ref q_t_fewest, .ref q_t_most, .ref q_t_likely])), (q_o1, .inr (6, [.int v_o1_size, .ref q_o1_firsts, .ref q_o1_counts, .ref q_o1_taken, .int v_o1_takesRight, .int v_o1_takesLeft])), (q_o1_taken, .inl (cI, 27, .inl r_o1_taken)), (q_o1_firsts, .inl (cI, 27, .inl r_o1_firsts)), (q_o1_counts, .inl (cI, 27, .inl r_o1_counts)), (q_t_numbers, .inl (cI, 512, .inl a9)), (q_t_wins, .inl (cI, 512, .inl a10)), (q_t_fewest, .inl (cI, 512, .inl a11)), (q_t_most, .inl (cI, 512, .inl a12)), (q_t_likely, .inl (cI, 512, .inl a13))]) (q0 := 0) (ci := 2) ⟨hx, hb, hml, hown, hts⟩ (c_X2_weigh l D cI cC N _ q_t q_t_numbers q_t_wins q_t_fewest q_t_most q_t_likely q_o1 q_o1_firsts q_o1_counts q_o1_taken v_o1_size v_o1_takesRight v_o1_takesLeft r_o1_taken r_o1_firsts r_o1_counts y3 y4 y5 y6 y7 y2 x3 a9 a10 a11 a12 a13 hra9) (cwV 3 hts gX2_fill_X2_weigh rfl rfl rfl (by decide +kernel) ⟨Nat.le_of_ble_eq_true rfl, Nat.le_of_ble_eq_true rfl⟩) hK hP hD hS hA hG (Cut.mk [0, 1, 2, 3, 4, 5, 6, 7, 8, 9] [] [0, 1, 2, 3, 4, 5, 6, 7, 8, 9] [] rfl rfl rfl rfl (by decide) rfl rfl) rfl rfl rfl rfl hl.1 rfl (Nat.le_of_ble_eq_true rfl) ⟨Nat.zero_le _, Nat.zero_le _⟩ dX2_fill_26 (fun H locs hP hD hS => ?_)
        refine lv_iinc (v := y2 + (1 : Int32)) (lv' := [(5, .int (y2 + (1 : Int32))), (0, .ref q_t), (1, .ref q_o1), (3, .int x3), (4, .int (if (512 : Int32) < ((1 : Int32) <<< (x2 &&& 31)) then (512 : Int32) else ((1 : Int32) <<< (x2 &&& 31))))]) hx hb dX2_fill_29 hl (k := 4) rfl rfl (by decide) rfl (fun ls hl => ?_)
        refine lv_goto (tgt := 14) hx hb dX2_fill_32 (by decide) ?_
        exact ih (y2 + (1 : Int32)) a9 a10 a11 a12 a13 _ _ _ hP hD hS (lv_sub hl [1, 2, 3, 4, 0] rfl) hf
  exact hL1 N (0 : Int32) r_t_numbers r_t_wins r_t_fewest r_t_most r_t_likely _ _ _ hP hD hS (lv_sub hl [2, 3, 5, 1, 0] rfl) hf
-- X2_isGood
set_option maxRecDepth 20000 in
theorem in_X2_isGood_2 : ∀ w ∈ wsX20, w ∈ wsX2_isGood := by decide +kernel
set_option maxHeartbeats 4000000 in
set_option maxRecDepth 100000 in
theorem c_X2_isGood (l : Launch) (D : va_G) (cI cC : ClassId) (N sz : Nat) (q_t q_t_numbers q_t_wins q_t_fewest q_t_most q_t_likely q_o1 q_o1_firsts q_o1_counts q_o1_taken : Nat) (v_o1_size : Int32) (v_o1_takesRight : Int32) (v_o1_takesLeft : Int32) (r_o1_taken : Nat → Int32) (r_o1_firsts : Nat → Int32) (r_o1_counts : Nat → Int32) (r_t_wins : Nat → Int32) (x2 : Int32) (x3 : Int32) (z0 : Int32) (hf : f_X2_isGood N v_o1_size v_o1_takesRight v_o1_takesLeft r_o1_taken r_o1_firsts r_o1_counts r_t_wins x2 x3 = some (z0)) : Ct l yX2_isGood wsX2_isGood ⟨1, 0, 0, 25⟩ [.ref q_t, .ref q_o1, .int x2, .int x3] D cI cC [(q_t, .inr (2, [.ref q_t_numbers, .ref q_t_wins, .ref q_t_fewest, .ref q_t_most, .ref q_t_likely])), (q_o1, .inr (6, [.int v_o1_size, .ref q_o1_firsts, .ref q_o1_counts, .ref q_o1_taken, .int v_o1_takesRight, .int v_o1_takesLeft])), (q_o1_taken, .inl (cI, 27, .inl r_o1_taken)), (q_o1_firsts, .inl (cI, 27, .inl r_o1_firsts)), (q_o1_counts, .inl (cI, 27, .inl r_o1_counts)), (q_t_wins, .inl (cI, 512, .inl r_t_wins))] sz (fun A => (QI D cI cC A [(q_t, .inr (2, [.ref q_t_numbers, .ref q_t_wins, .ref q_t_fewest, .ref q_t_most, .ref q_t_likely])), (q_o1, .inr (6, [.int v_o1_size, .ref q_o1_firsts, .ref q_o1_counts, .ref q_o1_taken, .int v_o1_takesRight, .int v_o1_takesLeft])), (q_o1_taken, .inl (cI, 27, .inl r_o1_taken)), (q_o1_firsts, .inl (cI, 27, .inl r_o1_firsts)), (q_o1_counts, .inl (cI, 27, .inl r_o1_counts)), (q_t_wins, .inl (cI, 512, .inl r_t_wins))] z0)) := by
  suffices h : ∀ wE : va_W, wE = [(q_t, .inr (2, [.ref q_t_numbers, .ref q_t_wins, .ref q_t_fewest, .ref q_t_most, .ref q_t_likely])), (q_o1, .inr (6, [.int v_o1_size, .ref q_o1_firsts, .ref q_o1_counts, .ref q_o1_taken, .int v_o1_takesRight, .int v_o1_takesLeft])), (q_o1_taken, .inl (cI, 27, .inl r_o1_taken)), (q_o1_firsts, .inl (cI, 27, .inl r_o1_firsts)), (q_o1_counts, .inl (cI, 27, .inl r_o1_counts)), (q_t_wins, .inl (cI, 512, .inl r_t_wins))] → Ct l yX2_isGood wsX2_isGood ⟨1, 0, 0, 25⟩ [.ref q_t, .ref q_o1, .int x2, .int x3] D cI cC [(q_t, .inr (2, [.ref q_t_numbers, .ref q_t_wins, .ref q_t_fewest, .ref q_t_most, .ref q_t_likely])), (q_o1, .inr (6, [.int v_o1_size, .ref q_o1_firsts, .ref q_o1_counts, .ref q_o1_taken, .int v_o1_takesRight, .int v_o1_takesLeft])), (q_o1_taken, .inl (cI, 27, .inl r_o1_taken)), (q_o1_firsts, .inl (cI, 27, .inl r_o1_firsts)), (q_o1_counts, .inl (cI, 27, .inl r_o1_counts)), (q_t_wins, .inl (cI, 512, .inl r_t_wins))] sz (fun A => (QI D cI cC A wE z0)) from h _ rfl
  intro wE hwE
  rw [f_X2_isGood] at hf
  refine Ct.beg cX2_isGood 5 (some .boolean) [(0, .ref q_t), (1, .ref q_o1), (2, .int x2), (3, .int x3)] RX2 (by decide) rfl rfl (Nat.le_of_ble_eq_true rfl) rfl (fun p e s m below meth c A hx hb hr hts hown hlk hml hnm hK hP hD hS hA hG ls hl => ?_)
  refine lv_aload_n hx hb dX2_isGood_0 rfl (lv_at hl 1 rfl) ?_
  refine lv_iload_n hx hb dX2_isGood_1 rfl (lv_at hl 2 rfl) ?_
  refine lv_iload_n hx hb dX2_isGood_2 rfl (lv_at hl 3 rfl) ?_
  obtain ⟨a1, hra1, hf⟩ := ob1_e hf
  refine callVi (As := [.int x2, .int x3]) (rest := []) (wn := [(q_t, .inr (2, [.ref q_t_numbers, .ref q_t_wins, .ref q_t_fewest, .ref q_t_most, .ref q_t_likely])), (q_o1, .inr (6, [.int v_o1_size, .ref q_o1_firsts, .ref q_o1_counts, .ref q_o1_taken, .int v_o1_takesRight, .int v_o1_takesLeft])), (q_o1_taken, .inl (cI, 27, .inl r_o1_taken)), (q_o1_firsts, .inl (cI, 27, .inl r_o1_firsts)), (q_o1_counts, .inl (cI, 27, .inl r_o1_counts)), (q_t_wins, .inl (cI, 512, .inl r_t_wins))]) (q0 := 0) (ci := 6) ⟨hx, hb, hml, hown, hts⟩ (c_X6_fallen l D cI cC N _ q_o1 q_o1_firsts q_o1_counts q_o1_taken v_o1_size v_o1_takesRight v_o1_takesLeft r_o1_taken r_o1_firsts r_o1_counts x2 x3 a1 hra1) (cwV 2 hts gX2_isGood_X6_fallen rfl rfl rfl (by decide +kernel) ⟨Nat.le_of_ble_eq_true rfl, Nat.le_of_ble_eq_true rfl⟩) hK hP hD hS hA hG (Cut.mk [1, 2, 3, 4] [0, 5] [0, 2, 3, 4, 5, 1] [(q_t, .inr (2, [.ref q_t_numbers, .ref q_t_wins, .ref q_t_fewest, .ref q_t_most, .ref q_t_likely])), (q_t_wins, .inl (cI, 512, .inl r_t_wins))] rfl rfl rfl rfl (by decide) rfl rfl) rfl rfl rfl rfl hl.1 rfl (Nat.le_of_ble_eq_true rfl) ⟨Nat.zero_le _, Nat.zero_le _⟩ dX2_isGood_3 (fun H locs hP hD hS => ?_)
  refine lv_istore (lv' := [(4, .int a1), (0, .ref q_t), (1, .ref q_o1), (2, .int x2), (3, .int x3)]) hx hb dX2_isGood_6 hl (by decide) rfl (fun ls hl => ?_)
  refine lv_iload hx hb dX2_isGood_8 (lv_at hl 0 rfl) ?_
  refine lv_if_eq (tgt := 31) hx hb dX2_isGood_10 (by decide) (fun c2 => ?_) (fun c2 => ?_)
  · have hf := ip c2 hf
    refine lv_iconst (v := (0 : Int32)) hx hb dX2_isGood_31 (by decide) ?_
    have e1_ := Option.some.inj hf
    exact endZ hx hb hr rfl hlk hK (by rw [hwE]; exact hP) (by rw [hwE]; exact hD) hS e1_ dX2_isGood_32
  · have hf := iq c2 hf
    refine lv_aload_n hx hb dX2_isGood_13 rfl (lv_at hl 1 rfl) ?_
    refine va_get (D := D) (ci := 2) (v := .ref q_t_wins) (C := RX2) (T := TX2) (N := 5) hx hb hts in_X2_isGood_2 hown hK hP 0 rfl rfl 1 (by decide) (hts (.fieldLink RX2 15 "PinLanes$Outlook" "wins" "[I") (by decide +kernel)) (fun _ h9 => h9) rfl dX2_isGood_14 ?_
    refine lv_iload_n hx hb dX2_isGood_17 rfl (lv_at hl 4 rfl) ?_
    refine lv_iload hx hb dX2_isGood_18 (lv_at hl 0 rfl) ?_
    refine lv_iconst (v := (-1 : Int32)) hx hb dX2_isGood_20 (by decide) ?_
    refine lv_ixor hx hb dX2_isGood_21 ?_
    refine lv_iand hx hb dX2_isGood_22 ?_
    obtain ⟨b3, hf⟩ := gd_e hf
    refine va_iald hx hb hK hP 5 0 rfl rfl (inb_in b3) dX2_isGood_23 ?_
    refine lv_if_ne (tgt := 31) hx hb dX2_isGood_24 (by decide) (fun c4 => ?_) (fun c4 => ?_)
    · have hf := iq c4 hf
      refine lv_iconst (v := (0 : Int32)) hx hb dX2_isGood_31 (by decide) ?_
      have e1_ := Option.some.inj hf
      exact endZ hx hb hr rfl hlk hK (by rw [hwE]; exact hP) (by rw [hwE]; exact hD) hS e1_ dX2_isGood_32
    · have hf := ip c4 hf
      refine lv_iconst (v := (1 : Int32)) hx hb dX2_isGood_27 (by decide) ?_
      refine lv_goto (tgt := 32) hx hb dX2_isGood_28 (by decide) ?_
      have e1_ := Option.some.inj hf
      exact endZ hx hb hr rfl hlk hK (by rw [hwE]; exact hP) (by rw [hwE]; exact hD) hS e1_ dX2_isGood_32
-- X2_firstGood
set_option maxRecDepth 20000 in
theorem in_X2_firstGood_6 : ∀ w ∈ wsX60, w ∈ wsX2_firstGood := by decide +kernel
set_option maxHeartbeats 4000000 in
set_option maxRecDepth 100000 in
theorem c_X2_firstGood (l : Launch) (D : va_G) (cI cC : ClassId) (N sz : Nat) (q_t q_t_numbers q_t_wins q_t_fewest q_t_most q_t_likely q_o1 q_o1_firsts q_o1_counts q_o1_taken : Nat) (v_o1_size : Int32) (v_o1_takesRight : Int32) (v_o1_takesLeft : Int32) (r_o1_taken : Nat → Int32) (r_o1_firsts : Nat → Int32) (r_o1_counts : Nat → Int32) (r_t_wins : Nat → Int32) (x2 : Int32) (z0 : Int32) (hf : f_X2_firstGood N v_o1_size v_o1_takesRight v_o1_takesLeft r_o1_taken r_o1_firsts r_o1_counts r_t_wins x2 = some (z0)) : Ct l yX2_firstGood wsX2_firstGood ⟨2, 0, 0, 49⟩ [.ref q_t, .ref q_o1, .int x2] D cI cC [(q_t, .inr (2, [.ref q_t_numbers, .ref q_t_wins, .ref q_t_fewest, .ref q_t_most, .ref q_t_likely])), (q_o1, .inr (6, [.int v_o1_size, .ref q_o1_firsts, .ref q_o1_counts, .ref q_o1_taken, .int v_o1_takesRight, .int v_o1_takesLeft])), (q_o1_taken, .inl (cI, 27, .inl r_o1_taken)), (q_o1_firsts, .inl (cI, 27, .inl r_o1_firsts)), (q_o1_counts, .inl (cI, 27, .inl r_o1_counts)), (q_t_wins, .inl (cI, 512, .inl r_t_wins))] sz (fun A => (QI D cI cC A [(q_t, .inr (2, [.ref q_t_numbers, .ref q_t_wins, .ref q_t_fewest, .ref q_t_most, .ref q_t_likely])), (q_o1, .inr (6, [.int v_o1_size, .ref q_o1_firsts, .ref q_o1_counts, .ref q_o1_taken, .int v_o1_takesRight, .int v_o1_takesLeft])), (q_o1_taken, .inl (cI, 27, .inl r_o1_taken)), (q_o1_firsts, .inl (cI, 27, .inl r_o1_firsts)), (q_o1_counts, .inl (cI, 27, .inl r_o1_counts)), (q_t_wins, .inl (cI, 512, .inl r_t_wins))] z0)) := by
  suffices h : ∀ wE : va_W, wE = [(q_t, .inr (2, [.ref q_t_numbers, .ref q_t_wins, .ref q_t_fewest, .ref q_t_most, .ref q_t_likely])), (q_o1, .inr (6, [.int v_o1_size, .ref q_o1_firsts, .ref q_o1_counts, .ref q_o1_taken, .int v_o1_takesRight, .int v_o1_takesLeft])), (q_o1_taken, .inl (cI, 27, .inl r_o1_taken)), (q_o1_firsts, .inl (cI, 27, .inl r_o1_firsts)), (q_o1_counts, .inl (cI, 27, .inl r_o1_counts)), (q_t_wins, .inl (cI, 512, .inl r_t_wins))] → Ct l yX2_firstGood wsX2_firstGood ⟨2, 0, 0, 49⟩ [.ref q_t, .ref q_o1, .int x2] D cI cC [(q_t, .inr (2, [.ref q_t_numbers, .ref q_t_wins, .ref q_t_fewest, .ref q_t_most, .ref q_t_likely])), (q_o1, .inr (6, [.int v_o1_size, .ref q_o1_firsts, .ref q_o1_counts, .ref q_o1_taken, .int v_o1_takesRight, .int v_o1_takesLeft])), (q_o1_taken, .inl (cI, 27, .inl r_o1_taken)), (q_o1_firsts, .inl (cI, 27, .inl r_o1_firsts)), (q_o1_counts, .inl (cI, 27, .inl r_o1_counts)), (q_t_wins, .inl (cI, 512, .inl r_t_wins))] sz (fun A => (QI D cI cC A wE z0)) from h _ rfl
  intro wE hwE
  rw [f_X2_firstGood] at hf
  refine Ct.beg cX2_firstGood 4 (some .int) [(0, .ref q_t), (1, .ref q_o1), (2, .int x2)] RX2 (by decide) rfl rfl (Nat.le_of_ble_eq_true rfl) rfl (fun p e s m below meth c A hx hb hr hts hown hlk hml hnm hK hP hD hS hA hG ls hl => ?_)
  refine lv_iconst (v := (0 : Int32)) hx hb dX2_firstGood_0 (by decide) ?_
  refine lv_istore_n (lv' := [(3, .int (0 : Int32)), (0, .ref q_t), (1, .ref q_o1), (2, .int x2)]) hx hb dX2_firstGood_1 rfl hl (by decide) rfl (fun ls hl => ?_)
  have hL1 : ∀ (kk3 : Int32 → Option (Int32)), (∀ (y4 : Int32) (H : Heap) (locs : List Loc) (ls : Array Slot), va_P D vwCl [(q_t, .inr (2, [.ref q_t_numbers, .ref q_t_wins, .ref q_t_fewest, .ref q_t_most, .ref q_t_likely])), (q_o1, .inr (6, [.int v_o1_size, .ref q_o1_firsts, .ref q_o1_counts, .ref q_o1_taken, .int v_o1_takesRight, .int v_o1_takesLeft])), (q_o1_taken, .inl (cI, 27, .inl r_o1_taken)), (q_o1_firsts, .inl (cI, 27, .inl r_o1_firsts)), (q_o1_counts, .inl (cI, 27, .inl r_o1_counts)), (q_t_wins, .inl (cI, 512, .inl r_t_wins))] H → va_D A [(q_t, .inr (2, [.ref q_t_numbers, .ref q_t_wins, .ref q_t_fewest, .ref q_t_most, .ref q_t_likely])), (q_o1, .inr (6, [.int v_o1_size, .ref q_o1_firsts, .ref q_o1_counts, .ref q_o1_taken, .int v_o1_takesRight, .int v_o1_takesLeft])), (q_o1_taken, .inl (cI, 27, .inl r_o1_taken)), (q_o1_firsts, .inl (cI, 27, .inl r_o1_firsts)), (q_o1_counts, .inl (cI, 27, .inl r_o1_counts)), (q_t_wins, .inl (cI, 512, .inl r_t_wins))] → va_S A s.heap H locs → lv_has ls 4 [(1, .ref q_o1), (3, .int y4)] → kk3 y4 = some (z0) → W p l e ⟨2, 0, 0, 49⟩ s m ([.ref q_t, .ref q_o1, .int x2] : List Value).toArray below meth c H locs 0 0 (MQ below (QI D cI cC A wE z0) ([.ref q_t, .ref q_o1, .int x2] : List Value).toArray s 0 0 A) (F0 m 20 ls [])) → ∀ (n : Nat) (y2 : Int32) (H : Heap) (locs : List Loc) (ls : Array Slot), va_P D vwCl [(q_t, .inr (2, [.ref q_t_numbers, .ref q_t_wins, .ref q_t_fewest, .ref q_t_most, .ref q_t_likely])), (q_o1, .inr (6, [.int v_o1_size, .ref q_o1_firsts, .ref q_o1_counts, .ref q_o1_taken, .int v_o1_takesRight, .int v_o1_takesLeft])), (q_o1_taken, .inl (cI, 27, .inl r_o1_taken)), (q_o1_firsts, .inl (cI, 27, .inl r_o1_firsts)), (q_o1_counts, .inl (cI, 27, .inl r_o1_counts)), (q_t_wins, .inl (cI, 512, .inl r_t_wins))] H → va_D A [(q_t, .inr (2, [.ref q_t_numbers, .ref q_t_wins, .ref q_t_fewest, .ref q_t_most, .ref q_t_likely])), (q_o1, .inr (6, [.int v_o1_size, .ref q_o1_firsts, .ref q_o1_counts, .ref q_o1_taken, .int v_o1_takesRight, .int v_o1_takesLeft])), (q_o1_taken, .inl (cI, 27, .inl r_o1_taken)), (q_o1_firsts, .inl (cI, 27, .inl r_o1_firsts)), (q_o1_counts, .inl (cI, 27, .inl r_o1_counts)), (q_t_wins, .inl (cI, 512, .inl r_t_wins))] → va_S A s.heap H locs → lv_has ls 4 [(0, .ref q_t), (1, .ref q_o1), (2, .int x2), (3, .int y2)] → f_X2_firstGood_L2 N x2 v_o1_size v_o1_takesRight v_o1_takesLeft r_o1_taken r_o1_firsts r_o1_counts r_t_wins kk3 n y2 = some (z0) → W p l e ⟨2, 0, 0, 49⟩ s m ([.ref q_t, .ref q_o1, .int x2] : List Value).toArray below meth c H locs 0 0 (MQ below (QI D cI cC A wE z0) ([.ref q_t, .ref q_o1, .int x2] : List Value).toArray s 0 0 A) (F0 m 2 ls []) := by
    intro kk3 hk5 n
    induction n with
    | zero => intro y2 H locs ls hP hD hS hl hf; rw [f_X2_firstGood_L2] at hf; cases hf
    | succ n ih =>
      intro y2 H locs ls hP hD hS hl hf
      rw [f_X2_firstGood_L2] at hf
      refine lv_iload_n hx hb dX2_firstGood_2 rfl (lv_at hl 3 rfl) ?_
      refine lv_aload_n hx hb dX2_firstGood_3 rfl (lv_at hl 1 rfl) ?_
      refine va_get (D := D) (ci := 6) (v := .int v_o1_size) (C := RX6) (T := TX6) (N := 6) hx hb hts in_X2_firstGood_6 hown hK hP 1 rfl rfl 0 (by decide) (hts (.fieldLink RX2 37 "PinLanes$Strikes" "size" "I") (by decide +kernel)) (fun _ h9 => h9) rfl dX2_firstGood_4 ?_
      refine lv_icmp_ge (tgt := 43) hx hb dX2_firstGood_7 (by decide) (fun c6 => ?_) (fun c6 => ?_)
      · have hf := ip c6 hf
        refine lv_iconst (v := (-1 : Int32)) hx hb dX2_firstGood_43 (by decide) ?_
        have e1_ := Option.some.inj hf
        exact endI hx hb hr hlk hK (by rw [hwE]; exact hP) (by rw [hwE]; exact hD) hS e1_ dX2_firstGood_44
      · have hf := iq c6 hf
        refine lv_aload_n hx hb dX2_firstGood_10 rfl (lv_at hl 0 rfl) ?_
        refine lv_aload_n hx hb dX2_firstGood_11 rfl (lv_at hl 1 rfl) ?_
        refine lv_iload_n hx hb dX2_firstGood_12 rfl (lv_at hl 3 rfl) ?_
        refine lv_iload_n hx hb dX2_firstGood_13 rfl (lv_at hl 2 rfl) ?_
        obtain ⟨a7, hra7, hf⟩ := ob1_e hf
        refine callVi (As := [.ref q_o1, .int y2, .int x2]) (rest := []) (wn := [(q_t, .inr (2, [.ref q_t_numbers, .ref q_t_wins, .ref q_t_fewest, .ref q_t_most, .ref q_t_likely])), (q_o1, .inr (6, [.int v_o1_size, .ref q_o1_firsts, .ref q_o1_counts, .ref q_o1_taken, .int v_o1_takesRight, .int v_o1_takesLeft])), (q_o1_taken, .inl (cI, 27, .inl r_o1_taken)), (q_o1_firsts, .inl (cI, 27, .inl r_o1_firsts)), (q_o1_counts, .inl (cI, 27, .inl r_o1_counts)), (q_t_wins, .inl (cI, 512, .inl r_t_wins))]) (q0 := 0) (ci := 2) ⟨hx, hb, hml, hown, hts⟩ (c_X2_isGood l D cI cC N _ q_t q_t_numbers q_t_wins q_t_fewest q_t_most q_t_likely q_o1 q_o1_firsts q_o1_counts q_o1_taken v_o1_size v_o1_takesRight v_o1_takesLeft r_o1_taken r_o1_firsts r_o1_counts r_t_wins y2 x2 a7 hra7) (cwV 3 hts gX2_firstGood_X2_isGood rfl rfl rfl (by decide +kernel) ⟨Nat.le_of_ble_eq_true rfl, Nat.le_of_ble_eq_true rfl⟩) hK hP hD hS hA hG (Cut.mk [0, 1, 2, 3, 4, 5] [] [0, 1, 2, 3, 4, 5] [] rfl rfl rfl rfl (by decide) rfl rfl) rfl rfl rfl rfl hl.1 rfl (Nat.le_of_ble_eq_true rfl) ⟨Nat.zero_le _, Nat.zero_le _⟩ dX2_firstGood_14 (fun H locs hP hD hS => ?_)
        refine lv_if_eq (tgt := 37) hx hb dX2_firstGood_17 (by decide) (fun c8 => ?_) (fun c8 => ?_)
        · have hf := ip c8 hf
          refine lv_iinc (v := y2 + (1 : Int32)) (lv' := [(3, .int (y2 + (1 : Int32))), (0, .ref q_t), (1, .ref q_o1), (2, .int x2)]) hx hb dX2_firstGood_37 hl (k := 3) rfl rfl (by decide) rfl (fun ls hl => ?_)
          refine lv_goto (tgt := 2) hx hb dX2_firstGood_40 (by decide) ?_
          exact ih (y2 + (1 : Int32)) _ _ _ hP hD hS (lv_sub hl [1, 2, 3, 0] rfl) hf
        · have hf := iq c8 hf
          exact hk5 y2 _ _ _ hP hD hS (lv_sub hl [1, 3] rfl) hf
  refine hL1 _ (fun y4 H locs ls hP hD hS hl hf => ?_) N (0 : Int32) _ _ _ hP hD hS (lv_sub hl [1, 2, 3, 0] rfl) hf
  refine lv_bipush (v := (10 : Int32)) hx hb dX2_firstGood_20 (by decide) ?_
  refine lv_aload_n hx hb dX2_firstGood_22 rfl (lv_at hl 0 rfl) ?_
  refine va_get (D := D) (ci := 6) (v := .ref q_o1_firsts) (C := RX6) (T := TX6) (N := 6) hx hb hts in_X2_firstGood_6 hown hK hP 1 rfl rfl 1 (by decide) (hts (.fieldLink RX2 58 "PinLanes$Strikes" "firsts" "[I") (by decide +kernel)) (fun _ h9 => h9) rfl dX2_firstGood_23 ?_
  refine lv_iload_n hx hb dX2_firstGood_26 rfl (lv_at hl 1 rfl) ?_
  obtain ⟨b9, hf⟩ := gd_e hf
  refine va_iald hx hb hK hP 3 0 rfl rfl (inb_in b9) dX2_firstGood_27 ?_
  refine lv_imul hx hb dX2_firstGood_28 ?_
  refine lv_aload_n hx hb dX2_firstGood_29 rfl (lv_at hl 0 rfl) ?_
  refine va_get (D := D) (ci := 6) (v := .ref q_o1_counts) (C := RX6) (T := TX6) (N := 6) hx hb hts in_X2_firstGood_6 hown hK hP 1 rfl rfl 2 (by decide) (hts (.fieldLink RX2 61 "PinLanes$Strikes" "counts" "[I") (by decide +kernel)) (fun _ h9 => h9) rfl dX2_firstGood_30 ?_
  refine lv_iload_n hx hb dX2_firstGood_33 rfl (lv_at hl 1 rfl) ?_
  obtain ⟨b10, hf⟩ := gd_e hf
  refine va_iald hx hb hK hP 4 0 rfl rfl (inb_in b10) dX2_firstGood_34 ?_
  refine lv_iadd hx hb dX2_firstGood_35 ?_
  have e1_ := Option.some.inj hf
  exact endI hx hb hr hlk hK (by rw [hwE]; exact hP) (by rw [hwE]; exact hD) hS e1_ dX2_firstGood_36
-- X2_howManyGood
set_option maxRecDepth 20000 in
theorem in_X2_howManyGood_6 : ∀ w ∈ wsX60, w ∈ wsX2_howManyGood := by decide +kernel
set_option maxHeartbeats 4000000 in
set_option maxRecDepth 100000 in
theorem c_X2_howManyGood (l : Launch) (D : va_G) (cI cC : ClassId) (N sz : Nat) (q_t q_t_numbers q_t_wins q_t_fewest q_t_most q_t_likely q_o1 q_o1_firsts q_o1_counts q_o1_taken : Nat) (v_o1_size : Int32) (v_o1_takesRight : Int32) (v_o1_takesLeft : Int32) (r_o1_taken : Nat → Int32) (r_o1_firsts : Nat → Int32) (r_o1_counts : Nat → Int32) (r_t_wins : Nat → Int32) (x2 : Int32) (z0 : Int32) (hf : f_X2_howManyGood N v_o1_size v_o1_takesRight v_o1_takesLeft r_o1_taken r_o1_firsts r_o1_counts r_t_wins x2 = some (z0)) : Ct l yX2_howManyGood wsX2_howManyGood ⟨2, 0, 0, 49⟩ [.ref q_t, .ref q_o1, .int x2] D cI cC [(q_t, .inr (2, [.ref q_t_numbers, .ref q_t_wins, .ref q_t_fewest, .ref q_t_most, .ref q_t_likely])), (q_o1, .inr (6, [.int v_o1_size, .ref q_o1_firsts, .ref q_o1_counts, .ref q_o1_taken, .int v_o1_takesRight, .int v_o1_takesLeft])), (q_o1_taken, .inl (cI, 27, .inl r_o1_taken)), (q_o1_firsts, .inl (cI, 27, .inl r_o1_firsts)), (q_o1_counts, .inl (cI, 27, .inl r_o1_counts)), (q_t_wins, .inl (cI, 512, .inl r_t_wins))] sz (fun A => (QI D cI cC A [(q_t, .inr (2, [.ref q_t_numbers, .ref q_t_wins, .ref q_t_fewest, .ref q_t_most, .ref q_t_likely])), (q_o1, .inr (6, [.int v_o1_size, .ref q_o1_firsts, .ref q_o1_counts, .ref q_o1_taken, .int v_o1_takesRight, .int v_o1_takesLeft])), (q_o1_taken, .inl (cI, 27, .inl r_o1_taken)), (q_o1_firsts, .inl (cI, 27, .inl r_o1_firsts)), (q_o1_counts, .inl (cI, 27, .inl r_o1_counts)), (q_t_wins, .inl (cI, 512, .inl r_t_wins))] z0)) := by
  suffices h : ∀ wE : va_W, wE = [(q_t, .inr (2, [.ref q_t_numbers, .ref q_t_wins, .ref q_t_fewest, .ref q_t_most, .ref q_t_likely])), (q_o1, .inr (6, [.int v_o1_size, .ref q_o1_firsts, .ref q_o1_counts, .ref q_o1_taken, .int v_o1_takesRight, .int v_o1_takesLeft])), (q_o1_taken, .inl (cI, 27, .inl r_o1_taken)), (q_o1_firsts, .inl (cI, 27, .inl r_o1_firsts)), (q_o1_counts, .inl (cI, 27, .inl r_o1_counts)), (q_t_wins, .inl (cI, 512, .inl r_t_wins))] → Ct l yX2_howManyGood wsX2_howManyGood ⟨2, 0, 0, 49⟩ [.ref q_t, .ref q_o1, .int x2] D cI cC [(q_t, .inr (2, [.ref q_t_numbers, .ref q_t_wins, .ref q_t_fewest, .ref q_t_most, .ref q_t_likely])), (q_o1, .inr (6, [.int v_o1_size, .ref q_o1_firsts, .ref q_o1_counts, .ref q_o1_taken, .int v_o1_takesRight, .int v_o1_takesLeft])), (q_o1_taken, .inl (cI, 27, .inl r_o1_taken)), (q_o1_firsts, .inl (cI, 27, .inl r_o1_firsts)), (q_o1_counts, .inl (cI, 27, .inl r_o1_counts)), (q_t_wins, .inl (cI, 512, .inl r_t_wins))] sz (fun A => (QI D cI cC A wE z0)) from h _ rfl
  intro wE hwE
  rw [f_X2_howManyGood] at hf
  refine Ct.beg cX2_howManyGood 5 (some .int) [(0, .ref q_t), (1, .ref q_o1), (2, .int x2)] RX2 (by decide) rfl rfl (Nat.le_of_ble_eq_true rfl) rfl (fun p e s m below meth c A hx hb hr hts hown hlk hml hnm hK hP hD hS hA hG ls hl => ?_)
  refine lv_iconst (v := (0 : Int32)) hx hb dX2_howManyGood_0 (by decide) ?_
  refine lv_istore_n (lv' := [(3, .int (0 : Int32)), (0, .ref q_t), (1, .ref q_o1), (2, .int x2)]) hx hb dX2_howManyGood_1 rfl hl (by decide) rfl (fun ls hl => ?_)
  refine lv_iconst (v := (0 : Int32)) hx hb dX2_howManyGood_2 (by decide) ?_
  refine lv_istore (lv' := [(4, .int (0 : Int32)), (3, .int (0 : Int32)), (0, .ref q_t), (1, .ref q_o1), (2, .int x2)]) hx hb dX2_howManyGood_3 hl (by decide) rfl (fun ls hl => ?_)
  have hL1 : ∀ (n : Nat) (y2 : Int32) (y3 : Int32) (H : Heap) (locs : List Loc) (ls : Array Slot), va_P D vwCl [(q_t, .inr (2, [.ref q_t_numbers, .ref q_t_wins, .ref q_t_fewest, .ref q_t_most, .ref q_t_likely])), (q_o1, .inr (6, [.int v_o1_size, .ref q_o1_firsts, .ref q_o1_counts, .ref q_o1_taken, .int v_o1_takesRight, .int v_o1_takesLeft])), (q_o1_taken, .inl (cI, 27, .inl r_o1_taken)), (q_o1_firsts, .inl (cI, 27, .inl r_o1_firsts)), (q_o1_counts, .inl (cI, 27, .inl r_o1_counts)), (q_t_wins, .inl (cI, 512, .inl r_t_wins))] H → va_D A [(q_t, .inr (2, [.ref q_t_numbers, .ref q_t_wins, .ref q_t_fewest, .ref q_t_most, .ref q_t_likely])), (q_o1, .inr (6, [.int v_o1_size, .ref q_o1_firsts, .ref q_o1_counts, .ref q_o1_taken, .int v_o1_takesRight, .int v_o1_takesLeft])), (q_o1_taken, .inl (cI, 27, .inl r_o1_taken)), (q_o1_firsts, .inl (cI, 27, .inl r_o1_firsts)), (q_o1_counts, .inl (cI, 27, .inl r_o1_counts)), (q_t_wins, .inl (cI, 512, .inl r_t_wins))] → va_S A s.heap H locs → lv_has ls 5 [(0, .ref q_t), (1, .ref q_o1), (2, .int x2), (3, .int y2), (4, .int y3)] → f_X2_howManyGood_L5 N x2 v_o1_size v_o1_takesRight v_o1_takesLeft r_o1_taken r_o1_firsts r_o1_counts r_t_wins n y2 y3 = some (z0) → W p l e ⟨2, 0, 0, 49⟩ s m ([.ref q_t, .ref q_o1, .int x2] : List Value).toArray below meth c H locs 0 0 (MQ below (QI D cI cC A wE z0) ([.ref q_t, .ref q_o1, .int x2] : List Value).toArray s 0 0 A) (F0 m 5 ls []) := by
    intro n
    induction n with
    | zero => intro y2 y3 H locs ls hP hD hS hl hf; rw [f_X2_howManyGood_L5] at hf; cases hf
    | succ n ih =>
      intro y2 y3 H locs ls hP hD hS hl hf
      rw [f_X2_howManyGood_L5] at hf
      refine lv_iload hx hb dX2_howManyGood_5 (lv_at hl 4 rfl) ?_
      refine lv_aload_n hx hb dX2_howManyGood_7 rfl (lv_at hl 1 rfl) ?_
      refine va_get (D := D) (ci := 6) (v := .int v_o1_size) (C := RX6) (T := TX6) (N := 6) hx hb hts in_X2_howManyGood_6 hown hK hP 1 rfl rfl 0 (by decide) (hts (.fieldLink RX2 37 "PinLanes$Strikes" "size" "I") (by decide +kernel)) (fun _ h9 => h9) rfl dX2_howManyGood_8 ?_
      refine lv_icmp_ge (tgt := 34) hx hb dX2_howManyGood_11 (by decide) (fun c4 => ?_) (fun c4 => ?_)
      · have hf := ip c4 hf
        refine lv_iload_n hx hb dX2_howManyGood_34 rfl (lv_at hl 3 rfl) ?_
        have e1_ := Option.some.inj hf
        exact endI hx hb hr hlk hK (by rw [hwE]; exact hP) (by rw [hwE]; exact hD) hS e1_ dX2_howManyGood_35
      · have hf := iq c4 hf
        refine lv_aload_n hx hb dX2_howManyGood_14 rfl (lv_at hl 0 rfl) ?_
        refine lv_aload_n hx hb dX2_howManyGood_15 rfl (lv_at hl 1 rfl) ?_
        refine lv_iload hx hb dX2_howManyGood_16 (lv_at hl 4 rfl) ?_
        refine lv_iload_n hx hb dX2_howManyGood_18 rfl (lv_at hl 2 rfl) ?_
        obtain ⟨a5, hra5, hf⟩ := ob1_e hf
        refine callVi (As := [.ref q_o1, .int y3, .int x2]) (rest := []) (wn := [(q_t, .inr (2, [.ref q_t_numbers, .ref q_t_wins, .ref q_t_fewest, .ref q_t_most, .ref q_t_likely])), (q_o1, .inr (6, [.int v_o1_size, .ref q_o1_firsts, .ref q_o1_counts, .ref q_o1_taken, .int v_o1_takesRight, .int v_o1_takesLeft])), (q_o1_taken, .inl (cI, 27, .inl r_o1_taken)), (q_o1_firsts, .inl (cI, 27, .inl r_o1_firsts)), (q_o1_counts, .inl (cI, 27, .inl r_o1_counts)), (q_t_wins, .inl (cI, 512, .inl r_t_wins))]) (q0 := 0) (ci := 2) ⟨hx, hb, hml, hown, hts⟩ (c_X2_isGood l D cI cC N _ q_t q_t_numbers q_t_wins q_t_fewest q_t_most q_t_likely q_o1 q_o1_firsts q_o1_counts q_o1_taken v_o1_size v_o1_takesRight v_o1_takesLeft r_o1_taken r_o1_firsts r_o1_counts r_t_wins y3 x2 a5 hra5) (cwV 3 hts gX2_howManyGood_X2_isGood rfl rfl rfl (by decide +kernel) ⟨Nat.le_of_ble_eq_true rfl, Nat.le_of_ble_eq_true rfl⟩) hK hP hD hS hA hG (Cut.mk [0, 1, 2, 3, 4, 5] [] [0, 1, 2, 3, 4, 5] [] rfl rfl rfl rfl (by decide) rfl rfl) rfl rfl rfl rfl hl.1 rfl (Nat.le_of_ble_eq_true rfl) ⟨Nat.zero_le _, Nat.zero_le _⟩ dX2_howManyGood_19 (fun H locs hP hD hS => ?_)
        obtain ⟨j7, ej7, hf⟩ := jm_e hf
        have hj7 : ∀ (y6 : Int32) (H : Heap) (locs : List Loc) (ls : Array Slot), va_P D vwCl [(q_t, .inr (2, [.ref q_t_numbers, .ref q_t_wins, .ref q_t_fewest, .ref q_t_most, .ref q_t_likely])), (q_o1, .inr (6, [.int v_o1_size, .ref q_o1_firsts, .ref q_o1_counts, .ref q_o1_taken, .int v_o1_takesRight, .int v_o1_takesLeft])), (q_o1_taken, .inl (cI, 27, .inl r_o1_taken)), (q_o1_firsts, .inl (cI, 27, .inl r_o1_firsts)), (q_o1_counts, .inl (cI, 27, .inl r_o1_counts)), (q_t_wins, .inl (cI, 512, .inl r_t_wins))] H → va_D A [(q_t, .inr (2, [.ref q_t_numbers, .ref q_t_wins, .ref q_t_fewest, .ref q_t_most, .ref q_t_likely])), (q_o1, .inr (6, [.int v_o1_size, .ref q_o1_firsts, .ref q_o1_counts, .ref q_o1_taken, .int v_o1_takesRight, .int v_o1_takesLeft])), (q_o1_taken, .inl (cI, 27, .inl r_o1_taken)), (q_o1_firsts, .inl (cI, 27, .inl r_o1_firsts)), (q_o1_counts, .inl (cI, 27, .inl r_o1_counts)), (q_t_wins, .inl (cI, 512, .inl r_t_wins))] → va_S A s.heap H locs → lv_has ls 5 [(0, .ref q_t), (1, .ref q_o1), (2, .int x2), (3, .int y6), (4, .int y3)] → j7 y6 = some (z0) → W p l e ⟨2, 0, 0, 49⟩ s m ([.ref q_t, .ref q_o1, .int x2] : List Value).toArray below meth c H locs 0 0 (MQ below (QI D cI cC A wE z0) ([.ref q_t, .ref q_o1, .int x2] : List Value).toArray s 0 0 A) (F0 m 28 ls []) := by
          intro y6 H locs ls hP hD hS hl hf
          rw [ej7] at hf
          refine lv_iinc (v := y3 + (1 : Int32)) (lv' := [(4, .int (y3 + (1 : Int32))), (0, .ref q_t), (1, .ref q_o1), (2, .int x2), (3, .int y6)]) hx hb dX2_howManyGood_28 hl (k := 4) rfl rfl (by decide) rfl (fun ls hl => ?_)
          refine lv_goto (tgt := 5) hx hb dX2_howManyGood_31 (by decide) ?_
          exact ih y6 (y3 + (1 : Int32)) _ _ _ hP hD hS (lv_sub hl [1, 2, 3, 4, 0] rfl) hf
        refine lv_if_eq (tgt := 28) hx hb dX2_howManyGood_22 (by decide) (fun c8 => ?_) (fun c8 => ?_)
        · have hf := ip c8 hf
          exact hj7 y2 _ _ _ hP hD hS (lv_sub hl [0, 1, 2, 3, 4] rfl) hf
        · have hf := iq c8 hf
          refine lv_iinc (v := y2 + (1 : Int32)) (lv' := [(3, .int (y2 + (1 : Int32))), (0, .ref q_t), (1, .ref q_o1), (2, .int x2), (4, .int y3)]) hx hb dX2_howManyGood_25 hl (k := 3) rfl rfl (by decide) rfl (fun ls hl => ?_)
          exact hj7 (y2 + (1 : Int32)) _ _ _ hP hD hS (lv_sub hl [1, 2, 3, 0, 4] rfl) hf
  exact hL1 N (0 : Int32) (0 : Int32) _ _ _ hP hD hS (lv_sub hl [2, 3, 4, 1, 0] rfl) hf
-- X3_begin
set_option maxRecDepth 20000 in
theorem in_X3_begin_1 : ∀ w ∈ wsX10, w ∈ wsX3_begin := by decide +kernel
set_option maxRecDepth 20000 in
theorem in_X3_begin_3 : ∀ w ∈ wsX30, w ∈ wsX3_begin := by decide +kernel
set_option maxHeartbeats 4000000 in
set_option maxRecDepth 100000 in
theorem c_X3_begin (l : Launch) (D : va_G) (cI cC : ClassId) (N sz : Nat) (q_t q_t_made q_t_made_kinds q_t_made_laneOf q_t_made_firsts q_t_made_lengths q_t_made_seen : Nat) (v_t_part : Int32) (v_t_made_pins : Int32) (v_t_made_lanes : Int32) (v_t_made_ball : Int32) (v_t_made_law : Int32) (v_t_made_standing : Int32) (v_t_made_struck : Int32) (r_t_made_firsts : Nat → Int32) (r_t_made_lengths : Nat → Int32) (z_v_t_part : Int32) (z_v_t_made_pins : Int32) (z_v_t_made_lanes : Int32) (z_r_t_made_firsts : Nat → Int32) (z_r_t_made_lengths : Nat → Int32) (hf : f_X3_begin N r_t_made_firsts r_t_made_lengths = some (z_v_t_part, z_v_t_made_pins, z_v_t_made_lanes, z_r_t_made_firsts, z_r_t_made_lengths)) : Ct l yX3_begin wsX3_begin ⟨1, 0, 0, 20⟩ [.ref q_t] D cI cC [(q_t, .inr (3, [.ref q_t_made, .int v_t_part])), (q_t_made, .inr (1, [.int v_t_made_pins, .int v_t_made_lanes, .ref q_t_made_kinds, .ref q_t_made_laneOf, .ref q_t_made_firsts, .ref q_t_made_lengths, .int v_t_made_ball, .int v_t_made_law, .int v_t_made_standing, .int v_t_made_struck, .ref q_t_made_seen])), (q_t_made_firsts, .inl (cI, 3, .inl r_t_made_firsts)), (q_t_made_lengths, .inl (cI, 3, .inl r_t_made_lengths))] sz (fun A => (QV D cI cC A [(q_t, .inr (3, [.ref q_t_made, .int z_v_t_part])), (q_t_made, .inr (1, [.int z_v_t_made_pins, .int z_v_t_made_lanes, .ref q_t_made_kinds, .ref q_t_made_laneOf, .ref q_t_made_firsts, .ref q_t_made_lengths, .int v_t_made_ball, .int v_t_made_law, .int v_t_made_standing, .int v_t_made_struck, .ref q_t_made_seen])), (q_t_made_firsts, .inl (cI, 3, .inl z_r_t_made_firsts)), (q_t_made_lengths, .inl (cI, 3, .inl z_r_t_made_lengths))])) := by
  suffices h : ∀ wE : va_W, wE = [(q_t, .inr (3, [.ref q_t_made, .int z_v_t_part])), (q_t_made, .inr (1, [.int z_v_t_made_pins, .int z_v_t_made_lanes, .ref q_t_made_kinds, .ref q_t_made_laneOf, .ref q_t_made_firsts, .ref q_t_made_lengths, .int v_t_made_ball, .int v_t_made_law, .int v_t_made_standing, .int v_t_made_struck, .ref q_t_made_seen])), (q_t_made_firsts, .inl (cI, 3, .inl z_r_t_made_firsts)), (q_t_made_lengths, .inl (cI, 3, .inl z_r_t_made_lengths))] → Ct l yX3_begin wsX3_begin ⟨1, 0, 0, 20⟩ [.ref q_t] D cI cC [(q_t, .inr (3, [.ref q_t_made, .int v_t_part])), (q_t_made, .inr (1, [.int v_t_made_pins, .int v_t_made_lanes, .ref q_t_made_kinds, .ref q_t_made_laneOf, .ref q_t_made_firsts, .ref q_t_made_lengths, .int v_t_made_ball, .int v_t_made_law, .int v_t_made_standing, .int v_t_made_struck, .ref q_t_made_seen])), (q_t_made_firsts, .inl (cI, 3, .inl r_t_made_firsts)), (q_t_made_lengths, .inl (cI, 3, .inl r_t_made_lengths))] sz (fun A => (QV D cI cC A wE)) from h _ rfl
  intro wE hwE
  rw [f_X3_begin] at hf
  refine Ct.beg cX3_begin 1 none [(0, .ref q_t)] RX3 (by decide) rfl rfl (Nat.le_of_ble_eq_true rfl) rfl (fun p e s m below meth c A hx hb hr hts hown hlk hml hnm hK hP hD hS hA hG ls hl => ?_)
  refine lv_aload_n hx hb dX3_begin_0 rfl (lv_at hl 0 rfl) ?_
  refine va_get (D := D) (ci := 3) (v := .ref q_t_made) (C := RX3) (T := TX3) (N := 2) hx hb hts in_X3_begin_3 hown hK hP 0 rfl rfl 0 (by decide) (hts (.fieldLink RX3 12 "PinLanes$Reading" "made" "LPinLanes$Green;") (by decide +kernel)) (fun _ h9 => h9) rfl dX3_begin_1 ?_
  refine lv_iconst (v := (0 : Int32)) hx hb dX3_begin_4 (by decide) ?_
  refine va_put (D := D) (ci := 1) (v := .int (0 : Int32)) (ty := .int) (C := RX1) (T := TX1) (N := 11) hx hb hts in_X3_begin_1 tyX1 tyX1_ok nmX1 hown hK hP hD hS 1 rfl rfl 0 (by decide) (hts (.fieldLink RX3 18 "PinLanes$Green" "pins" "I") (by decide +kernel)) (fun _ h9 => h9) rfl (by decide +kernel) rfl rfl (Nat.le_of_ble_eq_true rfl) dX3_begin_5 (fun H locs hP hD hS => ?_)
  have hP : va_P D vwCl [(q_t, .inr (3, [.ref q_t_made, .int v_t_part])), (q_t_made, .inr (1, [.int (0 : Int32), .int v_t_made_lanes, .ref q_t_made_kinds, .ref q_t_made_laneOf, .ref q_t_made_firsts, .ref q_t_made_lengths, .int v_t_made_ball, .int v_t_made_law, .int v_t_made_standing, .int v_t_made_struck, .ref q_t_made_seen])), (q_t_made_firsts, .inl (cI, 3, .inl r_t_made_firsts)), (q_t_made_lengths, .inl (cI, 3, .inl r_t_made_lengths))] H := hP
  have hD : va_D A [(q_t, .inr (3, [.ref q_t_made, .int v_t_part])), (q_t_made, .inr (1, [.int (0 : Int32), .int v_t_made_lanes, .ref q_t_made_kinds, .ref q_t_made_laneOf, .ref q_t_made_firsts, .ref q_t_made_lengths, .int v_t_made_ball, .int v_t_made_law, .int v_t_made_standing, .int v_t_made_struck, .ref q_t_made_seen])), (q_t_made_firsts, .inl (cI, 3, .inl r_t_made_firsts)), (q_t_made_lengths, .inl (cI, 3, .inl r_t_made_lengths))] := hD
  refine lv_aload_n hx hb dX3_begin_8 rfl (lv_at hl 0 rfl) ?_
  refine va_get (D := D) (ci := 3) (v := .ref q_t_made) (C := RX3) (T := TX3) (N := 2) hx hb hts in_X3_begin_3 hown hK hP 0 rfl rfl 0 (by decide) (hts (.fieldLink RX3 12 "PinLanes$Reading" "made" "LPinLanes$Green;") (by decide +kernel)) (fun _ h9 => h9) rfl dX3_begin_9 ?_
  refine lv_iconst (v := (0 : Int32)) hx hb dX3_begin_12 (by decide) ?_
  refine va_put (D := D) (ci := 1) (v := .int (0 : Int32)) (ty := .int) (C := RX1) (T := TX1) (N := 11) hx hb hts in_X3_begin_1 tyX1 tyX1_ok nmX1 hown hK hP hD hS 1 rfl rfl 1 (by decide) (hts (.fieldLink RX3 22 "PinLanes$Green" "lanes" "I") (by decide +kernel)) (fun _ h9 => h9) rfl (by decide +kernel) rfl rfl (Nat.le_of_ble_eq_true rfl) dX3_begin_13 (fun H locs hP hD hS => ?_)
  have hP : va_P D vwCl [(q_t, .inr (3, [.ref q_t_made, .int v_t_part])), (q_t_made, .inr (1, [.int (0 : Int32), .int (0 : Int32), .ref q_t_made_kinds, .ref q_t_made_laneOf, .ref q_t_made_firsts, .ref q_t_made_lengths, .int v_t_made_ball, .int v_t_made_law, .int v_t_made_standing, .int v_t_made_struck, .ref q_t_made_seen])), (q_t_made_firsts, .inl (cI, 3, .inl r_t_made_firsts)), (q_t_made_lengths, .inl (cI, 3, .inl r_t_made_lengths))] H := hP
  have hD : va_D A [(q_t, .inr (3, [.ref q_t_made, .int v_t_part])), (q_t_made, .inr (1, [.int (0 : Int32), .int (0 : Int32), .ref q_t_made_kinds, .ref q_t_made_laneOf, .ref q_t_made_firsts, .ref q_t_made_lengths, .int v_t_made_ball, .int v_t_made_law, .int v_t_made_standing, .int v_t_made_struck, .ref q_t_made_seen])), (q_t_made_firsts, .inl (cI, 3, .inl r_t_made_firsts)), (q_t_made_lengths, .inl (cI, 3, .inl r_t_made_lengths))] := hD
  refine lv_aload_n hx hb dX3_begin_16 rfl (lv_at hl 0 rfl) ?_
  refine va_get (D := D) (ci := 3) (v := .ref q_t_made) (C := RX3) (T := TX3) (N := 2) hx hb hts in_X3_begin_3 hown hK hP 0 rfl rfl 0 (by decide) (hts (.fieldLink RX3 12 "PinLanes$Reading" "made" "LPinLanes$Green;") (by decide +kernel)) (fun _ h9 => h9) rfl dX3_begin_17 ?_
  obtain ⟨a1, a2, a3, a4, hra1, hf⟩ := ob4_e hf
  refine callVi (As := []) (rest := []) (wn := [(q_t, .inr (3, [.ref q_t_made, .int v_t_part])), (q_t_made, .inr (1, [.int (0 : Int32), .int a2, .ref q_t_made_kinds, .ref q_t_made_laneOf, .ref q_t_made_firsts, .ref q_t_made_lengths, .int v_t_made_ball, .int v_t_made_law, .int v_t_made_standing, .int v_t_made_struck, .ref q_t_made_seen])), (q_t_made_firsts, .inl (cI, 3, .inl a3)), (q_t_made_lengths, .inl (cI, 3, .inl a4))]) (q0 := 0) (ci := 1) ⟨hx, hb, hml, hown, hts⟩ (c_X1_addLane l D cI cC N _ q_t_made q_t_made_kinds q_t_made_laneOf q_t_made_firsts q_t_made_lengths q_t_made_seen (0 : Int32) (0 : Int32) v_t_made_ball v_t_made_law v_t_made_standing v_t_made_struck r_t_made_firsts r_t_made_lengths a1 a2 a3 a4 hra1) (cwV 0 hts gX3_begin_X1_addLane rfl rfl rfl (by decide +kernel) ⟨Nat.le_of_ble_eq_true rfl, Nat.le_of_ble_eq_true rfl⟩) hK hP hD hS hA hG (Cut.mk [1, 2, 3] [0] [0, 1, 2, 3] [(q_t, .inr (3, [.ref q_t_made, .int v_t_part]))] rfl rfl rfl rfl (by decide) rfl rfl) rfl rfl rfl rfl hl.1 rfl (Nat.le_of_ble_eq_true rfl) ⟨Nat.zero_le _, Nat.zero_le _⟩ dX3_begin_20 (fun H locs hP hD hS => ?_)
  refine lv_pop hx hb dX3_begin_23 rfl ?_
  refine lv_aload_n hx hb dX3_begin_24 rfl (lv_at hl 0 rfl) ?_
  refine lv_iconst (v := (0 : Int32)) hx hb dX3_begin_25 (by decide) ?_
  refine va_put (D := D) (ci := 3) (v := .int (0 : Int32)) (ty := .int) (C := RX3) (T := TX3) (N := 2) hx hb hts in_X3_begin_3 tyX3 tyX3_ok nmX3 hown hK hP hD hS 0 rfl rfl 1 (by decide) (hts (.fieldLink RX3 29 "PinLanes$Reading" "part" "I") (by decide +kernel)) (fun _ h9 => h9) rfl (by decide +kernel) rfl rfl (Nat.le_of_ble_eq_true rfl) dX3_begin_26 (fun H locs hP hD hS => ?_)
  have hP : va_P D vwCl [(q_t, .inr (3, [.ref q_t_made, .int (0 : Int32)])), (q_t_made, .inr (1, [.int (0 : Int32), .int a2, .ref q_t_made_kinds, .ref q_t_made_laneOf, .ref q_t_made_firsts, .ref q_t_made_lengths, .int v_t_made_ball, .int v_t_made_law, .int v_t_made_standing, .int v_t_made_struck, .ref q_t_made_seen])), (q_t_made_firsts, .inl (cI, 3, .inl a3)), (q_t_made_lengths, .inl (cI, 3, .inl a4))] H := hP
  have hD : va_D A [(q_t, .inr (3, [.ref q_t_made, .int (0 : Int32)])), (q_t_made, .inr (1, [.int (0 : Int32), .int a2, .ref q_t_made_kinds, .ref q_t_made_laneOf, .ref q_t_made_firsts, .ref q_t_made_lengths, .int v_t_made_ball, .int v_t_made_law, .int v_t_made_standing, .int v_t_made_struck, .ref q_t_made_seen])), (q_t_made_firsts, .inl (cI, 3, .inl a3)), (q_t_made_lengths, .inl (cI, 3, .inl a4))] := hD
  obtain ⟨e1_, e2_, e3_, e4_, e5_⟩ := so5 hf
  exact endV hx hb hr hlk hK (by rw [hwE, ← e1_, ← e2_, ← e3_, ← e4_, ← e5_]; exact hP) (by rw [hwE, ← e1_, ← e2_, ← e3_, ← e4_, ← e5_]; exact hD) hS dX3_begin_29
-- X3_isWhole
set_option maxRecDepth 20000 in
theorem in_X3_isWhole_3 : ∀ w ∈ wsX30, w ∈ wsX3_isWhole := by decide +kernel
set_option maxHeartbeats 4000000 in
set_option maxRecDepth 100000 in
theorem c_X3_isWhole (l : Launch) (D : va_G) (cI cC : ClassId) (N sz : Nat) (q_t q_t_made : Nat) (v_t_part : Int32) (z0 : Int32) (hf : f_X3_isWhole N v_t_part = some (z0)) : Ct l yX3_isWhole wsX3_isWhole ⟨0, 0, 0, 0⟩ [.ref q_t] D cI cC [(q_t, .inr (3, [.ref q_t_made, .int v_t_part]))] sz (fun A => (QI D cI cC A [(q_t, .inr (3, [.ref q_t_made, .int v_t_part]))] z0)) := by
  suffices h : ∀ wE : va_W, wE = [(q_t, .inr (3, [.ref q_t_made, .int v_t_part]))] → Ct l yX3_isWhole wsX3_isWhole ⟨0, 0, 0, 0⟩ [.ref q_t] D cI cC [(q_t, .inr (3, [.ref q_t_made, .int v_t_part]))] sz (fun A => (QI D cI cC A wE z0)) from h _ rfl
  intro wE hwE
  rw [f_X3_isWhole] at hf
  refine Ct.beg cX3_isWhole 1 (some .boolean) [(0, .ref q_t)] RX3 (by decide) rfl rfl (Nat.le_of_ble_eq_true rfl) rfl (fun p e s m below meth c A hx hb hr hts hown hlk hml hnm hK hP hD hS hA hG ls hl => ?_)
  refine lv_aload_n hx hb dX3_isWhole_0 rfl (lv_at hl 0 rfl) ?_
  refine va_get (D := D) (ci := 3) (v := .int v_t_part) (C := RX3) (T := TX3) (N := 2) hx hb hts in_X3_isWhole_3 hown hK hP 0 rfl rfl 1 (by decide) (hts (.fieldLink RX3 29 "PinLanes$Reading" "part" "I") (by decide +kernel)) (fun _ h9 => h9) rfl dX3_isWhole_1 ?_
  refine lv_iconst (v := (3 : Int32)) hx hb dX3_isWhole_4 (by decide) ?_
  refine lv_icmp_ne (tgt := 12) hx hb dX3_isWhole_5 (by decide) (fun c1 => ?_) (fun c1 => ?_)
  · have hf := iq c1 hf
    refine lv_iconst (v := (0 : Int32)) hx hb dX3_isWhole_12 (by decide) ?_
    have e1_ := Option.some.inj hf
    exact endZ hx hb hr rfl hlk hK (by rw [hwE]; exact hP) (by rw [hwE]; exact hD) hS e1_ dX3_isWhole_13
  · have hf := ip c1 hf
    refine lv_iconst (v := (1 : Int32)) hx hb dX3_isWhole_8 (by decide) ?_
    refine lv_goto (tgt := 13) hx hb dX3_isWhole_9 (by decide) ?_
    have e1_ := Option.some.inj hf
    exact endZ hx hb hr rfl hlk hK (by rw [hwE]; exact hP) (by rw [hwE]; exact hD) hS e1_ dX3_isWhole_13
-- X7_isBall
set_option maxHeartbeats 4000000 in
set_option maxRecDepth 100000 in
theorem c_X7_isBall (l : Launch) (D : va_G) (cI cC : ClassId) (N sz : Nat) (x0 : Int32) (z0 : Int32) (hf : f_X7_isBall N x0 = some (z0)) : Ct l yX7_isBall wsX7_isBall ⟨0, 0, 0, 0⟩ [.int x0] D cI cC [] sz (fun A => (QI D cI cC A [] z0)) := by
  suffices h : ∀ wE : va_W, wE = [] → Ct l yX7_isBall wsX7_isBall ⟨0, 0, 0, 0⟩ [.int x0] D cI cC [] sz (fun A => (QI D cI cC A wE z0)) from h _ rfl
  intro wE hwE
  rw [f_X7_isBall] at hf
  refine Ct.beg cX7_isBall 1 (some .boolean) [(0, .int x0)] RX7 (by decide) rfl rfl (Nat.le_of_ble_eq_true rfl) rfl (fun p e s m below meth c A hx hb hr hts hown hlk hml hnm hK hP hD hS hA hG ls hl => ?_)
  refine lv_iload_n hx hb dX7_isBall_0 rfl (lv_at hl 0 rfl) ?_
  refine lv_iconst (v := (1 : Int32)) hx hb dX7_isBall_1 (by decide) ?_
  refine lv_icmp_lt (tgt := 14) hx hb dX7_isBall_2 (by decide) (fun c1 => ?_) (fun c1 => ?_)
  · have hf := ip c1 hf
    refine lv_iconst (v := (0 : Int32)) hx hb dX7_isBall_14 (by decide) ?_
    have e1_ := Option.some.inj hf
    exact endZ hx hb hr rfl hlk hK (by rw [hwE]; exact hP) (by rw [hwE]; exact hD) hS e1_ dX7_isBall_15
  · have hf := iq c1 hf
    refine lv_iload_n hx hb dX7_isBall_5 rfl (lv_at hl 0 rfl) ?_
    refine lv_iconst (v := (3 : Int32)) hx hb dX7_isBall_6 (by decide) ?_
    refine lv_icmp_gt (tgt := 14) hx hb dX7_isBall_7 (by decide) (fun c2 => ?_) (fun c2 => ?_)
    · have hf := ip c2 hf
      refine lv_iconst (v := (0 : Int32)) hx hb dX7_isBall_14 (by decide) ?_
      have e1_ := Option.some.inj hf
      exact endZ hx hb hr rfl hlk hK (by rw [hwE]; exact hP) (by rw [hwE]; exact hD) hS e1_ dX7_isBall_15
    · have hf := iq c2 hf
      refine lv_iconst (v := (1 : Int32)) hx hb dX7_isBall_10 (by decide) ?_
      refine lv_goto (tgt := 15) hx hb dX7_isBall_11 (by decide) ?_
      have e1_ := Option.some.inj hf
      exact endZ hx hb hr rfl hlk hK (by rw [hwE]; exact hP) (by rw [hwE]; exact hD) hS e1_ dX7_isBall_15
-- X3_takesBall
set_option maxRecDepth 20000 in
theorem in_X3_takesBall_1 : ∀ w ∈ wsX10, w ∈ wsX3_takesBall := by decide +kernel
set_option maxRecDepth 20000 in
theorem in_X3_takesBall_3 : ∀ w ∈ wsX30, w ∈ wsX3_takesBall := by decide +kernel
set_option maxHeartbeats 4000000 in
set_option maxRecDepth 100000 in
theorem c_X3_takesBall (l : Launch) (D : va_G) (cI cC : ClassId) (N sz : Nat) (q_t q_t_made q_t_made_kinds q_t_made_laneOf q_t_made_firsts q_t_made_lengths q_t_made_seen : Nat) (v_t_part : Int32) (v_t_made_pins : Int32) (v_t_made_lanes : Int32) (v_t_made_ball : Int32) (v_t_made_law : Int32) (v_t_made_standing : Int32) (v_t_made_struck : Int32) (x1 : Int32) (z0 : Int32) (z_v_t_part : Int32) (z_v_t_made_ball : Int32) (hf : f_X3_takesBall N x1 = some (z0, z_v_t_part, z_v_t_made_ball)) : Ct l yX3_takesBall wsX3_takesBall ⟨1, 0, 0, 20⟩ [.ref q_t, .int x1] D cI cC [(q_t, .inr (3, [.ref q_t_made, .int v_t_part])), (q_t_made, .inr (1, [.int v_t_made_pins, .int v_t_made_lanes, .ref q_t_made_kinds, .ref q_t_made_laneOf, .ref q_t_made_firsts, .ref q_t_made_lengths, .int v_t_made_ball, .int v_t_made_law, .int v_t_made_standing, .int v_t_made_struck, .ref q_t_made_seen]))] sz (fun A => (QI D cI cC A [(q_t, .inr (3, [.ref q_t_made, .int z_v_t_part])), (q_t_made, .inr (1, [.int v_t_made_pins, .int v_t_made_lanes, .ref q_t_made_kinds, .ref q_t_made_laneOf, .ref q_t_made_firsts, .ref q_t_made_lengths, .int z_v_t_made_ball, .int v_t_made_law, .int v_t_made_standing, .int v_t_made_struck, .ref q_t_made_seen]))] z0)) := by
  suffices h : ∀ wE : va_W, wE = [(q_t, .inr (3, [.ref q_t_made, .int z_v_t_part])), (q_t_made, .inr (1, [.int v_t_made_pins, .int v_t_made_lanes, .ref q_t_made_kinds, .ref q_t_made_laneOf, .ref q_t_made_firsts, .ref q_t_made_lengths, .int z_v_t_made_ball, .int v_t_made_law, .int v_t_made_standing, .int v_t_made_struck, .ref q_t_made_seen]))] → Ct l yX3_takesBall wsX3_takesBall ⟨1, 0, 0, 20⟩ [.ref q_t, .int x1] D cI cC [(q_t, .inr (3, [.ref q_t_made, .int v_t_part])), (q_t_made, .inr (1, [.int v_t_made_pins, .int v_t_made_lanes, .ref q_t_made_kinds, .ref q_t_made_laneOf, .ref q_t_made_firsts, .ref q_t_made_lengths, .int v_t_made_ball, .int v_t_made_law, .int v_t_made_standing, .int v_t_made_struck, .ref q_t_made_seen]))] sz (fun A => (QI D cI cC A wE z0)) from h _ rfl
  intro wE hwE
  rw [f_X3_takesBall] at hf
  refine Ct.beg cX3_takesBall 2 (some .boolean) [(0, .ref q_t), (1, .int x1)] RX3 (by decide) rfl rfl (Nat.le_of_ble_eq_true rfl) rfl (fun p e s m below meth c A hx hb hr hts hown hlk hml hnm hK hP hD hS hA hG ls hl => ?_)
  refine lv_aload_n hx hb dX3_takesBall_0 rfl (lv_at hl 0 rfl) ?_
  refine va_get (D := D) (ci := 3) (v := .ref q_t_made) (C := RX3) (T := TX3) (N := 2) hx hb hts in_X3_takesBall_3 hown hK hP 0 rfl rfl 0 (by decide) (hts (.fieldLink RX3 12 "PinLanes$Reading" "made" "LPinLanes$Green;") (by decide +kernel)) (fun _ h9 => h9) rfl dX3_takesBall_1 ?_
  refine lv_iload_n hx hb dX3_takesBall_4 rfl (lv_at hl 1 rfl) ?_
  refine lv_bipush (v := (48 : Int32)) hx hb dX3_takesBall_5 (by decide) ?_
  refine lv_isub hx hb dX3_takesBall_7 ?_
  refine va_put (D := D) (ci := 1) (v := .int (x1 - (48 : Int32))) (ty := .int) (C := RX1) (T := TX1) (N := 11) hx hb hts in_X3_takesBall_1 tyX1 tyX1_ok nmX1 hown hK hP hD hS 1 rfl rfl 6 (by decide) (hts (.fieldLink RX3 57 "PinLanes$Green" "ball" "I") (by decide +kernel)) (fun _ h9 => h9) rfl (by decide +kernel) rfl rfl (Nat.le_of_ble_eq_true rfl) dX3_takesBall_8 (fun H locs hP hD hS => ?_)
  have hP : va_P D vwCl [(q_t, .inr (3, [.ref q_t_made, .int v_t_part])), (q_t_made, .inr (1, [.int v_t_made_pins, .int v_t_made_lanes, .ref q_t_made_kinds, .ref q_t_made_laneOf, .ref q_t_made_firsts, .ref q_t_made_lengths, .int (x1 - (48 : Int32)), .int v_t_made_law, .int v_t_made_standing, .int v_t_made_struck, .ref q_t_made_seen]))] H := hP
  have hD : va_D A [(q_t, .inr (3, [.ref q_t_made, .int v_t_part])), (q_t_made, .inr (1, [.int v_t_made_pins, .int v_t_made_lanes, .ref q_t_made_kinds, .ref q_t_made_laneOf, .ref q_t_made_firsts, .ref q_t_made_lengths, .int (x1 - (48 : Int32)), .int v_t_made_law, .int v_t_made_standing, .int v_t_made_struck, .ref q_t_made_seen]))] := hD
  refine lv_aload_n hx hb dX3_takesBall_11 rfl (lv_at hl 0 rfl) ?_
  refine lv_iconst (v := (2 : Int32)) hx hb dX3_takesBall_12 (by decide) ?_
  refine va_put (D := D) (ci := 3) (v := .int (2 : Int32)) (ty := .int) (C := RX3) (T := TX3) (N := 2) hx hb hts in_X3_takesBall_3 tyX3 tyX3_ok nmX3 hown hK hP hD hS 0 rfl rfl 1 (by decide) (hts (.fieldLink RX3 29 "PinLanes$Reading" "part" "I") (by decide +kernel)) (fun _ h9 => h9) rfl (by decide +kernel) rfl rfl (Nat.le_of_ble_eq_true rfl) dX3_takesBall_13 (fun H locs hP hD hS => ?_)
  have hP : va_P D vwCl [(q_t, .inr (3, [.ref q_t_made, .int (2 : Int32)])), (q_t_made, .inr (1, [.int v_t_made_pins, .int v_t_made_lanes, .ref q_t_made_kinds, .ref q_t_made_laneOf, .ref q_t_made_firsts, .ref q_t_made_lengths, .int (x1 - (48 : Int32)), .int v_t_made_law, .int v_t_made_standing, .int v_t_made_struck, .ref q_t_made_seen]))] H := hP
  have hD : va_D A [(q_t, .inr (3, [.ref q_t_made, .int (2 : Int32)])), (q_t_made, .inr (1, [.int v_t_made_pins, .int v_t_made_lanes, .ref q_t_made_kinds, .ref q_t_made_laneOf, .ref q_t_made_firsts, .ref q_t_made_lengths, .int (x1 - (48 : Int32)), .int v_t_made_law, .int v_t_made_standing, .int v_t_made_struck, .ref q_t_made_seen]))] := hD
  refine lv_aload_n hx hb dX3_takesBall_16 rfl (lv_at hl 0 rfl) ?_
  refine va_get (D := D) (ci := 3) (v := .ref q_t_made) (C := RX3) (T := TX3) (N := 2) hx hb hts in_X3_takesBall_3 hown hK hP 0 rfl rfl 0 (by decide) (hts (.fieldLink RX3 12 "PinLanes$Reading" "made" "LPinLanes$Green;") (by decide +kernel)) (fun _ h9 => h9) rfl dX3_takesBall_17 ?_
  refine va_get (D := D) (ci := 1) (v := .int (x1 - (48 : Int32))) (C := RX1) (T := TX1) (N := 11) hx hb hts in_X3_takesBall_1 hown hK hP 1 rfl rfl 6 (by decide) (hts (.fieldLink RX3 57 "PinLanes$Green" "ball" "I") (by decide +kernel)) (fun _ h9 => h9) rfl dX3_takesBall_20 ?_
  obtain ⟨a1, hra1, hf⟩ := ob1_e hf
  refine callNi (As := [.int (x1 - (48 : Int32))]) (rest := []) (wn := [(q_t, .inr (3, [.ref q_t_made, .int (2 : Int32)])), (q_t_made, .inr (1, [.int v_t_made_pins, .int v_t_made_lanes, .ref q_t_made_kinds, .ref q_t_made_laneOf, .ref q_t_made_firsts, .ref q_t_made_lengths, .int (x1 - (48 : Int32)), .int v_t_made_law, .int v_t_made_standing, .int v_t_made_struck, .ref q_t_made_seen]))]) ⟨hx, hb, hml, hown, hts⟩ (c_X7_isBall l D cI cC N _ (x1 - (48 : Int32)) a1 hra1) ⟨va_cnB 1 hts gX3_takesBall_X7_isBall_n60 rfl rfl rfl (hG.1 (.methodLinkNest "PinLanes$Reading" 60 yX7_isBall "PinLanes") (by decide +kernel)) (hts (.initialized RX7) (by decide +kernel)) (by decide +kernel) ⟨Nat.le_of_ble_eq_true rfl, Nat.le_of_ble_eq_true rfl⟩, hts (.static yX7_isBall) (by decide +kernel), trivial⟩ hK hP hD hS hA hG (Cut.mk [] [0, 1] [0, 1] [(q_t, .inr (3, [.ref q_t_made, .int (2 : Int32)])), (q_t_made, .inr (1, [.int v_t_made_pins, .int v_t_made_lanes, .ref q_t_made_kinds, .ref q_t_made_laneOf, .ref q_t_made_firsts, .ref q_t_made_lengths, .int (x1 - (48 : Int32)), .int v_t_made_law, .int v_t_made_standing, .int v_t_made_struck, .ref q_t_made_seen]))] rfl rfl rfl rfl (by decide) rfl rfl) rfl hl.1 rfl (Nat.le_of_ble_eq_true rfl) ⟨Nat.zero_le _, Nat.zero_le _⟩ dX3_takesBall_23 (fun H locs hP hD hS => ?_)
  obtain ⟨b2, hf⟩ := gd_e hf
  obtain ⟨e1_, e2_, e3_⟩ := so3 hf
  exact endZ hx hb hr (bz_n b2) hlk hK (by rw [hwE, ← e2_, ← e3_]; exact hP) (by rw [hwE, ← e2_, ← e3_]; exact hD) hS e1_ dX3_takesBall_26
-- J0_isLatin1_aae02
set_option maxHeartbeats 4000000 in
set_option maxRecDepth 100000 in
theorem c_J0_isLatin1_aae02 (l : Launch) (D : va_G) (cI cC : ClassId) (N sz : Nat) (aS vS : Nat) (z0 : Int32) (hf : f_J0_isLatin1_aae02 N = some (z0)) : CtE l yJ0_isLatin1_aae02 wsJ0_isLatin1_aae02 ⟨0, 0, 0, 0⟩ [.ref aS] D cI cC [] sz aS vS (fun A => (QI D cI cC A [] z0)) := by
  suffices h : ∀ wE : va_W, wE = [] → CtE l yJ0_isLatin1_aae02 wsJ0_isLatin1_aae02 ⟨0, 0, 0, 0⟩ [.ref aS] D cI cC [] sz aS vS (fun A => (QI D cI cC A wE z0)) from h _ rfl
  intro wE hwE
  rw [f_J0_isLatin1_aae02] at hf
  refine CtE.beg cJ0_isLatin1_aae02 1 (some .boolean) [(0, .ref aS)] RJ0 (by decide) rfl rfl (Nat.le_of_ble_eq_true rfl) rfl (fun p e s m below meth c A hx hb hr hts hown hlk hml hnm hK hP hD hS hA hG hE ls hl => ?_)
  refine va_gets hx hb hE.1 hS hown (hts (.fieldLink RJ0 38 "java/lang/String" "COMPACT_STRINGS" "Z") (by decide +kernel)) (fun _ h9 => h9) dJ0_isLatin1_aae02_0 ?_
  refine lv_if_eq (tgt := 17) hx hb dJ0_isLatin1_aae02_3 (by decide) (fun c1 => ?_) (fun c1 => ?_)
  · have hf := ip c1 hf
    refine lv_iconst (v := (0 : Int32)) hx hb dJ0_isLatin1_aae02_17 (by decide) ?_
    have e1_ := Option.some.inj hf
    exact endZ hx hb hr rfl hlk hK (by rw [hwE]; exact hP) (by rw [hwE]; exact hD) hS e1_ dJ0_isLatin1_aae02_18
  · have hf := iq c1 hf
    refine lv_aload_n hx hb dJ0_isLatin1_aae02_6 rfl (lv_at hl 0 rfl) ?_
    refine vk_getf hx hb hE.2.2.1 hS hown (hts (.fieldLink RJ0 15 "java/lang/String" "coder" "B") (by decide +kernel)) (fun _ h9 => h9) dJ0_isLatin1_aae02_7 ?_
    refine lv_if_ne (tgt := 17) hx hb dJ0_isLatin1_aae02_10 (by decide) (fun c2 => ?_) (fun c2 => ?_)
    · have hf := iq c2 hf
      refine lv_iconst (v := (0 : Int32)) hx hb dJ0_isLatin1_aae02_17 (by decide) ?_
      have e1_ := Option.some.inj hf
      exact endZ hx hb hr rfl hlk hK (by rw [hwE]; exact hP) (by rw [hwE]; exact hD) hS e1_ dJ0_isLatin1_aae02_18
    · have hf := ip c2 hf
      refine lv_iconst (v := (1 : Int32)) hx hb dJ0_isLatin1_aae02_13 (by decide) ?_
      refine lv_goto (tgt := 18) hx hb dJ0_isLatin1_aae02_14 (by decide) ?_
      have e1_ := Option.some.inj hf
      exact endZ hx hb hr rfl hlk hK (by rw [hwE]; exact hP) (by rw [hwE]; exact hD) hS e1_ dJ0_isLatin1_aae02_18
-- J0_coder_7d493
set_option maxHeartbeats 4000000 in
set_option maxRecDepth 100000 in
theorem c_J0_coder_7d493 (l : Launch) (D : va_G) (cI cC : ClassId) (N sz : Nat) (aS vS : Nat) (z0 : Int32) (hf : f_J0_coder_7d493 N = some (z0)) : CtE l yJ0_coder_7d493 wsJ0_coder_7d493 ⟨0, 0, 0, 0⟩ [.ref aS] D cI cC [] sz aS vS (fun A => (QI D cI cC A [] z0)) := by
  suffices h : ∀ wE : va_W, wE = [] → CtE l yJ0_coder_7d493 wsJ0_coder_7d493 ⟨0, 0, 0, 0⟩ [.ref aS] D cI cC [] sz aS vS (fun A => (QI D cI cC A wE z0)) from h _ rfl
  intro wE hwE
  rw [f_J0_coder_7d493] at hf
  refine CtE.beg cJ0_coder_7d493 1 (some .byte) [(0, .ref aS)] RJ0 (by decide) rfl rfl (Nat.le_of_ble_eq_true rfl) rfl (fun p e s m below meth c A hx hb hr hts hown hlk hml hnm hK hP hD hS hA hG hE ls hl => ?_)
  refine va_gets hx hb hE.1 hS hown (hts (.fieldLink RJ0 38 "java/lang/String" "COMPACT_STRINGS" "Z") (by decide +kernel)) (fun _ h9 => h9) dJ0_coder_7d493_0 ?_
  refine lv_if_eq (tgt := 13) hx hb dJ0_coder_7d493_3 (by decide) (fun c1 => ?_) (fun c1 => ?_)
  · have hf := ip c1 hf
    refine lv_iconst (v := (1 : Int32)) hx hb dJ0_coder_7d493_13 (by decide) ?_
    have e1_ := Option.some.inj hf
    exact endZ hx hb hr rfl hlk hK (by rw [hwE]; exact hP) (by rw [hwE]; exact hD) hS e1_ dJ0_coder_7d493_14
  · have hf := iq c1 hf
    refine lv_aload_n hx hb dJ0_coder_7d493_6 rfl (lv_at hl 0 rfl) ?_
    refine vk_getf hx hb hE.2.2.1 hS hown (hts (.fieldLink RJ0 15 "java/lang/String" "coder" "B") (by decide +kernel)) (fun _ h9 => h9) dJ0_coder_7d493_7 ?_
    refine lv_goto (tgt := 14) hx hb dJ0_coder_7d493_10 (by decide) ?_
    have e1_ := Option.some.inj hf
    exact endZ hx hb hr rfl hlk hK (by rw [hwE]; exact hP) (by rw [hwE]; exact hD) hS e1_ dJ0_coder_7d493_14
-- J0_length_8abf5
set_option maxHeartbeats 4000000 in
set_option maxRecDepth 100000 in
theorem c_J0_length_8abf5 (l : Launch) (D : va_G) (cI cC : ClassId) (N sz : Nat) (aS vS : Nat) (z0 : Int32) (hf : f_J0_length_8abf5 N = some (z0)) : CtE l yJ0_length_8abf5 wsJ0_length_8abf5 ⟨1, 0, 0, 20⟩ [.ref aS] D cI cC [] sz aS vS (fun A => (QI D cI cC A [] z0)) := by
  suffices h : ∀ wE : va_W, wE = [] → CtE l yJ0_length_8abf5 wsJ0_length_8abf5 ⟨1, 0, 0, 20⟩ [.ref aS] D cI cC [] sz aS vS (fun A => (QI D cI cC A wE z0)) from h _ rfl
  intro wE hwE
  rw [f_J0_length_8abf5] at hf
  refine CtE.beg cJ0_length_8abf5 1 (some .int) [(0, .ref aS)] RJ0 (by decide) rfl rfl (Nat.le_of_ble_eq_true rfl) rfl (fun p e s m below meth c A hx hb hr hts hown hlk hml hnm hK hP hD hS hA hG hE ls hl => ?_)
  refine lv_aload_n hx hb dJ0_length_8abf5_0 rfl (lv_at hl 0 rfl) ?_
  refine vk_getf hx hb hE.2.2.2.1 hS hown (hts (.fieldLink RJ0 9 "java/lang/String" "value" "[B") (by decide +kernel)) (fun _ h9 => h9) dJ0_length_8abf5_1 ?_
  refine va_tlen (v := Int32.ofNat 5) hx hb hE.2.2.2.2 hS rfl dJ0_length_8abf5_4 ?_
  refine lv_aload_n hx hb dJ0_length_8abf5_5 rfl (lv_at hl 0 rfl) ?_
  obtain ⟨a1, hra1, hf⟩ := ob1_e hf
  refine callEVi (As := []) (rest := [.int (Int32.ofNat 5)]) (wn := []) ⟨hx, hb, hml, hown, hts⟩ (c_J0_coder_7d493 l D cI cC N _ aS vS a1 hra1) hE (cwV 0 hts gJ0_length_8abf5_J0_coder_7d493 rfl rfl rfl (by decide +kernel) ⟨Nat.le_of_ble_eq_true rfl, Nat.le_of_ble_eq_true rfl⟩) hK hP hD hS hA hG (Cut.mk [] [] [] [] rfl rfl rfl rfl (by decide) rfl rfl) rfl hl.1 rfl (Nat.le_of_ble_eq_true rfl) ⟨Nat.zero_le _, Nat.zero_le _⟩ dJ0_length_8abf5_6 (fun H locs hP hD hS => ?_)
  refine lv_ishr hx hb dJ0_length_8abf5_9 ?_
  have e1_ := Option.some.inj hf
  exact endI hx hb hr hlk hK (by rw [hwE]; exact hP) (by rw [hwE]; exact hD) hS e1_ dJ0_length_8abf5_10
-- J1_canEncode_9a6ad
set_option maxHeartbeats 4000000 in
set_option maxRecDepth 100000 in
theorem c_J1_canEncode_9a6ad (l : Launch) (D : va_G) (cI cC : ClassId) (N sz : Nat) (x0 : Int32) (z0 : Int32) (hf : f_J1_canEncode_9a6ad N x0 = some (z0)) : Ct l yJ1_canEncode_9a6ad wsJ1_canEncode_9a6ad ⟨0, 0, 0, 0⟩ [.int x0] D cI cC [] sz (fun A => (QI D cI cC A [] z0)) := by
  suffices h : ∀ wE : va_W, wE = [] → Ct l yJ1_canEncode_9a6ad wsJ1_canEncode_9a6ad ⟨0, 0, 0, 0⟩ [.int x0] D cI cC [] sz (fun A => (QI D cI cC A wE z0)) from h _ rfl
  intro wE hwE
  rw [f_J1_canEncode_9a6ad] at hf
  refine Ct.beg cJ1_canEncode_9a6ad 1 (some .boolean) [(0, .int x0)] RJ1 (by decide) rfl rfl (Nat.le_of_ble_eq_true rfl) rfl (fun p e s m below meth c A hx hb hr hts hown hlk hml hnm hK hP hD hS hA hG ls hl => ?_)
  refine lv_iload_n hx hb dJ1_canEncode_9a6ad_0 rfl (lv_at hl 0 rfl) ?_
  refine lv_if_lt (tgt := 15) hx hb dJ1_canEncode_9a6ad_1 (by decide) (fun c1 => ?_) (fun c1 => ?_)
  · have hf := ip c1 hf
    refine lv_iconst (v := (0 : Int32)) hx hb dJ1_canEncode_9a6ad_15 (by decide) ?_
    have e1_ := Option.some.inj hf
    exact endZ hx hb hr rfl hlk hK (by rw [hwE]; exact hP) (by rw [hwE]; exact hD) hS e1_ dJ1_canEncode_9a6ad_16
  · have hf := iq c1 hf
    refine lv_iload_n hx hb dJ1_canEncode_9a6ad_4 rfl (lv_at hl 0 rfl) ?_
    refine lv_sipush (v := (255 : Int32)) hx hb dJ1_canEncode_9a6ad_5 (by decide) ?_
    refine lv_icmp_gt (tgt := 15) hx hb dJ1_canEncode_9a6ad_8 (by decide) (fun c2 => ?_) (fun c2 => ?_)
    · have hf := ip c2 hf
      refine lv_iconst (v := (0 : Int32)) hx hb dJ1_canEncode_9a6ad_15 (by decide) ?_
      have e1_ := Option.some.inj hf
      exact endZ hx hb hr rfl hlk hK (by rw [hwE]; exact hP) (by rw [hwE]; exact hD) hS e1_ dJ1_canEncode_9a6ad_16
    · have hf := iq c2 hf
      refine lv_iconst (v := (1 : Int32)) hx hb dJ1_canEncode_9a6ad_11 (by decide) ?_
      refine lv_goto (tgt := 16) hx hb dJ1_canEncode_9a6ad_12 (by decide) ?_
      have e1_ := Option.some.inj hf
      exact endZ hx hb hr rfl hlk hK (by rw [hwE]; exact hP) (by rw [hwE]; exact hD) hS e1_ dJ1_canEncode_9a6ad_16
-- J1_indexOfChar_4cfef
set_option maxHeartbeats 4000000 in
set_option maxRecDepth 100000 in
theorem c_J1_indexOfChar_4cfef (l : Launch) (D : va_G) (cI cC : ClassId) (N sz : Nat) (aS vS : Nat) (x1 : Int32) (x2 : Int32) (x3 : Int32) (z0 : Int32) (hf : f_J1_indexOfChar_4cfef N x1 x2 x3 = some (z0)) : CtE l yJ1_indexOfChar_4cfef wsJ1_indexOfChar_4cfef ⟨0, 0, 0, 0⟩ [.ref vS, .int x1, .int x2, .int x3] D cI cC [] sz aS vS (fun A => (QI D cI cC A [] z0)) := by
  suffices h : ∀ wE : va_W, wE = [] → CtE l yJ1_indexOfChar_4cfef wsJ1_indexOfChar_4cfef ⟨0, 0, 0, 0⟩ [.ref vS, .int x1, .int x2, .int x3] D cI cC [] sz aS vS (fun A => (QI D cI cC A wE z0)) from h _ rfl
  intro wE hwE
  rw [f_J1_indexOfChar_4cfef] at hf
  refine CtE.beg cJ1_indexOfChar_4cfef 6 (some .int) [(0, .ref vS), (1, .int x1), (2, .int x2), (3, .int x3)] RJ1 (by decide) rfl rfl (Nat.le_of_ble_eq_true rfl) rfl (fun p e s m below meth c A hx hb hr hts hown hlk hml hnm hK hP hD hS hA hG hE ls hl => ?_)
  refine lv_iload_n hx hb dJ1_indexOfChar_4cfef_0 rfl (lv_at hl 1 rfl) ?_
  refine lv_i2b hx hb dJ1_indexOfChar_4cfef_1 rfl ?_
  refine lv_istore (lv' := [(4, .int x1.toInt8.toInt32), (0, .ref vS), (1, .int x1), (2, .int x2), (3, .int x3)]) hx hb dJ1_indexOfChar_4cfef_2 hl (by decide) rfl (fun ls hl => ?_)
  refine lv_iload_n hx hb dJ1_indexOfChar_4cfef_4 rfl (lv_at hl 3 rfl) ?_
  refine lv_istore (lv' := [(5, .int x2), (4, .int x1.toInt8.toInt32), (0, .ref vS), (1, .int x1), (2, .int x2), (3, .int x3)]) hx hb dJ1_indexOfChar_4cfef_5 hl (by decide) rfl (fun ls hl => ?_)
  have hL1 : ∀ (n : Nat) (y2 : Int32) (H : Heap) (locs : List Loc) (ls : Array Slot), va_P D vwCl [] H → va_D A [] → va_S A s.heap H locs → lv_has ls 6 [(0, .ref vS), (3, .int x3), (4, .int x1.toInt8.toInt32), (5, .int y2)] → f_J1_indexOfChar_4cfef_L7 N x3 x1.toInt8.toInt32 n y2 = some (z0) → W p l e ⟨0, 0, 0, 0⟩ s m ([.ref vS, .int x1, .int x2, .int x3] : List Value).toArray below meth c H locs 0 0 (MQ below (QI D cI cC A wE z0) ([.ref vS, .int x1, .int x2, .int x3] : List Value).toArray s 0 0 A) (F0 m 7 ls []) := by
    intro n
    induction n with
    | zero => intro y2 H locs ls hP hD hS hl hf; rw [f_J1_indexOfChar_4cfef_L7] at hf; cases hf
    | succ n ih =>
      intro y2 H locs ls hP hD hS hl hf
      rw [f_J1_indexOfChar_4cfef_L7] at hf
      refine lv_iload hx hb dJ1_indexOfChar_4cfef_7 (lv_at hl 3 rfl) ?_
      refine lv_iload_n hx hb dJ1_indexOfChar_4cfef_9 rfl (lv_at hl 1 rfl) ?_
      refine lv_icmp_ge (tgt := 31) hx hb dJ1_indexOfChar_4cfef_10 (by decide) (fun c3 => ?_) (fun c3 => ?_)
      · have hf := ip c3 hf
        refine lv_iconst (v := (-1 : Int32)) hx hb dJ1_indexOfChar_4cfef_31 (by decide) ?_
        have e1_ := Option.some.inj hf
        exact endI hx hb hr hlk hK (by rw [hwE]; exact hP) (by rw [hwE]; exact hD) hS e1_ dJ1_indexOfChar_4cfef_32
      · have hf := iq c3 hf
        refine lv_aload_n hx hb dJ1_indexOfChar_4cfef_13 rfl (lv_at hl 0 rfl) ?_
        refine lv_iload hx hb dJ1_indexOfChar_4cfef_14 (lv_at hl 3 rfl) ?_
        obtain ⟨b4, hf⟩ := gd_e hf
        refine va_tb hx hb hE.2.2.2.2 hS (inb_in b4) rfl dJ1_indexOfChar_4cfef_16 ?_
        refine lv_iload hx hb dJ1_indexOfChar_4cfef_17 (lv_at hl 2 rfl) ?_
        refine lv_icmp_ne (tgt := 25) hx hb dJ1_indexOfChar_4cfef_19 (by decide) (fun c5 => ?_) (fun c5 => ?_)
        · have hf := iq c5 hf
          refine lv_iinc (v := y2 + (1 : Int32)) (lv' := [(5, .int (y2 + (1 : Int32))), (0, .ref vS), (3, .int x3), (4, .int x1.toInt8.toInt32)]) hx hb dJ1_indexOfChar_4cfef_25 hl (k := 3) rfl rfl (by decide) rfl (fun ls hl => ?_)
          refine lv_goto (tgt := 7) hx hb dJ1_indexOfChar_4cfef_28 (by decide) ?_
          exact ih (y2 + (1 : Int32)) _ _ _ hP hD hS (lv_sub hl [1, 2, 3, 0] rfl) hf
        · have hf := ip c5 hf
          refine lv_iload hx hb dJ1_indexOfChar_4cfef_22 (lv_at hl 3 rfl) ?_
          have e1_ := Option.some.inj hf
          exact endI hx hb hr hlk hK (by rw [hwE]; exact hP) (by rw [hwE]; exact hD) hS e1_ dJ1_indexOfChar_4cfef_24
  exact hL1 N x2 _ _ _ hP hD hS (lv_sub hl [2, 5, 1, 0] rfl) hf
-- J1_indexOf_4cfef
set_option maxHeartbeats 4000000 in
set_option maxRecDepth 100000 in
theorem c_J1_indexOf_4cfef (l : Launch) (D : va_G) (cI cC : ClassId) (N sz : Nat) (aS vS : Nat) (x1 : Int32) (x2 : Int32) (x3 : Int32) (z0 : Int32) (hf : f_J1_indexOf_4cfef N x1 x2 x3 = some (z0)) : CtE l yJ1_indexOf_4cfef wsJ1_indexOf_4cfef ⟨1, 0, 0, 25⟩ [.ref vS, .int x1, .int x2, .int x3] D cI cC [] sz aS vS (fun A => (QI D cI cC A [] z0)) := by
  suffices h : ∀ wE : va_W, wE = [] → CtE l yJ1_indexOf_4cfef wsJ1_indexOf_4cfef ⟨1, 0, 0, 25⟩ [.ref vS, .int x1, .int x2, .int x3] D cI cC [] sz aS vS (fun A => (QI D cI cC A wE z0)) from h _ rfl
  intro wE hwE
  rw [f_J1_indexOf_4cfef] at hf
  refine CtE.beg cJ1_indexOf_4cfef 4 (some .int) [(0, .ref vS), (1, .int x1), (2, .int x2), (3, .int x3)] RJ1 (by decide) rfl rfl (Nat.le_of_ble_eq_true rfl) rfl (fun p e s m below meth c A hx hb hr hts hown hlk hml hnm hK hP hD hS hA hG hE ls hl => ?_)
  refine lv_iload_n hx hb dJ1_indexOf_4cfef_0 rfl (lv_at hl 1 rfl) ?_
  obtain ⟨a1, hra1, hf⟩ := ob1_e hf
  refine callSi (As := [.int x1]) (rest := []) (wn := []) ⟨hx, hb, hml, hown, hts⟩ (c_J1_canEncode_9a6ad l D cI cC N _ x1 a1 hra1) (va_cwS 1 hts gJ1_indexOf_4cfef_J1_canEncode_9a6ad rfl rfl rfl (by decide +kernel) ⟨Nat.le_of_ble_eq_true rfl, Nat.le_of_ble_eq_true rfl⟩) hK hP hD hS hA hG (Cut.mk [] [] [] [] rfl rfl rfl rfl (by decide) rfl rfl) rfl hl.1 rfl (Nat.le_of_ble_eq_true rfl) ⟨Nat.zero_le _, Nat.zero_le _⟩ dJ1_indexOf_4cfef_1 (fun H locs hP hD hS => ?_)
  refine lv_if_ne (tgt := 9) hx hb dJ1_indexOf_4cfef_4 (by decide) (fun c2 => ?_) (fun c2 => ?_)
  · have hf := iq c2 hf
    refine lv_iload_n hx hb dJ1_indexOf_4cfef_9 rfl (lv_at hl 2 rfl) ?_
    refine lv_iconst (v := (0 : Int32)) hx hb dJ1_indexOf_4cfef_10 (by decide) ?_
    refine va_mmax hx hb (hml.trans hl.1.symm) hown (hts (.methodLink RJ1 92 Lib.Math.max.name) (by decide +kernel)) (hts (.static Lib.Math.max.name) (by decide +kernel)) (hts (.initialized "java/lang/Math") (by decide +kernel)) (hts (.code Lib.Math.max.name Lib.Math.max.code 2 (some .int)) (by decide +kernel)) (Nat.le_of_ble_eq_true rfl) (Nat.le_of_ble_eq_true rfl) (Nat.zero_le _) (Nat.zero_le _) dJ1_indexOf_4cfef_11 ?_
    refine lv_istore_n (lv' := [(2, .int (if x2 < (0 : Int32) then (0 : Int32) else x2)), (0, .ref vS), (1, .int x1), (3, .int x3)]) hx hb dJ1_indexOf_4cfef_14 rfl hl (by decide) rfl (fun ls hl => ?_)
    refine lv_iload_n hx hb dJ1_indexOf_4cfef_15 rfl (lv_at hl 3 rfl) ?_
    refine lv_aload_n hx hb dJ1_indexOf_4cfef_16 rfl (lv_at hl 1 rfl) ?_
    refine va_tlen (v := Int32.ofNat 5) hx hb hE.2.2.2.2 hS rfl dJ1_indexOf_4cfef_17 ?_
    refine va_mmin hx hb (hml.trans hl.1.symm) hown (hts (.methodLink RJ1 38 Lib.Math.min.name) (by decide +kernel)) (hts (.static Lib.Math.min.name) (by decide +kernel)) (hts (.initialized "java/lang/Math") (by decide +kernel)) (hts (.code Lib.Math.min.name Lib.Math.min.code 2 (some .int)) (by decide +kernel)) (Nat.le_of_ble_eq_true rfl) (Nat.le_of_ble_eq_true rfl) (Nat.zero_le _) (Nat.zero_le _) dJ1_indexOf_4cfef_18 ?_
    refine lv_istore_n (lv' := [(3, .int (if (Int32.ofNat 5) < x3 then (Int32.ofNat 5) else x3)), (2, .int (if x2 < (0 : Int32) then (0 : Int32) else x2)), (0, .ref vS), (1, .int x1)]) hx hb dJ1_indexOf_4cfef_21 rfl hl (by decide) rfl (fun ls hl => ?_)
    refine lv_iload_n hx hb dJ1_indexOf_4cfef_22 rfl (lv_at hl 1 rfl) ?_
    refine lv_iload_n hx hb dJ1_indexOf_4cfef_23 rfl (lv_at hl 0 rfl) ?_
    refine lv_icmp_lt (tgt := 29) hx hb dJ1_indexOf_4cfef_24 (by decide) (fun c3 => ?_) (fun c3 => ?_)
    · have hf := ip c3 hf
      refine lv_aload_n hx hb dJ1_indexOf_4cfef_29 rfl (lv_at hl 2 rfl) ?_
      refine lv_iload_n hx hb dJ1_indexOf_4cfef_30 rfl (lv_at hl 3 rfl) ?_
      refine lv_iload_n hx hb dJ1_indexOf_4cfef_31 rfl (lv_at hl 1 rfl) ?_
      refine lv_iload_n hx hb dJ1_indexOf_4cfef_32 rfl (lv_at hl 0 rfl) ?_
      obtain ⟨a4, hra4, hf⟩ := ob1_e hf
      refine callESi (As := [.ref vS, .int x1, .int (if x2 < (0 : Int32) then (0 : Int32) else x2), .int (if (Int32.ofNat 5) < x3 then (Int32.ofNat 5) else x3)]) (rest := []) (wn := []) ⟨hx, hb, hml, hown, hts⟩ (c_J1_indexOfChar_4cfef l D cI cC N _ aS vS x1 (if x2 < (0 : Int32) then (0 : Int32) else x2) (if (Int32.ofNat 5) < x3 then (Int32.ofNat 5) else x3) a4 hra4) hE (va_cwS 4 hts gJ1_indexOf_4cfef_J1_indexOfChar_4cfef rfl rfl rfl (by decide +kernel) ⟨Nat.le_of_ble_eq_true rfl, Nat.le_of_ble_eq_true rfl⟩) hK hP hD hS hA hG (Cut.mk [] [] [] [] rfl rfl rfl rfl (by decide) rfl rfl) rfl hl.1 rfl (Nat.le_of_ble_eq_true rfl) ⟨Nat.zero_le _, Nat.zero_le _⟩ dJ1_indexOf_4cfef_33 (fun H locs hP hD hS => ?_)
      have e1_ := Option.some.inj hf
      exact endI hx hb hr hlk hK (by rw [hwE]; exact hP) (by rw [hwE]; exact hD) hS e1_ dJ1_indexOf_4cfef_36
    · have hf := iq c3 hf
      refine lv_iconst (v := (-1 : Int32)) hx hb dJ1_indexOf_4cfef_27 (by decide) ?_
      have e1_ := Option.some.inj hf
      exact endI hx hb hr hlk hK (by rw [hwE]; exact hP) (by rw [hwE]; exact hD) hS e1_ dJ1_indexOf_4cfef_28
  · have hf := ip c2 hf
    refine lv_iconst (v := (-1 : Int32)) hx hb dJ1_indexOf_4cfef_7 (by decide) ?_
    have e1_ := Option.some.inj hf
    exact endI hx hb hr hlk hK (by rw [hwE]; exact hP) (by rw [hwE]; exact hD) hS e1_ dJ1_indexOf_4cfef_8
-- J0_indexOf_7cf53
set_option maxHeartbeats 4000000 in
set_option maxRecDepth 100000 in
theorem c_J0_indexOf_7cf53 (l : Launch) (D : va_G) (cI cC : ClassId) (N sz : Nat) (aS vS : Nat) (x1 : Int32) (x2 : Int32) (z0 : Int32) (hf : f_J0_indexOf_7cf53 N x1 x2 = some (z0)) : CtE l yJ0_indexOf_7cf53 wsJ0_indexOf_7cf53 ⟨2, 0, 0, 48⟩ [.ref aS, .int x1, .int x2] D cI cC [] sz aS vS (fun A => (QI D cI cC A [] z0)) := by
  suffices h : ∀ wE : va_W, wE = [] → CtE l yJ0_indexOf_7cf53 wsJ0_indexOf_7cf53 ⟨2, 0, 0, 48⟩ [.ref aS, .int x1, .int x2] D cI cC [] sz aS vS (fun A => (QI D cI cC A wE z0)) from h _ rfl
  intro wE hwE
  rw [f_J0_indexOf_7cf53] at hf
  refine CtE.beg cJ0_indexOf_7cf53 3 (some .int) [(0, .ref aS), (1, .int x1), (2, .int x2)] RJ0 (by decide) rfl rfl (Nat.le_of_ble_eq_true rfl) rfl (fun p e s m below meth c A hx hb hr hts hown hlk hml hnm hK hP hD hS hA hG hE ls hl => ?_)
  refine lv_aload_n hx hb dJ0_indexOf_7cf53_0 rfl (lv_at hl 0 rfl) ?_
  obtain ⟨a1, hra1, hf⟩ := ob1_e hf
  refine callEVi (As := []) (rest := []) (wn := []) ⟨hx, hb, hml, hown, hts⟩ (c_J0_isLatin1_aae02 l D cI cC N _ aS vS a1 hra1) hE (cwV 0 hts gJ0_indexOf_7cf53_J0_isLatin1_aae02 rfl rfl rfl (by decide +kernel) ⟨Nat.le_of_ble_eq_true rfl, Nat.le_of_ble_eq_true rfl⟩) hK hP hD hS hA hG (Cut.mk [] [] [] [] rfl rfl rfl rfl (by decide) rfl rfl) rfl hl.1 rfl (Nat.le_of_ble_eq_true rfl) ⟨Nat.zero_le _, Nat.zero_le _⟩ dJ0_indexOf_7cf53_1 (fun H locs hP hD hS => ?_)
  refine lv_if_eq (tgt := 23) hx hb dJ0_indexOf_7cf53_4 (by decide) (fun c2 => ?_) (fun c2 => ?_)
  · have hf := ip c2 hf
    cases hf
  · have hf := iq c2 hf
    refine lv_aload_n hx hb dJ0_indexOf_7cf53_7 rfl (lv_at hl 0 rfl) ?_
    refine vk_getf hx hb hE.2.2.2.1 hS hown (hts (.fieldLink RJ0 9 "java/lang/String" "value" "[B") (by decide +kernel)) (fun _ h9 => h9) dJ0_indexOf_7cf53_8 ?_
    refine lv_iload_n hx hb dJ0_indexOf_7cf53_11 rfl (lv_at hl 1 rfl) ?_
    refine lv_iload_n hx hb dJ0_indexOf_7cf53_12 rfl (lv_at hl 2 rfl) ?_
    refine lv_aload_n hx hb dJ0_indexOf_7cf53_13 rfl (lv_at hl 0 rfl) ?_
    obtain ⟨a3, hra3, hf⟩ := ob1_e hf
    refine callEVi (As := []) (rest := [.int x2, .int x1, .ref vS]) (wn := []) ⟨hx, hb, hml, hown, hts⟩ (c_J0_length_8abf5 l D cI cC N _ aS vS a3 hra3) hE (cwV 0 hts gJ0_indexOf_7cf53_J0_length_8abf5 rfl rfl rfl (by decide +kernel) ⟨Nat.le_of_ble_eq_true rfl, Nat.le_of_ble_eq_true rfl⟩) hK hP hD hS hA hG (Cut.mk [] [] [] [] rfl rfl rfl rfl (by decide) rfl rfl) rfl hl.1 rfl (Nat.le_of_ble_eq_true rfl) ⟨Nat.zero_le _, Nat.zero_le _⟩ dJ0_indexOf_7cf53_14 (fun H locs hP hD hS => ?_)
    obtain ⟨a4, hra4, hf⟩ := ob1_e hf
    refine callESi (As := [.ref vS, .int x1, .int x2, .int a3]) (rest := []) (wn := []) ⟨hx, hb, hml, hown, hts⟩ (c_J1_indexOf_4cfef l D cI cC N _ aS vS x1 x2 a3 a4 hra4) hE (va_cwS 4 hts gJ0_indexOf_7cf53_J1_indexOf_4cfef rfl rfl rfl (by decide +kernel) ⟨Nat.le_of_ble_eq_true rfl, Nat.le_of_ble_eq_true rfl⟩) hK hP hD hS hA hG (Cut.mk [] [] [] [] rfl rfl rfl rfl (by decide) rfl rfl) rfl hl.1 rfl (Nat.le_of_ble_eq_true rfl) ⟨Nat.zero_le _, Nat.zero_le _⟩ dJ0_indexOf_7cf53_17 (fun H locs hP hD hS => ?_)
    refine lv_goto (tgt := 36) hx hb dJ0_indexOf_7cf53_20 (by decide) ?_
    have e1_ := Option.some.inj hf
    exact endI hx hb hr hlk hK (by rw [hwE]; exact hP) (by rw [hwE]; exact hD) hS e1_ dJ0_indexOf_7cf53_36
-- J0_indexOf_0f7a4
set_option maxHeartbeats 4000000 in
set_option maxRecDepth 100000 in
theorem c_J0_indexOf_0f7a4 (l : Launch) (D : va_G) (cI cC : ClassId) (N sz : Nat) (aS vS : Nat) (x1 : Int32) (z0 : Int32) (hf : f_J0_indexOf_0f7a4 N x1 = some (z0)) : CtE l yJ0_indexOf_0f7a4 wsJ0_indexOf_0f7a4 ⟨3, 0, 0, 70⟩ [.ref aS, .int x1] D cI cC [] sz aS vS (fun A => (QI D cI cC A [] z0)) := by
  suffices h : ∀ wE : va_W, wE = [] → CtE l yJ0_indexOf_0f7a4 wsJ0_indexOf_0f7a4 ⟨3, 0, 0, 70⟩ [.ref aS, .int x1] D cI cC [] sz aS vS (fun A => (QI D cI cC A wE z0)) from h _ rfl
  intro wE hwE
  rw [f_J0_indexOf_0f7a4] at hf
  refine CtE.beg cJ0_indexOf_0f7a4 2 (some .int) [(0, .ref aS), (1, .int x1)] RJ0 (by decide) rfl rfl (Nat.le_of_ble_eq_true rfl) rfl (fun p e s m below meth c A hx hb hr hts hown hlk hml hnm hK hP hD hS hA hG hE ls hl => ?_)
  refine lv_aload_n hx hb dJ0_indexOf_0f7a4_0 rfl (lv_at hl 0 rfl) ?_
  refine lv_iload_n hx hb dJ0_indexOf_0f7a4_1 rfl (lv_at hl 1 rfl) ?_
  refine lv_iconst (v := (0 : Int32)) hx hb dJ0_indexOf_0f7a4_2 (by decide) ?_
  obtain ⟨a1, hra1, hf⟩ := ob1_e hf
  refine callEVi (As := [.int x1, .int (0 : Int32)]) (rest := []) (wn := []) ⟨hx, hb, hml, hown, hts⟩ (c_J0_indexOf_7cf53 l D cI cC N _ aS vS x1 (0 : Int32) a1 hra1) hE (cwV 2 hts gJ0_indexOf_0f7a4_J0_indexOf_7cf53 rfl rfl rfl (by decide +kernel) ⟨Nat.le_of_ble_eq_true rfl, Nat.le_of_ble_eq_true rfl⟩) hK hP hD hS hA hG (Cut.mk [] [] [] [] rfl rfl rfl rfl (by decide) rfl rfl) rfl hl.1 rfl (Nat.le_of_ble_eq_true rfl) ⟨Nat.zero_le _, Nat.zero_le _⟩ dJ0_indexOf_0f7a4_3 (fun H locs hP hD hS => ?_)
  have e1_ := Option.some.inj hf
  exact endI hx hb hr hlk hK (by rw [hwE]; exact hP) (by rw [hwE]; exact hD) hS e1_ dJ0_indexOf_0f7a4_6
-- X3_takesInLanes
set_option maxRecDepth 20000 in
theorem in_X3_takesInLanes_3 : ∀ w ∈ wsX30, w ∈ wsX3_takesInLanes := by decide +kernel
set_option maxHeartbeats 4000000 in
set_option maxRecDepth 100000 in
theorem c_X3_takesInLanes (l : Launch) (D : va_G) (cI cC : ClassId) (N sz : Nat) (q_t q_t_made q_t_made_kinds q_t_made_laneOf q_t_made_firsts q_t_made_lengths q_t_made_seen : Nat) (v_t_part : Int32) (v_t_made_pins : Int32) (v_t_made_lanes : Int32) (v_t_made_ball : Int32) (v_t_made_law : Int32) (v_t_made_standing : Int32) (v_t_made_struck : Int32) (r_t_made_lengths : Nat → Int32) (r_t_made_firsts : Nat → Int32) (r_t_made_kinds : Nat → Int32) (r_t_made_laneOf : Nat → Int32) (x1 : Int32) (z0 : Int32) (z_v_t_part : Int32) (z_v_t_made_pins : Int32) (z_v_t_made_lanes : Int32) (z_r_t_made_lengths : Nat → Int32) (z_r_t_made_firsts : Nat → Int32) (z_r_t_made_kinds : Nat → Int32) (z_r_t_made_laneOf : Nat → Int32) (hf : f_X3_takesInLanes N v_t_part v_t_made_pins v_t_made_lanes r_t_made_lengths r_t_made_firsts r_t_made_kinds r_t_made_laneOf x1 = some (z0, z_v_t_part, z_v_t_made_pins, z_v_t_made_lanes, z_r_t_made_lengths, z_r_t_made_firsts, z_r_t_made_kinds, z_r_t_made_laneOf)) : Ct l yX3_takesInLanes wsX3_takesInLanes ⟨4, 0, 0, 91⟩ [.ref q_t, .int x1] D cI cC [(q_t, .inr (3, [.ref q_t_made, .int v_t_part])), (q_t_made, .inr (1, [.int v_t_made_pins, .int v_t_made_lanes, .ref q_t_made_kinds, .ref q_t_made_laneOf, .ref q_t_made_firsts, .ref q_t_made_lengths, .int v_t_made_ball, .int v_t_made_law, .int v_t_made_standing, .int v_t_made_struck, .ref q_t_made_seen])), (q_t_made_lengths, .inl (cI, 3, .inl r_t_made_lengths)), (q_t_made_firsts, .inl (cI, 3, .inl r_t_made_firsts)), (q_t_made_kinds, .inl (cI, 9, .inl r_t_made_kinds)), (q_t_made_laneOf, .inl (cI, 9, .inl r_t_made_laneOf))] sz (fun A => (QI D cI cC A [(q_t, .inr (3, [.ref q_t_made, .int z_v_t_part])), (q_t_made, .inr (1, [.int z_v_t_made_pins, .int z_v_t_made_lanes, .ref q_t_made_kinds, .ref q_t_made_laneOf, .ref q_t_made_firsts, .ref q_t_made_lengths, .int v_t_made_ball, .int v_t_made_law, .int v_t_made_standing, .int v_t_made_struck, .ref q_t_made_seen])), (q_t_made_lengths, .inl (cI, 3, .inl z_r_t_made_lengths)), (q_t_made_firsts, .inl (cI, 3, .inl z_r_t_made_firsts)), (q_t_made_kinds, .inl (cI, 9, .inl z_r_t_made_kinds)), (q_t_made_laneOf, .inl (cI, 9, .inl z_r_t_made_laneOf))] z0)) := by
  suffices h : ∀ wE : va_W, wE = [(q_t, .inr (3, [.ref q_t_made, .int z_v_t_part])), (q_t_made, .inr (1, [.int z_v_t_made_pins, .int z_v_t_made_lanes, .ref q_t_made_kinds, .ref q_t_made_laneOf, .ref q_t_made_firsts, .ref q_t_made_lengths, .int v_t_made_ball, .int v_t_made_law, .int v_t_made_standing, .int v_t_made_struck, .ref q_t_made_seen])), (q_t_made_lengths, .inl (cI, 3, .inl z_r_t_made_lengths)), (q_t_made_firsts, .inl (cI, 3, .inl z_r_t_made_firsts)), (q_t_made_kinds, .inl (cI, 9, .inl z_r_t_made_kinds)), (q_t_made_laneOf, .inl (cI, 9, .inl z_r_t_made_laneOf))] → Ct l yX3_takesInLanes wsX3_takesInLanes ⟨4, 0, 0, 91⟩ [.ref q_t, .int x1] D cI cC [(q_t, .inr (3, [.ref q_t_made, .int v_t_part])), (q_t_made, .inr (1, [.int v_t_made_pins, .int v_t_made_lanes, .ref q_t_made_kinds, .ref q_t_made_laneOf, .ref q_t_made_firsts, .ref q_t_made_lengths, .int v_t_made_ball, .int v_t_made_law, .int v_t_made_standing, .int v_t_made_struck, .ref q_t_made_seen])), (q_t_made_lengths, .inl (cI, 3, .inl r_t_made_lengths)), (q_t_made_firsts, .inl (cI, 3, .inl r_t_made_firsts)), (q_t_made_kinds, .inl (cI, 9, .inl r_t_made_kinds)), (q_t_made_laneOf, .inl (cI, 9, .inl r_t_made_laneOf))] sz (fun A => (QI D cI cC A wE z0)) from h _ rfl
  intro wE hwE
  rw [f_X3_takesInLanes] at hf
  refine Ct.beg cX3_takesInLanes 3 (some .boolean) [(0, .ref q_t), (1, .int x1)] RX3 (by decide) rfl rfl (Nat.le_of_ble_eq_true rfl) rfl (fun p e s m below meth c A hx hb hr hts hown hlk hml hnm hK hP hD hS hA hG ls hl => ?_)
  obtain ⟨aS, vS, hSR, hE⟩ := GP.str hG
  refine lv_iload_n hx hb dX3_takesInLanes_0 rfl (lv_at hl 1 rfl) ?_
  refine lv_bipush (v := (44 : Int32)) hx hb dX3_takesInLanes_1 (by decide) ?_
  refine lv_icmp_ne (tgt := 32) hx hb dX3_takesInLanes_3 (by decide) (fun c1 => ?_) (fun c1 => ?_)
  · have hf := iq c1 hf
    refine lv_iload_n hx hb dX3_takesInLanes_32 rfl (lv_at hl 1 rfl) ?_
    refine lv_bipush (v := (59 : Int32)) hx hb dX3_takesInLanes_33 (by decide) ?_
    refine lv_icmp_ne (tgt := 51) hx hb dX3_takesInLanes_35 (by decide) (fun c2 => ?_) (fun c2 => ?_)
    · have hf := iq c2 hf
      refine va_ldcS hx hb hown hSR dX3_takesInLanes_51 ?_
      refine lv_iload_n hx hb dX3_takesInLanes_53 rfl (lv_at hl 1 rfl) ?_
      obtain ⟨a3, hra3, hf⟩ := ob1_e hf
      refine callEVi (As := [.int x1]) (rest := []) (wn := [(q_t, .inr (3, [.ref q_t_made, .int v_t_part])), (q_t_made, .inr (1, [.int v_t_made_pins, .int v_t_made_lanes, .ref q_t_made_kinds, .ref q_t_made_laneOf, .ref q_t_made_firsts, .ref q_t_made_lengths, .int v_t_made_ball, .int v_t_made_law, .int v_t_made_standing, .int v_t_made_struck, .ref q_t_made_seen])), (q_t_made_lengths, .inl (cI, 3, .inl r_t_made_lengths)), (q_t_made_firsts, .inl (cI, 3, .inl r_t_made_firsts)), (q_t_made_kinds, .inl (cI, 9, .inl r_t_made_kinds)), (q_t_made_laneOf, .inl (cI, 9, .inl r_t_made_laneOf))]) ⟨hx, hb, hml, hown, hts⟩ (c_J0_indexOf_0f7a4 l D cI cC N _ aS vS x1 a3 hra3) hE (cwV 1 hts gX3_takesInLanes_J0_indexOf_0f7a4 rfl rfl rfl (by decide +kernel) ⟨Nat.le_of_ble_eq_true rfl, Nat.le_of_ble_eq_true rfl⟩) hK hP hD hS hA hG (Cut.mk [] [0, 1, 2, 3, 4, 5] [0, 1, 2, 3, 4, 5] [(q_t, .inr (3, [.ref q_t_made, .int v_t_part])), (q_t_made, .inr (1, [.int v_t_made_pins, .int v_t_made_lanes, .ref q_t_made_kinds, .ref q_t_made_laneOf, .ref q_t_made_firsts, .ref q_t_made_lengths, .int v_t_made_ball, .int v_t_made_law, .int v_t_made_standing, .int v_t_made_struck, .ref q_t_made_seen])), (q_t_made_lengths, .inl (cI, 3, .inl r_t_made_lengths)), (q_t_made_firsts, .inl (cI, 3, .inl r_t_made_firsts)), (q_t_made_kinds, .inl (cI, 9, .inl r_t_made_kinds)), (q_t_made_laneOf, .inl (cI, 9, .inl r_t_made_laneOf))] rfl rfl rfl rfl (by decide) rfl rfl) rfl hl.1 rfl (Nat.le_of_ble_eq_true rfl) ⟨Nat.zero_le _, Nat.zero_le _⟩ dX3_takesInLanes_54 (fun H locs hP hD hS => ?_)
      refine lv_istore_n (lv' := [(2, .int a3), (0, .ref q_t), (1, .int x1)]) hx hb dX3_takesInLanes_57 rfl hl (by decide) rfl (fun ls hl => ?_)
      refine lv_iload_n hx hb dX3_takesInLanes_58 rfl (lv_at hl 0 rfl) ?_
      refine lv_if_lt (tgt := 77) hx hb dX3_takesInLanes_59 (by decide) (fun c4 => ?_) (fun c4 => ?_)
      · have hf := ip c4 hf
        refine lv_iconst (v := (0 : Int32)) hx hb dX3_takesInLanes_77 (by decide) ?_
        obtain ⟨e1_, e2_, e3_, e4_, e5_, e6_, e7_, e8_⟩ := so8 hf
        exact endZ hx hb hr rfl hlk hK (by rw [hwE, ← e2_, ← e3_, ← e4_, ← e5_, ← e6_, ← e7_, ← e8_]; exact hP) (by rw [hwE, ← e2_, ← e3_, ← e4_, ← e5_, ← e6_, ← e7_, ← e8_]; exact hD) hS e1_ dX3_takesInLanes_78
      · have hf := iq c4 hf
        refine lv_aload_n hx hb dX3_takesInLanes_62 rfl (lv_at hl 1 rfl) ?_
        refine va_get (D := D) (ci := 3) (v := .ref q_t_made) (C := RX3) (T := TX3) (N := 2) hx hb hts in_X3_takesInLanes_3 hown hK hP 0 rfl rfl 0 (by decide) (hts (.fieldLink RX3 12 "PinLanes$Reading" "made" "LPinLanes$Green;") (by decide +kernel)) (fun _ h9 => h9) rfl dX3_takesInLanes_63 ?_
        refine lv_iload_n hx hb dX3_takesInLanes_66 rfl (lv_at hl 0 rfl) ?_
        obtain ⟨a5, a6, a7, a8, a9, hra5, hf⟩ := ob5_e hf
        refine callVi (As := [.int a3]) (rest := []) (wn := [(q_t, .inr (3, [.ref q_t_made, .int v_t_part])), (q_t_made, .inr (1, [.int a6, .int v_t_made_lanes, .ref q_t_made_kinds, .ref q_t_made_laneOf, .ref q_t_made_firsts, .ref q_t_made_lengths, .int v_t_made_ball, .int v_t_made_law, .int v_t_made_standing, .int v_t_made_struck, .ref q_t_made_seen])), (q_t_made_lengths, .inl (cI, 3, .inl a7)), (q_t_made_firsts, .inl (cI, 3, .inl r_t_made_firsts)), (q_t_made_kinds, .inl (cI, 9, .inl a8)), (q_t_made_laneOf, .inl (cI, 9, .inl a9))]) (q0 := 0) (ci := 1) ⟨hx, hb, hml, hown, hts⟩ (c_X1_addPin l D cI cC N _ q_t_made q_t_made_kinds q_t_made_laneOf q_t_made_firsts q_t_made_lengths q_t_made_seen v_t_made_pins v_t_made_lanes v_t_made_ball v_t_made_law v_t_made_standing v_t_made_struck r_t_made_lengths r_t_made_kinds r_t_made_laneOf a3 a5 a6 a7 a8 a9 hra5) (cwV 1 hts gX3_takesInLanes_X1_addPin rfl rfl rfl (by decide +kernel) ⟨Nat.le_of_ble_eq_true rfl, Nat.le_of_ble_eq_true rfl⟩) hK hP hD hS hA hG (Cut.mk [1, 2, 4, 5] [0, 3] [0, 2, 3, 1, 4, 5] [(q_t, .inr (3, [.ref q_t_made, .int v_t_part])), (q_t_made_firsts, .inl (cI, 3, .inl r_t_made_firsts))] rfl rfl rfl rfl (by decide) rfl rfl) rfl rfl rfl rfl hl.1 rfl (Nat.le_of_ble_eq_true rfl) ⟨Nat.zero_le _, Nat.zero_le _⟩ dX3_takesInLanes_67 (fun H locs hP hD hS => ?_)
        refine lv_if_eq (tgt := 77) hx hb dX3_takesInLanes_70 (by decide) (fun c10 => ?_) (fun c10 => ?_)
        · have hf := ip c10 hf
          refine lv_iconst (v := (0 : Int32)) hx hb dX3_takesInLanes_77 (by decide) ?_
          obtain ⟨e1_, e2_, e3_, e4_, e5_, e6_, e7_, e8_⟩ := so8 hf
          exact endZ hx hb hr rfl hlk hK (by rw [hwE, ← e2_, ← e3_, ← e4_, ← e5_, ← e6_, ← e7_, ← e8_]; exact hP) (by rw [hwE, ← e2_, ← e3_, ← e4_, ← e5_, ← e6_, ← e7_, ← e8_]; exact hD) hS e1_ dX3_takesInLanes_78
        · have hf := iq c10 hf
          refine lv_iconst (v := (1 : Int32)) hx hb dX3_takesInLanes_73 (by decide) ?_
          refine lv_goto (tgt := 78) hx hb dX3_takesInLanes_74 (by decide) ?_
          obtain ⟨e1_, e2_, e3_, e4_, e5_, e6_, e7_, e8_⟩ := so8 hf
          exact endZ hx hb hr rfl hlk hK (by rw [hwE, ← e2_, ← e3_, ← e4_, ← e5_, ← e6_, ← e7_, ← e8_]; exact hP) (by rw [hwE, ← e2_, ← e3_, ← e4_, ← e5_, ← e6_, ← e7_, ← e8_]; exact hD) hS e1_ dX3_takesInLanes_78
    · have hf := ip c2 hf
      refine lv_aload_n hx hb dX3_takesInLanes_38 rfl (lv_at hl 0 rfl) ?_
      refine lv_iconst (v := (1 : Int32)) hx hb dX3_takesInLanes_39 (by decide) ?_
      refine va_put (D := D) (ci := 3) (v := .int (1 : Int32)) (ty := .int) (C := RX3) (T := TX3) (N := 2) hx hb hts in_X3_takesInLanes_3 tyX3 tyX3_ok nmX3 hown hK hP hD hS 0 rfl rfl 1 (by decide) (hts (.fieldLink RX3 29 "PinLanes$Reading" "part" "I") (by decide +kernel)) (fun _ h9 => h9) rfl (by decide +kernel) rfl rfl (Nat.le_of_ble_eq_true rfl) dX3_takesInLanes_40 (fun H locs hP hD hS => ?_)
      have hP : va_P D vwCl [(q_t, .inr (3, [.ref q_t_made, .int (1 : Int32)])), (q_t_made, .inr (1, [.int v_t_made_pins, .int v_t_made_lanes, .ref q_t_made_kinds, .ref q_t_made_laneOf, .ref q_t_made_firsts, .ref q_t_made_lengths, .int v_t_made_ball, .int v_t_made_law, .int v_t_made_standing, .int v_t_made_struck, .ref q_t_made_seen])), (q_t_made_lengths, .inl (cI, 3, .inl r_t_made_lengths)), (q_t_made_firsts, .inl (cI, 3, .inl r_t_made_firsts)), (q_t_made_kinds, .inl (cI, 9, .inl r_t_made_kinds)), (q_t_made_laneOf, .inl (cI, 9, .inl r_t_made_laneOf))] H := hP
      have hD : va_D A [(q_t, .inr (3, [.ref q_t_made, .int (1 : Int32)])), (q_t_made, .inr (1, [.int v_t_made_pins, .int v_t_made_lanes, .ref q_t_made_kinds, .ref q_t_made_laneOf, .ref q_t_made_firsts, .ref q_t_made_lengths, .int v_t_made_ball, .int v_t_made_law, .int v_t_made_standing, .int v_t_made_struck, .ref q_t_made_seen])), (q_t_made_lengths, .inl (cI, 3, .inl r_t_made_lengths)), (q_t_made_firsts, .inl (cI, 3, .inl r_t_made_firsts)), (q_t_made_kinds, .inl (cI, 9, .inl r_t_made_kinds)), (q_t_made_laneOf, .inl (cI, 9, .inl r_t_made_laneOf))] := hD
      refine lv_aload_n hx hb dX3_takesInLanes_43 rfl (lv_at hl 0 rfl) ?_
      refine va_get (D := D) (ci := 3) (v := .ref q_t_made) (C := RX3) (T := TX3) (N := 2) hx hb hts in_X3_takesInLanes_3 hown hK hP 0 rfl rfl 0 (by decide) (hts (.fieldLink RX3 12 "PinLanes$Reading" "made" "LPinLanes$Green;") (by decide +kernel)) (fun _ h9 => h9) rfl dX3_takesInLanes_44 ?_
      obtain ⟨a11, hra11, hf⟩ := ob1_e hf
      refine callVi (As := []) (rest := []) (wn := [(q_t, .inr (3, [.ref q_t_made, .int (1 : Int32)])), (q_t_made, .inr (1, [.int v_t_made_pins, .int v_t_made_lanes, .ref q_t_made_kinds, .ref q_t_made_laneOf, .ref q_t_made_firsts, .ref q_t_made_lengths, .int v_t_made_ball, .int v_t_made_law, .int v_t_made_standing, .int v_t_made_struck, .ref q_t_made_seen])), (q_t_made_lengths, .inl (cI, 3, .inl r_t_made_lengths)), (q_t_made_firsts, .inl (cI, 3, .inl r_t_made_firsts)), (q_t_made_kinds, .inl (cI, 9, .inl r_t_made_kinds)), (q_t_made_laneOf, .inl (cI, 9, .inl r_t_made_laneOf))]) (q0 := 0) (ci := 1) ⟨hx, hb, hml, hown, hts⟩ (c_X1_lastLaneHasPins l D cI cC N _ q_t_made q_t_made_kinds q_t_made_laneOf q_t_made_firsts q_t_made_lengths q_t_made_seen v_t_made_pins v_t_made_lanes v_t_made_ball v_t_made_law v_t_made_standing v_t_made_struck r_t_made_lengths a11 hra11) (cwV 0 hts gX3_takesInLanes_X1_lastLaneHasPins rfl rfl rfl (by decide +kernel) ⟨Nat.le_of_ble_eq_true rfl, Nat.le_of_ble_eq_true rfl⟩) hK hP hD hS hA hG (Cut.mk [1, 2] [0, 3, 4, 5] [0, 4, 5, 1, 2, 3] [(q_t, .inr (3, [.ref q_t_made, .int (1 : Int32)])), (q_t_made_firsts, .inl (cI, 3, .inl r_t_made_firsts)), (q_t_made_kinds, .inl (cI, 9, .inl r_t_made_kinds)), (q_t_made_laneOf, .inl (cI, 9, .inl r_t_made_laneOf))] rfl rfl rfl rfl (by decide) rfl rfl) rfl rfl rfl rfl hl.1 rfl (Nat.le_of_ble_eq_true rfl) ⟨Nat.zero_le _, Nat.zero_le _⟩ dX3_takesInLanes_47 (fun H locs hP hD hS => ?_)
      obtain ⟨b12, hf⟩ := gd_e hf
      obtain ⟨e1_, e2_, e3_, e4_, e5_, e6_, e7_, e8_⟩ := so8 hf
      exact endZ hx hb hr (bz_n b12) hlk hK (by rw [hwE, ← e2_, ← e3_, ← e4_, ← e5_, ← e6_, ← e7_, ← e8_]; exact hP) (by rw [hwE, ← e2_, ← e3_, ← e4_, ← e5_, ← e6_, ← e7_, ← e8_]; exact hD) hS e1_ dX3_takesInLanes_50
  · have hf := ip c1 hf
    refine lv_aload_n hx hb dX3_takesInLanes_6 rfl (lv_at hl 0 rfl) ?_
    refine va_get (D := D) (ci := 3) (v := .ref q_t_made) (C := RX3) (T := TX3) (N := 2) hx hb hts in_X3_takesInLanes_3 hown hK hP 0 rfl rfl 0 (by decide) (hts (.fieldLink RX3 12 "PinLanes$Reading" "made" "LPinLanes$Green;") (by decide +kernel)) (fun _ h9 => h9) rfl dX3_takesInLanes_7 ?_
    obtain ⟨a13, hra13, hf⟩ := ob1_e hf
    refine callVi (As := []) (rest := []) (wn := [(q_t, .inr (3, [.ref q_t_made, .int v_t_part])), (q_t_made, .inr (1, [.int v_t_made_pins, .int v_t_made_lanes, .ref q_t_made_kinds, .ref q_t_made_laneOf, .ref q_t_made_firsts, .ref q_t_made_lengths, .int v_t_made_ball, .int v_t_made_law, .int v_t_made_standing, .int v_t_made_struck, .ref q_t_made_seen])), (q_t_made_lengths, .inl (cI, 3, .inl r_t_made_lengths)), (q_t_made_firsts, .inl (cI, 3, .inl r_t_made_firsts)), (q_t_made_kinds, .inl (cI, 9, .inl r_t_made_kinds)), (q_t_made_laneOf, .inl (cI, 9, .inl r_t_made_laneOf))]) (q0 := 0) (ci := 1) ⟨hx, hb, hml, hown, hts⟩ (c_X1_lastLaneHasPins l D cI cC N _ q_t_made q_t_made_kinds q_t_made_laneOf q_t_made_firsts q_t_made_lengths q_t_made_seen v_t_made_pins v_t_made_lanes v_t_made_ball v_t_made_law v_t_made_standing v_t_made_struck r_t_made_lengths a13 hra13) (cwV 0 hts gX3_takesInLanes_X1_lastLaneHasPins rfl rfl rfl (by decide +kernel) ⟨Nat.le_of_ble_eq_true rfl, Nat.le_of_ble_eq_true rfl⟩) hK hP hD hS hA hG (Cut.mk [1, 2] [0, 3, 4, 5] [0, 4, 5, 1, 2, 3] [(q_t, .inr (3, [.ref q_t_made, .int v_t_part])), (q_t_made_firsts, .inl (cI, 3, .inl r_t_made_firsts)), (q_t_made_kinds, .inl (cI, 9, .inl r_t_made_kinds)), (q_t_made_laneOf, .inl (cI, 9, .inl r_t_made_laneOf))] rfl rfl rfl rfl (by decide) rfl rfl) rfl rfl rfl rfl hl.1 rfl (Nat.le_of_ble_eq_true rfl) ⟨Nat.zero_le _, Nat.zero_le _⟩ dX3_takesInLanes_10 (fun H locs hP hD hS => ?_)
    refine lv_if_eq (tgt := 30) hx hb dX3_takesInLanes_13 (by decide) (fun c14 => ?_) (fun c14 => ?_)
    · have hf := ip c14 hf
      refine lv_iconst (v := (0 : Int32)) hx hb dX3_takesInLanes_30 (by decide) ?_
      obtain ⟨e1_, e2_, e3_, e4_, e5_, e6_, e7_, e8_⟩ := so8 hf
      exact endZ hx hb hr rfl hlk hK (by rw [hwE, ← e2_, ← e3_, ← e4_, ← e5_, ← e6_, ← e7_, ← e8_]; exact hP) (by rw [hwE, ← e2_, ← e3_, ← e4_, ← e5_, ← e6_, ← e7_, ← e8_]; exact hD) hS e1_ dX3_takesInLanes_31
    · have hf := iq c14 hf
      refine lv_aload_n hx hb dX3_takesInLanes_16 rfl (lv_at hl 0 rfl) ?_
      refine va_get (D := D) (ci := 3) (v := .ref q_t_made) (C := RX3) (T := TX3) (N := 2) hx hb hts in_X3_takesInLanes_3 hown hK hP 0 rfl rfl 0 (by decide) (hts (.fieldLink RX3 12 "PinLanes$Reading" "made" "LPinLanes$Green;") (by decide +kernel)) (fun _ h9 => h9) rfl dX3_takesInLanes_17 ?_
      obtain ⟨a15, a16, a17, a18, hra15, hf⟩ := ob4_e hf
      refine callVi (As := []) (rest := []) (wn := [(q_t, .inr (3, [.ref q_t_made, .int v_t_part])), (q_t_made, .inr (1, [.int v_t_made_pins, .int a16, .ref q_t_made_kinds, .ref q_t_made_laneOf, .ref q_t_made_firsts, .ref q_t_made_lengths, .int v_t_made_ball, .int v_t_made_law, .int v_t_made_standing, .int v_t_made_struck, .ref q_t_made_seen])), (q_t_made_lengths, .inl (cI, 3, .inl a18)), (q_t_made_firsts, .inl (cI, 3, .inl a17)), (q_t_made_kinds, .inl (cI, 9, .inl r_t_made_kinds)), (q_t_made_laneOf, .inl (cI, 9, .inl r_t_made_laneOf))]) (q0 := 0) (ci := 1) ⟨hx, hb, hml, hown, hts⟩ (c_X1_addLane l D cI cC N _ q_t_made q_t_made_kinds q_t_made_laneOf q_t_made_firsts q_t_made_lengths q_t_made_seen v_t_made_pins v_t_made_lanes v_t_made_ball v_t_made_law v_t_made_standing v_t_made_struck r_t_made_firsts r_t_made_lengths a15 a16 a17 a18 hra15) (cwV 0 hts gX3_takesInLanes_X1_addLane rfl rfl rfl (by decide +kernel) ⟨Nat.le_of_ble_eq_true rfl, Nat.le_of_ble_eq_true rfl⟩) hK hP hD hS hA hG (Cut.mk [1, 3, 2] [0, 4, 5] [0, 3, 5, 4, 1, 2] [(q_t, .inr (3, [.ref q_t_made, .int v_t_part])), (q_t_made_kinds, .inl (cI, 9, .inl r_t_made_kinds)), (q_t_made_laneOf, .inl (cI, 9, .inl r_t_made_laneOf))] rfl rfl rfl rfl (by decide) rfl rfl) rfl rfl rfl rfl hl.1 rfl (Nat.le_of_ble_eq_true rfl) ⟨Nat.zero_le _, Nat.zero_le _⟩ dX3_takesInLanes_20 (fun H locs hP hD hS => ?_)
      refine lv_if_eq (tgt := 30) hx hb dX3_takesInLanes_23 (by decide) (fun c19 => ?_) (fun c19 => ?_)
      · have hf := ip c19 hf
        refine lv_iconst (v := (0 : Int32)) hx hb dX3_takesInLanes_30 (by decide) ?_
        obtain ⟨e1_, e2_, e3_, e4_, e5_, e6_, e7_, e8_⟩ := so8 hf
        exact endZ hx hb hr rfl hlk hK (by rw [hwE, ← e2_, ← e3_, ← e4_, ← e5_, ← e6_, ← e7_, ← e8_]; exact hP) (by rw [hwE, ← e2_, ← e3_, ← e4_, ← e5_, ← e6_, ← e7_, ← e8_]; exact hD) hS e1_ dX3_takesInLanes_31
      · have hf := iq c19 hf
        refine lv_iconst (v := (1 : Int32)) hx hb dX3_takesInLanes_26 (by decide) ?_
        refine lv_goto (tgt := 31) hx hb dX3_takesInLanes_27 (by decide) ?_
        obtain ⟨e1_, e2_, e3_, e4_, e5_, e6_, e7_, e8_⟩ := so8 hf
        exact endZ hx hb hr rfl hlk hK (by rw [hwE, ← e2_, ← e3_, ← e4_, ← e5_, ← e6_, ← e7_, ← e8_]; exact hP) (by rw [hwE, ← e2_, ← e3_, ← e4_, ← e5_, ← e6_, ← e7_, ← e8_]; exact hD) hS e1_ dX3_takesInLanes_31
-- X3_takesLaw
set_option maxRecDepth 20000 in
theorem in_X3_takesLaw_1 : ∀ w ∈ wsX10, w ∈ wsX3_takesLaw := by decide +kernel
set_option maxRecDepth 20000 in
theorem in_X3_takesLaw_3 : ∀ w ∈ wsX30, w ∈ wsX3_takesLaw := by decide +kernel
set_option maxHeartbeats 4000000 in
set_option maxRecDepth 100000 in
theorem c_X3_takesLaw (l : Launch) (D : va_G) (cI cC : ClassId) (N sz : Nat) (q_t q_t_made q_t_made_kinds q_t_made_laneOf q_t_made_firsts q_t_made_lengths q_t_made_seen : Nat) (v_t_part : Int32) (v_t_made_pins : Int32) (v_t_made_lanes : Int32) (v_t_made_ball : Int32) (v_t_made_law : Int32) (v_t_made_standing : Int32) (v_t_made_struck : Int32) (x1 : Int32) (z0 : Int32) (z_v_t_part : Int32) (z_v_t_made_law : Int32) (hf : f_X3_takesLaw N x1 = some (z0, z_v_t_part, z_v_t_made_law)) : Ct l yX3_takesLaw wsX3_takesLaw ⟨0, 0, 0, 0⟩ [.ref q_t, .int x1] D cI cC [(q_t, .inr (3, [.ref q_t_made, .int v_t_part])), (q_t_made, .inr (1, [.int v_t_made_pins, .int v_t_made_lanes, .ref q_t_made_kinds, .ref q_t_made_laneOf, .ref q_t_made_firsts, .ref q_t_made_lengths, .int v_t_made_ball, .int v_t_made_law, .int v_t_made_standing, .int v_t_made_struck, .ref q_t_made_seen]))] sz (fun A => (QI D cI cC A [(q_t, .inr (3, [.ref q_t_made, .int z_v_t_part])), (q_t_made, .inr (1, [.int v_t_made_pins, .int v_t_made_lanes, .ref q_t_made_kinds, .ref q_t_made_laneOf, .ref q_t_made_firsts, .ref q_t_made_lengths, .int v_t_made_ball, .int z_v_t_made_law, .int v_t_made_standing, .int v_t_made_struck, .ref q_t_made_seen]))] z0)) := by
  suffices h : ∀ wE : va_W, wE = [(q_t, .inr (3, [.ref q_t_made, .int z_v_t_part])), (q_t_made, .inr (1, [.int v_t_made_pins, .int v_t_made_lanes, .ref q_t_made_kinds, .ref q_t_made_laneOf, .ref q_t_made_firsts, .ref q_t_made_lengths, .int v_t_made_ball, .int z_v_t_made_law, .int v_t_made_standing, .int v_t_made_struck, .ref q_t_made_seen]))] → Ct l yX3_takesLaw wsX3_takesLaw ⟨0, 0, 0, 0⟩ [.ref q_t, .int x1] D cI cC [(q_t, .inr (3, [.ref q_t_made, .int v_t_part])), (q_t_made, .inr (1, [.int v_t_made_pins, .int v_t_made_lanes, .ref q_t_made_kinds, .ref q_t_made_laneOf, .ref q_t_made_firsts, .ref q_t_made_lengths, .int v_t_made_ball, .int v_t_made_law, .int v_t_made_standing, .int v_t_made_struck, .ref q_t_made_seen]))] sz (fun A => (QI D cI cC A wE z0)) from h _ rfl
  intro wE hwE
  rw [f_X3_takesLaw] at hf
  refine Ct.beg cX3_takesLaw 2 (some .boolean) [(0, .ref q_t), (1, .int x1)] RX3 (by decide) rfl rfl (Nat.le_of_ble_eq_true rfl) rfl (fun p e s m below meth c A hx hb hr hts hown hlk hml hnm hK hP hD hS hA hG ls hl => ?_)
  refine lv_aload_n hx hb dX3_takesLaw_0 rfl (lv_at hl 0 rfl) ?_
  refine va_get (D := D) (ci := 3) (v := .ref q_t_made) (C := RX3) (T := TX3) (N := 2) hx hb hts in_X3_takesLaw_3 hown hK hP 0 rfl rfl 0 (by decide) (hts (.fieldLink RX3 12 "PinLanes$Reading" "made" "LPinLanes$Green;") (by decide +kernel)) (fun _ h9 => h9) rfl dX3_takesLaw_1 ?_
  refine lv_iload_n hx hb dX3_takesLaw_4 rfl (lv_at hl 1 rfl) ?_
  refine lv_bipush (v := (108 : Int32)) hx hb dX3_takesLaw_5 (by decide) ?_
  obtain ⟨j2, ej2, hf⟩ := jm_e hf
  have hj2 : ∀ (y1 : Int32) (H : Heap) (locs : List Loc) (ls : Array Slot), va_P D vwCl [(q_t, .inr (3, [.ref q_t_made, .int v_t_part])), (q_t_made, .inr (1, [.int v_t_made_pins, .int v_t_made_lanes, .ref q_t_made_kinds, .ref q_t_made_laneOf, .ref q_t_made_firsts, .ref q_t_made_lengths, .int v_t_made_ball, .int v_t_made_law, .int v_t_made_standing, .int v_t_made_struck, .ref q_t_made_seen]))] H → va_D A [(q_t, .inr (3, [.ref q_t_made, .int v_t_part])), (q_t_made, .inr (1, [.int v_t_made_pins, .int v_t_made_lanes, .ref q_t_made_kinds, .ref q_t_made_laneOf, .ref q_t_made_firsts, .ref q_t_made_lengths, .int v_t_made_ball, .int v_t_made_law, .int v_t_made_standing, .int v_t_made_struck, .ref q_t_made_seen]))] → va_S A s.heap H locs → lv_has ls 2 [(0, .ref q_t), (1, .int x1)] → j2 y1 = some (z0, z_v_t_part, z_v_t_made_law) → W p l e ⟨0, 0, 0, 0⟩ s m ([.ref q_t, .int x1] : List Value).toArray below meth c H locs 0 0 (MQ below (QI D cI cC A wE z0) ([.ref q_t, .int x1] : List Value).toArray s 0 0 A) (F0 m 15 ls [.int y1, .ref q_t_made]) := by
    intro y1 H locs ls hP hD hS hl hf
    rw [ej2] at hf
    refine va_put (D := D) (ci := 1) (v := .int y1) (ty := .int) (C := RX1) (T := TX1) (N := 11) hx hb hts in_X3_takesLaw_1 tyX1 tyX1_ok nmX1 hown hK hP hD hS 1 rfl rfl 7 (by decide) (hts (.fieldLink RX3 63 "PinLanes$Green" "law" "I") (by decide +kernel)) (fun _ h9 => h9) rfl (by decide +kernel) rfl rfl (Nat.le_of_ble_eq_true rfl) dX3_takesLaw_15 (fun H locs hP hD hS => ?_)
    have hP : va_P D vwCl [(q_t, .inr (3, [.ref q_t_made, .int v_t_part])), (q_t_made, .inr (1, [.int v_t_made_pins, .int v_t_made_lanes, .ref q_t_made_kinds, .ref q_t_made_laneOf, .ref q_t_made_firsts, .ref q_t_made_lengths, .int v_t_made_ball, .int y1, .int v_t_made_standing, .int v_t_made_struck, .ref q_t_made_seen]))] H := hP
    have hD : va_D A [(q_t, .inr (3, [.ref q_t_made, .int v_t_part])), (q_t_made, .inr (1, [.int v_t_made_pins, .int v_t_made_lanes, .ref q_t_made_kinds, .ref q_t_made_laneOf, .ref q_t_made_firsts, .ref q_t_made_lengths, .int v_t_made_ball, .int y1, .int v_t_made_standing, .int v_t_made_struck, .ref q_t_made_seen]))] := hD
    refine lv_aload_n hx hb dX3_takesLaw_18 rfl (lv_at hl 0 rfl) ?_
    refine lv_iconst (v := (3 : Int32)) hx hb dX3_takesLaw_19 (by decide) ?_
    refine va_put (D := D) (ci := 3) (v := .int (3 : Int32)) (ty := .int) (C := RX3) (T := TX3) (N := 2) hx hb hts in_X3_takesLaw_3 tyX3 tyX3_ok nmX3 hown hK hP hD hS 0 rfl rfl 1 (by decide) (hts (.fieldLink RX3 29 "PinLanes$Reading" "part" "I") (by decide +kernel)) (fun _ h9 => h9) rfl (by decide +kernel) rfl rfl (Nat.le_of_ble_eq_true rfl) dX3_takesLaw_20 (fun H locs hP hD hS => ?_)
    have hP : va_P D vwCl [(q_t, .inr (3, [.ref q_t_made, .int (3 : Int32)])), (q_t_made, .inr (1, [.int v_t_made_pins, .int v_t_made_lanes, .ref q_t_made_kinds, .ref q_t_made_laneOf, .ref q_t_made_firsts, .ref q_t_made_lengths, .int v_t_made_ball, .int y1, .int v_t_made_standing, .int v_t_made_struck, .ref q_t_made_seen]))] H := hP
    have hD : va_D A [(q_t, .inr (3, [.ref q_t_made, .int (3 : Int32)])), (q_t_made, .inr (1, [.int v_t_made_pins, .int v_t_made_lanes, .ref q_t_made_kinds, .ref q_t_made_laneOf, .ref q_t_made_firsts, .ref q_t_made_lengths, .int v_t_made_ball, .int y1, .int v_t_made_standing, .int v_t_made_struck, .ref q_t_made_seen]))] := hD
    refine lv_iload_n hx hb dX3_takesLaw_23 rfl (lv_at hl 1 rfl) ?_
    refine lv_bipush (v := (119 : Int32)) hx hb dX3_takesLaw_24 (by decide) ?_
    refine lv_icmp_eq (tgt := 35) hx hb dX3_takesLaw_26 (by decide) (fun c3 => ?_) (fun c3 => ?_)
    · have hf := ip c3 hf
      refine lv_iconst (v := (1 : Int32)) hx hb dX3_takesLaw_35 (by decide) ?_
      refine lv_goto (tgt := 40) hx hb dX3_takesLaw_36 (by decide) ?_
      obtain ⟨e1_, e2_, e3_⟩ := so3 hf
      exact endZ hx hb hr rfl hlk hK (by rw [hwE, ← e2_, ← e3_]; exact hP) (by rw [hwE, ← e2_, ← e3_]; exact hD) hS e1_ dX3_takesLaw_40
    · have hf := iq c3 hf
      refine lv_iload_n hx hb dX3_takesLaw_29 rfl (lv_at hl 1 rfl) ?_
      refine lv_bipush (v := (108 : Int32)) hx hb dX3_takesLaw_30 (by decide) ?_
      refine lv_icmp_ne (tgt := 39) hx hb dX3_takesLaw_32 (by decide) (fun c4 => ?_) (fun c4 => ?_)
      · have hf := iq c4 hf
        refine lv_iconst (v := (0 : Int32)) hx hb dX3_takesLaw_39 (by decide) ?_
        obtain ⟨e1_, e2_, e3_⟩ := so3 hf
        exact endZ hx hb hr rfl hlk hK (by rw [hwE, ← e2_, ← e3_]; exact hP) (by rw [hwE, ← e2_, ← e3_]; exact hD) hS e1_ dX3_takesLaw_40
      · have hf := ip c4 hf
        refine lv_iconst (v := (1 : Int32)) hx hb dX3_takesLaw_35 (by decide) ?_
        refine lv_goto (tgt := 40) hx hb dX3_takesLaw_36 (by decide) ?_
        obtain ⟨e1_, e2_, e3_⟩ := so3 hf
        exact endZ hx hb hr rfl hlk hK (by rw [hwE, ← e2_, ← e3_]; exact hP) (by rw [hwE, ← e2_, ← e3_]; exact hD) hS e1_ dX3_takesLaw_40
  refine lv_icmp_ne (tgt := 14) hx hb dX3_takesLaw_7 (by decide) (fun c5 => ?_) (fun c5 => ?_)
  · have hf := iq c5 hf
    refine lv_iconst (v := (0 : Int32)) hx hb dX3_takesLaw_14 (by decide) ?_
    exact hj2 (0 : Int32) _ _ _ hP hD hS (lv_sub hl [0, 1] rfl) hf
  · have hf := ip c5 hf
    refine lv_iconst (v := (1 : Int32)) hx hb dX3_takesLaw_10 (by decide) ?_
    refine lv_goto (tgt := 15) hx hb dX3_takesLaw_11 (by decide) ?_
    exact hj2 (1 : Int32) _ _ _ hP hD hS (lv_sub hl [0, 1] rfl) hf
-- X3_takes
set_option maxRecDepth 20000 in
theorem in_X3_takes_3 : ∀ w ∈ wsX30, w ∈ wsX3_takes := by decide +kernel
set_option maxHeartbeats 4000000 in
set_option maxRecDepth 100000 in
theorem c_X3_takes (l : Launch) (D : va_G) (cI cC : ClassId) (N sz : Nat) (q_t q_t_made q_t_made_kinds q_t_made_laneOf q_t_made_firsts q_t_made_lengths q_t_made_seen : Nat) (v_t_part : Int32) (v_t_made_pins : Int32) (v_t_made_lanes : Int32) (v_t_made_ball : Int32) (v_t_made_law : Int32) (v_t_made_standing : Int32) (v_t_made_struck : Int32) (r_t_made_lengths : Nat → Int32) (r_t_made_firsts : Nat → Int32) (r_t_made_kinds : Nat → Int32) (r_t_made_laneOf : Nat → Int32) (x1 : Int32) (z0 : Int32) (z_v_t_part : Int32) (z_v_t_made_pins : Int32) (z_v_t_made_lanes : Int32) (z_v_t_made_ball : Int32) (z_v_t_made_law : Int32) (z_r_t_made_lengths : Nat → Int32) (z_r_t_made_firsts : Nat → Int32) (z_r_t_made_kinds : Nat → Int32) (z_r_t_made_laneOf : Nat → Int32) (hf : f_X3_takes N v_t_part v_t_made_pins v_t_made_lanes v_t_made_ball v_t_made_law r_t_made_lengths r_t_made_firsts r_t_made_kinds r_t_made_laneOf x1 = some (z0, z_v_t_part, z_v_t_made_pins, z_v_t_made_lanes, z_v_t_made_ball, z_v_t_made_law, z_r_t_made_lengths, z_r_t_made_firsts, z_r_t_made_kinds, z_r_t_made_laneOf)) : Ct l yX3_takes wsX3_takes ⟨5, 0, 0, 113⟩ [.ref q_t, .int x1] D cI cC [(q_t, .inr (3, [.ref q_t_made, .int v_t_part])), (q_t_made, .inr (1, [.int v_t_made_pins, .int v_t_made_lanes, .ref q_t_made_kinds, .ref q_t_made_laneOf, .ref q_t_made_firsts, .ref q_t_made_lengths, .int v_t_made_ball, .int v_t_made_law, .int v_t_made_standing, .int v_t_made_struck, .ref q_t_made_seen])), (q_t_made_lengths, .inl (cI, 3, .inl r_t_made_lengths)), (q_t_made_firsts, .inl (cI, 3, .inl r_t_made_firsts)), (q_t_made_kinds, .inl (cI, 9, .inl r_t_made_kinds)), (q_t_made_laneOf, .inl (cI, 9, .inl r_t_made_laneOf))] sz (fun A => (QI D cI cC A [(q_t, .inr (3, [.ref q_t_made, .int z_v_t_part])), (q_t_made, .inr (1, [.int z_v_t_made_pins, .int z_v_t_made_lanes, .ref q_t_made_kinds, .ref q_t_made_laneOf, .ref q_t_made_firsts, .ref q_t_made_lengths, .int z_v_t_made_ball, .int z_v_t_made_law, .int v_t_made_standing, .int v_t_made_struck, .ref q_t_made_seen])), (q_t_made_lengths, .inl (cI, 3, .inl z_r_t_made_lengths)), (q_t_made_firsts, .inl (cI, 3, .inl z_r_t_made_firsts)), (q_t_made_kinds, .inl (cI, 9, .inl z_r_t_made_kinds)), (q_t_made_laneOf, .inl (cI, 9, .inl z_r_t_made_laneOf))] z0)) := by
  suffices h : ∀ wE : va_W, wE = [(q_t, .inr (3, [.ref q_t_made, .int z_v_t_part])), (q_t_made, .inr (1, [.int z_v_t_made_pins, .int z_v_t_made_lanes, .ref q_t_made_kinds, .ref q_t_made_laneOf, .ref q_t_made_firsts, .ref q_t_made_lengths, .int z_v_t_made_ball, .int z_v_t_made_law, .int v_t_made_standing, .int v_t_made_struck, .ref q_t_made_seen])), (q_t_made_lengths, .inl (cI, 3, .inl z_r_t_made_lengths)), (q_t_made_firsts, .inl (cI, 3, .inl z_r_t_made_firsts)), (q_t_made_kinds, .inl (cI, 9, .inl z_r_t_made_kinds)), (q_t_made_laneOf, .inl (cI, 9, .inl z_r_t_made_laneOf))] → Ct l yX3_takes wsX3_takes ⟨5, 0, 0, 113⟩ [.ref q_t, .int x1] D cI cC [(q_t, .inr (3, [.ref q_t_made, .int v_t_part])), (q_t_made, .inr (1, [.int v_t_made_pins, .int v_t_made_lanes, .ref q_t_made_kinds, .ref q_t_made_laneOf, .ref q_t_made_firsts, .ref q_t_made_lengths, .int v_t_made_ball, .int v_t_made_law, .int v_t_made_standing, .int v_t_made_struck, .ref q_t_made_seen])), (q_t_made_lengths, .inl (cI, 3, .inl r_t_made_lengths)), (q_t_made_firsts, .inl (cI, 3, .inl r_t_made_firsts)), (q_t_made_kinds, .inl (cI, 9, .inl r_t_made_kinds)), (q_t_made_laneOf, .inl (cI, 9, .inl r_t_made_laneOf))] sz (fun A => (QI D cI cC A wE z0)) from h _ rfl
  intro wE hwE
  rw [f_X3_takes] at hf
  refine Ct.beg cX3_takes 2 (some .boolean) [(0, .ref q_t), (1, .int x1)] RX3 (by decide) rfl rfl (Nat.le_of_ble_eq_true rfl) rfl (fun p e s m below meth c A hx hb hr hts hown hlk hml hnm hK hP hD hS hA hG ls hl => ?_)
  refine lv_aload_n hx hb dX3_takes_0 rfl (lv_at hl 0 rfl) ?_
  refine va_get (D := D) (ci := 3) (v := .int v_t_part) (C := RX3) (T := TX3) (N := 2) hx hb hts in_X3_takes_3 hown hK hP 0 rfl rfl 1 (by decide) (hts (.fieldLink RX3 29 "PinLanes$Reading" "part" "I") (by decide +kernel)) (fun _ h9 => h9) rfl dX3_takes_1 ?_
  by_cases c1 : v_t_part = (0 : Int32)
  · refine lv_tableIn (tgt := 32) hx hb dX3_takes_4 (by rw [c1]; decide) (by rw [c1]; decide) (by rw [c1]; first | done | rfl) (by decide) ?_
    have hf := ip c1 hf
    refine lv_aload_n hx hb dX3_takes_32 rfl (lv_at hl 0 rfl) ?_
    refine lv_iload_n hx hb dX3_takes_33 rfl (lv_at hl 1 rfl) ?_
    obtain ⟨a2, a3, a4, a5, a6, a7, a8, a9, hra2, hf⟩ := ob8_e hf
    refine callVi (As := [.int x1]) (rest := []) (wn := [(q_t, .inr (3, [.ref q_t_made, .int a3])), (q_t_made, .inr (1, [.int a4, .int a5, .ref q_t_made_kinds, .ref q_t_made_laneOf, .ref q_t_made_firsts, .ref q_t_made_lengths, .int v_t_made_ball, .int v_t_made_law, .int v_t_made_standing, .int v_t_made_struck, .ref q_t_made_seen])), (q_t_made_lengths, .inl (cI, 3, .inl a6)), (q_t_made_firsts, .inl (cI, 3, .inl a7)), (q_t_made_kinds, .inl (cI, 9, .inl a8)), (q_t_made_laneOf, .inl (cI, 9, .inl a9))]) (q0 := 0) (ci := 3) ⟨hx, hb, hml, hown, hts⟩ (c_X3_takesInLanes l D cI cC N _ q_t q_t_made q_t_made_kinds q_t_made_laneOf q_t_made_firsts q_t_made_lengths q_t_made_seen v_t_part v_t_made_pins v_t_made_lanes v_t_made_ball v_t_made_law v_t_made_standing v_t_made_struck r_t_made_lengths r_t_made_firsts r_t_made_kinds r_t_made_laneOf x1 a2 a3 a4 a5 a6 a7 a8 a9 hra2) (cwV 1 hts gX3_takes_X3_takesInLanes rfl rfl rfl (by decide +kernel) ⟨Nat.le_of_ble_eq_true rfl, Nat.le_of_ble_eq_true rfl⟩) hK hP hD hS hA hG (Cut.mk [0, 1, 2, 3, 4, 5] [] [0, 1, 2, 3, 4, 5] [] rfl rfl rfl rfl (by decide) rfl rfl) rfl rfl rfl rfl hl.1 rfl (Nat.le_of_ble_eq_true rfl) ⟨Nat.zero_le _, Nat.zero_le _⟩ dX3_takes_34 (fun H locs hP hD hS => ?_)
    obtain ⟨b10, hf⟩ := gd_e hf
    obtain ⟨e1_, e2_, e3_, e4_, e5_, e6_, e7_, e8_, e9_, e10_⟩ := so10 hf
    exact endZ hx hb hr (bz_n b10) hlk hK (by rw [hwE, ← e2_, ← e3_, ← e4_, ← e5_, ← e6_, ← e7_, ← e8_, ← e9_, ← e10_]; exact hP) (by rw [hwE, ← e2_, ← e3_, ← e4_, ← e5_, ← e6_, ← e7_, ← e8_, ← e9_, ← e10_]; exact hD) hS e1_ dX3_takes_37
  have hf := iq c1 hf
  by_cases c11 : v_t_part = (1 : Int32)
  · refine lv_tableIn (tgt := 38) hx hb dX3_takes_4 (by rw [c11]; decide) (by rw [c11]; decide) (by rw [c11]; first | done | rfl) (by decide) ?_
    have hf := ip c11 hf
    refine lv_aload_n hx hb dX3_takes_38 rfl (lv_at hl 0 rfl) ?_
    refine lv_iload_n hx hb dX3_takes_39 rfl (lv_at hl 1 rfl) ?_
    obtain ⟨a12, a13, a14, hra12, hf⟩ := ob3_e hf
    refine callVi (As := [.int x1]) (rest := []) (wn := [(q_t, .inr (3, [.ref q_t_made, .int a13])), (q_t_made, .inr (1, [.int v_t_made_pins, .int v_t_made_lanes, .ref q_t_made_kinds, .ref q_t_made_laneOf, .ref q_t_made_firsts, .ref q_t_made_lengths, .int a14, .int v_t_made_law, .int v_t_made_standing, .int v_t_made_struck, .ref q_t_made_seen])), (q_t_made_lengths, .inl (cI, 3, .inl r_t_made_lengths)), (q_t_made_firsts, .inl (cI, 3, .inl r_t_made_firsts)), (q_t_made_kinds, .inl (cI, 9, .inl r_t_made_kinds)), (q_t_made_laneOf, .inl (cI, 9, .inl r_t_made_laneOf))]) (q0 := 0) (ci := 3) ⟨hx, hb, hml, hown, hts⟩ (c_X3_takesBall l D cI cC N _ q_t q_t_made q_t_made_kinds q_t_made_laneOf q_t_made_firsts q_t_made_lengths q_t_made_seen v_t_part v_t_made_pins v_t_made_lanes v_t_made_ball v_t_made_law v_t_made_standing v_t_made_struck x1 a12 a13 a14 hra12) (cwV 1 hts gX3_takes_X3_takesBall rfl rfl rfl (by decide +kernel) ⟨Nat.le_of_ble_eq_true rfl, Nat.le_of_ble_eq_true rfl⟩) hK hP hD hS hA hG (Cut.mk [0, 1] [2, 3, 4, 5] [4, 5, 0, 1, 2, 3] [(q_t_made_lengths, .inl (cI, 3, .inl r_t_made_lengths)), (q_t_made_firsts, .inl (cI, 3, .inl r_t_made_firsts)), (q_t_made_kinds, .inl (cI, 9, .inl r_t_made_kinds)), (q_t_made_laneOf, .inl (cI, 9, .inl r_t_made_laneOf))] rfl rfl rfl rfl (by decide) rfl rfl) rfl rfl rfl rfl hl.1 rfl (Nat.le_of_ble_eq_true rfl) ⟨Nat.zero_le _, Nat.zero_le _⟩ dX3_takes_40 (fun H locs hP hD hS => ?_)
    obtain ⟨b15, hf⟩ := gd_e hf
    obtain ⟨e1_, e2_, e3_, e4_, e5_, e6_, e7_, e8_, e9_, e10_⟩ := so10 hf
    exact endZ hx hb hr (bz_n b15) hlk hK (by rw [hwE, ← e2_, ← e3_, ← e4_, ← e5_, ← e6_, ← e7_, ← e8_, ← e9_, ← e10_]; exact hP) (by rw [hwE, ← e2_, ← e3_, ← e4_, ← e5_, ← e6_, ← e7_, ← e8_, ← e9_, ← e10_]; exact hD) hS e1_ dX3_takes_43
  have hf := iq c11 hf
  by_cases c16 : v_t_part = (2 : Int32)
  · refine lv_tableIn (tgt := 44) hx hb dX3_takes_4 (by rw [c16]; decide) (by rw [c16]; decide) (by rw [c16]; first | done | rfl) (by decide) ?_
    have hf := ip c16 hf
    refine lv_aload_n hx hb dX3_takes_44 rfl (lv_at hl 0 rfl) ?_
    refine lv_iload_n hx hb dX3_takes_45 rfl (lv_at hl 1 rfl) ?_
    obtain ⟨a17, a18, a19, hra17, hf⟩ := ob3_e hf
    refine callVi (As := [.int x1]) (rest := []) (wn := [(q_t, .inr (3, [.ref q_t_made, .int a18])), (q_t_made, .inr (1, [.int v_t_made_pins, .int v_t_made_lanes, .ref q_t_made_kinds, .ref q_t_made_laneOf, .ref q_t_made_firsts, .ref q_t_made_lengths, .int v_t_made_ball, .int a19, .int v_t_made_standing, .int v_t_made_struck, .ref q_t_made_seen])), (q_t_made_lengths, .inl (cI, 3, .inl r_t_made_lengths)), (q_t_made_firsts, .inl (cI, 3, .inl r_t_made_firsts)), (q_t_made_kinds, .inl (cI, 9, .inl r_t_made_kinds)), (q_t_made_laneOf, .inl (cI, 9, .inl r_t_made_laneOf))]) (q0 := 0) (ci := 3) ⟨hx, hb, hml, hown, hts⟩ (c_X3_takesLaw l D cI cC N _ q_t q_t_made q_t_made_kinds q_t_made_laneOf q_t_made_firsts q_t_made_lengths q_t_made_seen v_t_part v_t_made_pins v_t_made_lanes v_t_made_ball v_t_made_law v_t_made_standing v_t_made_struck x1 a17 a18 a19 hra17) (cwV 1 hts gX3_takes_X3_takesLaw rfl rfl rfl (by decide +kernel) ⟨Nat.le_of_ble_eq_true rfl, Nat.le_of_ble_eq_true rfl⟩) hK hP hD hS hA hG (Cut.mk [0, 1] [2, 3, 4, 5] [4, 5, 0, 1, 2, 3] [(q_t_made_lengths, .inl (cI, 3, .inl r_t_made_lengths)), (q_t_made_firsts, .inl (cI, 3, .inl r_t_made_firsts)), (q_t_made_kinds, .inl (cI, 9, .inl r_t_made_kinds)), (q_t_made_laneOf, .inl (cI, 9, .inl r_t_made_laneOf))] rfl rfl rfl rfl (by decide) rfl rfl) rfl rfl rfl rfl hl.1 rfl (Nat.le_of_ble_eq_true rfl) ⟨Nat.zero_le _, Nat.zero_le _⟩ dX3_takes_46 (fun H locs hP hD hS => ?_)
    obtain ⟨b20, hf⟩ := gd_e hf
    obtain ⟨e1_, e2_, e3_, e4_, e5_, e6_, e7_, e8_, e9_, e10_⟩ := so10 hf
    exact endZ hx hb hr (bz_n b20) hlk hK (by rw [hwE, ← e2_, ← e3_, ← e4_, ← e5_, ← e6_, ← e7_, ← e8_, ← e9_, ← e10_]; exact hP) (by rw [hwE, ← e2_, ← e3_, ← e4_, ← e5_, ← e6_, ← e7_, ← e8_, ← e9_, ← e10_]; exact hD) hS e1_ dX3_takes_49
  have hf := iq c16 hf
  refine lv_tableOut (tgt := 50) hx hb dX3_takes_4 (by have hc1 := lv_neT c1 (a := 0) rfl; have hc11 := lv_neT c11 (a := 1) rfl; have hc16 := lv_neT c16 (a := 2) rfl; omega) (by decide) ?_
  refine lv_iconst (v := (0 : Int32)) hx hb dX3_takes_50 (by decide) ?_
  obtain ⟨e1_, e2_, e3_, e4_, e5_, e6_, e7_, e8_, e9_, e10_⟩ := so10 hf
  exact endZ hx hb hr rfl hlk hK (by rw [hwE, ← e2_, ← e3_, ← e4_, ← e5_, ← e6_, ← e7_, ← e8_, ← e9_, ← e10_]; exact hP) (by rw [hwE, ← e2_, ← e3_, ← e4_, ← e5_, ← e6_, ← e7_, ← e8_, ← e9_, ← e10_]; exact hD) hS e1_ dX3_takes_51
-- X4_alike
set_option maxRecDepth 20000 in
theorem in_X4_alike_4 : ∀ w ∈ wsX40, w ∈ wsX4_alike := by decide +kernel
set_option maxHeartbeats 4000000 in
set_option maxRecDepth 100000 in
theorem c_X4_alike (l : Launch) (D : va_G) (cI cC : ClassId) (N sz : Nat) (q_t q_t_numbers : Nat) (v_t_filledFor : Int32) (r_t_numbers : Nat → Int32) (x1 : Int32) (z0 : Int32) (hf : f_X4_alike N r_t_numbers x1 = some (z0)) : Ct l yX4_alike wsX4_alike ⟨0, 0, 0, 0⟩ [.ref q_t, .int x1] D cI cC [(q_t, .inr (4, [.int v_t_filledFor, .ref q_t_numbers])), (q_t_numbers, .inl (cI, 41, .inl r_t_numbers))] sz (fun A => (QI D cI cC A [(q_t, .inr (4, [.int v_t_filledFor, .ref q_t_numbers])), (q_t_numbers, .inl (cI, 41, .inl r_t_numbers))] z0)) := by
  suffices h : ∀ wE : va_W, wE = [(q_t, .inr (4, [.int v_t_filledFor, .ref q_t_numbers])), (q_t_numbers, .inl (cI, 41, .inl r_t_numbers))] → Ct l yX4_alike wsX4_alike ⟨0, 0, 0, 0⟩ [.ref q_t, .int x1] D cI cC [(q_t, .inr (4, [.int v_t_filledFor, .ref q_t_numbers])), (q_t_numbers, .inl (cI, 41, .inl r_t_numbers))] sz (fun A => (QI D cI cC A wE z0)) from h _ rfl
  intro wE hwE
  rw [f_X4_alike] at hf
  refine Ct.beg cX4_alike 3 (some .int) [(0, .ref q_t), (1, .int x1)] RX4 (by decide) rfl rfl (Nat.le_of_ble_eq_true rfl) rfl (fun p e s m below meth c A hx hb hr hts hown hlk hml hnm hK hP hD hS hA hG ls hl => ?_)
  refine lv_iconst (v := (0 : Int32)) hx hb dX4_alike_0 (by decide) ?_
  refine lv_istore_n (lv' := [(2, .int (0 : Int32)), (0, .ref q_t), (1, .int x1)]) hx hb dX4_alike_1 rfl hl (by decide) rfl (fun ls hl => ?_)
  have hL1 : ∀ (n : Nat) (y2 : Int32) (H : Heap) (locs : List Loc) (ls : Array Slot), va_P D vwCl [(q_t, .inr (4, [.int v_t_filledFor, .ref q_t_numbers])), (q_t_numbers, .inl (cI, 41, .inl r_t_numbers))] H → va_D A [(q_t, .inr (4, [.int v_t_filledFor, .ref q_t_numbers])), (q_t_numbers, .inl (cI, 41, .inl r_t_numbers))] → va_S A s.heap H locs → lv_has ls 3 [(0, .ref q_t), (1, .int x1), (2, .int y2)] → f_X4_alike_L2 N x1 r_t_numbers n y2 = some (z0) → W p l e ⟨0, 0, 0, 0⟩ s m ([.ref q_t, .int x1] : List Value).toArray below meth c H locs 0 0 (MQ below (QI D cI cC A wE z0) ([.ref q_t, .int x1] : List Value).toArray s 0 0 A) (F0 m 2 ls []) := by
    intro n
    induction n with
    | zero => intro y2 H locs ls hP hD hS hl hf; rw [f_X4_alike_L2] at hf; cases hf
    | succ n ih =>
      intro y2 H locs ls hP hD hS hl hf
      rw [f_X4_alike_L2] at hf
      refine lv_iload_n hx hb dX4_alike_2 rfl (lv_at hl 2 rfl) ?_
      refine lv_bipush (v := (40 : Int32)) hx hb dX4_alike_3 (by decide) ?_
      refine lv_icmp_gt (tgt := 26) hx hb dX4_alike_5 (by decide) (fun c3 => ?_) (fun c3 => ?_)
      · have hf := ip c3 hf
        refine lv_iconst (v := (-1 : Int32)) hx hb dX4_alike_26 (by decide) ?_
        have e1_ := Option.some.inj hf
        exact endI hx hb hr hlk hK (by rw [hwE]; exact hP) (by rw [hwE]; exact hD) hS e1_ dX4_alike_27
      · have hf := iq c3 hf
        refine lv_aload_n hx hb dX4_alike_8 rfl (lv_at hl 0 rfl) ?_
        refine va_get (D := D) (ci := 4) (v := .ref q_t_numbers) (C := RX4) (T := TX4) (N := 2) hx hb hts in_X4_alike_4 hown hK hP 0 rfl rfl 1 (by decide) (hts (.fieldLink RX4 9 "PinLanes$Rows" "numbers" "[I") (by decide +kernel)) (fun _ h9 => h9) rfl dX4_alike_9 ?_
        refine lv_iload_n hx hb dX4_alike_12 rfl (lv_at hl 2 rfl) ?_
        obtain ⟨b4, hf⟩ := gd_e hf
        refine va_iald hx hb hK hP 1 0 rfl rfl (inb_in b4) dX4_alike_13 ?_
        refine lv_iload_n hx hb dX4_alike_14 rfl (lv_at hl 1 rfl) ?_
        refine lv_icmp_ne (tgt := 20) hx hb dX4_alike_15 (by decide) (fun c5 => ?_) (fun c5 => ?_)
        · have hf := iq c5 hf
          refine lv_iinc (v := y2 + (1 : Int32)) (lv' := [(2, .int (y2 + (1 : Int32))), (0, .ref q_t), (1, .int x1)]) hx hb dX4_alike_20 hl (k := 2) rfl rfl (by decide) rfl (fun ls hl => ?_)
          refine lv_goto (tgt := 2) hx hb dX4_alike_23 (by decide) ?_
          exact ih (y2 + (1 : Int32)) _ _ _ hP hD hS (lv_sub hl [1, 2, 0] rfl) hf
        · have hf := ip c5 hf
          refine lv_iload_n hx hb dX4_alike_18 rfl (lv_at hl 2 rfl) ?_
          have e1_ := Option.some.inj hf
          exact endI hx hb hr hlk hK (by rw [hwE]; exact hP) (by rw [hwE]; exact hD) hS e1_ dX4_alike_19
  exact hL1 N (0 : Int32) _ _ _ hP hD hS (lv_sub hl [1, 2, 0] rfl) hf
-- X4_numberOf
set_option maxRecDepth 20000 in
theorem in_X4_numberOf_4 : ∀ w ∈ wsX40, w ∈ wsX4_numberOf := by decide +kernel
set_option maxHeartbeats 4000000 in
set_option maxRecDepth 100000 in
theorem c_X4_numberOf (l : Launch) (D : va_G) (cI cC : ClassId) (N sz : Nat) (q_t q_t_numbers : Nat) (v_t_filledFor : Int32) (r_t_numbers : Nat → Int32) (x1 : Int32) (x2 : Int32) (z0 : Int32) (hf : f_X4_numberOf N r_t_numbers x1 x2 = some (z0)) : Ct l yX4_numberOf wsX4_numberOf ⟨1, 0, 0, 22⟩ [.ref q_t, .int x1, .int x2] D cI cC [(q_t, .inr (4, [.int v_t_filledFor, .ref q_t_numbers])), (q_t_numbers, .inl (cI, 41, .inl r_t_numbers))] sz (fun A => (QI D cI cC A [(q_t, .inr (4, [.int v_t_filledFor, .ref q_t_numbers])), (q_t_numbers, .inl (cI, 41, .inl r_t_numbers))] z0)) := by
  suffices h : ∀ wE : va_W, wE = [(q_t, .inr (4, [.int v_t_filledFor, .ref q_t_numbers])), (q_t_numbers, .inl (cI, 41, .inl r_t_numbers))] → Ct l yX4_numberOf wsX4_numberOf ⟨1, 0, 0, 22⟩ [.ref q_t, .int x1, .int x2] D cI cC [(q_t, .inr (4, [.int v_t_filledFor, .ref q_t_numbers])), (q_t_numbers, .inl (cI, 41, .inl r_t_numbers))] sz (fun A => (QI D cI cC A wE z0)) from h _ rfl
  intro wE hwE
  rw [f_X4_numberOf] at hf
  refine Ct.beg cX4_numberOf 8 (some .int) [(0, .ref q_t), (1, .int x1), (2, .int x2)] RX4 (by decide) rfl rfl (Nat.le_of_ble_eq_true rfl) rfl (fun p e s m below meth c A hx hb hr hts hown hlk hml hnm hK hP hD hS hA hG ls hl => ?_)
  refine lv_lconst (v := (0 : Int64)) hx hb dX4_numberOf_0 (by decide) ?_
  refine lv_lstore_n (lv' := [(3, .long (0 : Int64)), (0, .ref q_t), (1, .int x1), (2, .int x2)]) hx hb dX4_numberOf_1 rfl hl (by decide) rfl (fun ls hl => ?_)
  refine lv_iconst (v := (1 : Int32)) hx hb dX4_numberOf_2 (by decide) ?_
  refine lv_istore (lv' := [(5, .int (1 : Int32)), (3, .long (0 : Int64)), (0, .ref q_t), (1, .int x1), (2, .int x2)]) hx hb dX4_numberOf_3 hl (by decide) rfl (fun ls hl => ?_)
  have hL1 : ∀ (kk4 : Int64 → Option (Int32)), (∀ (y5 : Int64) (H : Heap) (locs : List Loc) (ls : Array Slot), va_P D vwCl [(q_t, .inr (4, [.int v_t_filledFor, .ref q_t_numbers])), (q_t_numbers, .inl (cI, 41, .inl r_t_numbers))] H → va_D A [(q_t, .inr (4, [.int v_t_filledFor, .ref q_t_numbers])), (q_t_numbers, .inl (cI, 41, .inl r_t_numbers))] → va_S A s.heap H locs → lv_has ls 8 [(3, .long y5)] → kk4 y5 = some (z0) → W p l e ⟨1, 0, 0, 22⟩ s m ([.ref q_t, .int x1, .int x2] : List Value).toArray below meth c H locs 0 0 (MQ below (QI D cI cC A wE z0) ([.ref q_t, .int x1, .int x2] : List Value).toArray s 0 0 A) (F0 m 68 ls [])) → ∀ (n : Nat) (y2 : Int64) (y3 : Int32) (H : Heap) (locs : List Loc) (ls : Array Slot), va_P D vwCl [(q_t, .inr (4, [.int v_t_filledFor, .ref q_t_numbers])), (q_t_numbers, .inl (cI, 41, .inl r_t_numbers))] H → va_D A [(q_t, .inr (4, [.int v_t_filledFor, .ref q_t_numbers])), (q_t_numbers, .inl (cI, 41, .inl r_t_numbers))] → va_S A s.heap H locs → lv_has ls 8 [(0, .ref q_t), (1, .int x1), (2, .int x2), (3, .long y2), (5, .int y3)] → f_X4_numberOf_L5 N x1 x2 r_t_numbers kk4 n y2 y3 = some (z0) → W p l e ⟨1, 0, 0, 22⟩ s m ([.ref q_t, .int x1, .int x2] : List Value).toArray below meth c H locs 0 0 (MQ below (QI D cI cC A wE z0) ([.ref q_t, .int x1, .int x2] : List Value).toArray s 0 0 A) (F0 m 5 ls []) := by
    intro kk4 hk6 n
    induction n with
    | zero => intro y2 y3 H locs ls hP hD hS hl hf; rw [f_X4_numberOf_L5] at hf; cases hf
    | succ n ih =>
      intro y2 y3 H locs ls hP hD hS hl hf
      rw [f_X4_numberOf_L5] at hf
      refine lv_iload hx hb dX4_numberOf_5 (lv_at hl 4 rfl) ?_
      refine lv_iload_n hx hb dX4_numberOf_7 rfl (lv_at hl 2 rfl) ?_
      refine lv_icmp_gt (tgt := 68) hx hb dX4_numberOf_8 (by decide) (fun c7 => ?_) (fun c7 => ?_)
      · have hf := ip c7 hf
        exact hk6 y2 _ _ _ hP hD hS (lv_sub hl [3] rfl) hf
      · have hf := iq c7 hf
        refine lv_iload hx hb dX4_numberOf_11 (lv_at hl 4 rfl) ?_
        refine lv_iload_n hx hb dX4_numberOf_13 rfl (lv_at hl 1 rfl) ?_
        refine lv_icmp_gt (tgt := 68) hx hb dX4_numberOf_14 (by decide) (fun c8 => ?_) (fun c8 => ?_)
        · have hf := ip c8 hf
          exact hk6 y2 _ _ _ hP hD hS (lv_sub hl [3] rfl) hf
        · have hf := iq c8 hf
          refine lv_iload_n hx hb dX4_numberOf_17 rfl (lv_at hl 1 rfl) ?_
          refine lv_iload hx hb dX4_numberOf_18 (lv_at hl 4 rfl) ?_
          refine lv_isub hx hb dX4_numberOf_20 ?_
          refine lv_istore (lv' := [(6, .int (x1 - y3)), (0, .ref q_t), (1, .int x1), (2, .int x2), (3, .long y2), (5, .int y3)]) hx hb dX4_numberOf_21 hl (by decide) rfl (fun ls hl => ?_)
          refine lv_iconst (v := (0 : Int32)) hx hb dX4_numberOf_23 (by decide) ?_
          refine lv_istore (lv' := [(7, .int (0 : Int32)), (6, .int (x1 - y3)), (0, .ref q_t), (1, .int x1), (2, .int x2), (3, .long y2), (5, .int y3)]) hx hb dX4_numberOf_24 hl (by decide) rfl (fun ls hl => ?_)
          have hL9 : ∀ (kk12 : Int64 → Option (Int32)), (∀ (y13 : Int64) (H : Heap) (locs : List Loc) (ls : Array Slot), va_P D vwCl [(q_t, .inr (4, [.int v_t_filledFor, .ref q_t_numbers])), (q_t_numbers, .inl (cI, 41, .inl r_t_numbers))] H → va_D A [(q_t, .inr (4, [.int v_t_filledFor, .ref q_t_numbers])), (q_t_numbers, .inl (cI, 41, .inl r_t_numbers))] → va_S A s.heap H locs → lv_has ls 8 [(0, .ref q_t), (1, .int x1), (2, .int x2), (3, .long y13), (5, .int y3)] → kk12 y13 = some (z0) → W p l e ⟨1, 0, 0, 22⟩ s m ([.ref q_t, .int x1, .int x2] : List Value).toArray below meth c H locs 0 0 (MQ below (QI D cI cC A wE z0) ([.ref q_t, .int x1, .int x2] : List Value).toArray s 0 0 A) (F0 m 62 ls [])) → ∀ (n : Nat) (y10 : Int64) (y11 : Int32) (H : Heap) (locs : List Loc) (ls : Array Slot), va_P D vwCl [(q_t, .inr (4, [.int v_t_filledFor, .ref q_t_numbers])), (q_t_numbers, .inl (cI, 41, .inl r_t_numbers))] H → va_D A [(q_t, .inr (4, [.int v_t_filledFor, .ref q_t_numbers])), (q_t_numbers, .inl (cI, 41, .inl r_t_numbers))] → va_S A s.heap H locs → lv_has ls 8 [(0, .ref q_t), (1, .int x1), (2, .int x2), (3, .long y10), (5, .int y3), (6, .int (x1 - y3)), (7, .int y11)] → f_X4_numberOf_L26 N (x1 - y3) r_t_numbers kk12 n y10 y11 = some (z0) → W p l e ⟨1, 0, 0, 22⟩ s m ([.ref q_t, .int x1, .int x2] : List Value).toArray below meth c H locs 0 0 (MQ below (QI D cI cC A wE z0) ([.ref q_t, .int x1, .int x2] : List Value).toArray s 0 0 A) (F0 m 26 ls []) := by
            intro kk12 hk14 n
            induction n with
            | zero => intro y10 y11 H locs ls hP hD hS hl hf; rw [f_X4_numberOf_L26] at hf; cases hf
            | succ n ih =>
              intro y10 y11 H locs ls hP hD hS hl hf
              rw [f_X4_numberOf_L26] at hf
              refine lv_iload hx hb dX4_numberOf_26 (lv_at hl 6 rfl) ?_
              refine lv_iload hx hb dX4_numberOf_28 (lv_at hl 5 rfl) ?_
              refine lv_icmp_gt (tgt := 62) hx hb dX4_numberOf_30 (by decide) (fun c15 => ?_) (fun c15 => ?_)
              · have hf := ip c15 hf
                exact hk14 y10 _ _ _ hP hD hS (lv_sub hl [0, 1, 2, 3, 4] rfl) hf
              · have hf := iq c15 hf
                refine lv_lload_n hx hb dX4_numberOf_33 rfl (lv_at hl 3 rfl) ?_
                refine lv_lconst (v := (1 : Int64)) hx hb dX4_numberOf_34 (by decide) ?_
                refine lv_aload_n hx hb dX4_numberOf_35 rfl (lv_at hl 0 rfl) ?_
                refine va_get (D := D) (ci := 4) (v := .ref q_t_numbers) (C := RX4) (T := TX4) (N := 2) hx hb hts in_X4_numberOf_4 hown hK hP 0 rfl rfl 1 (by decide) (hts (.fieldLink RX4 9 "PinLanes$Rows" "numbers" "[I") (by decide +kernel)) (fun _ h9 => h9) rfl dX4_numberOf_36 ?_
                refine lv_iload hx hb dX4_numberOf_39 (lv_at hl 6 rfl) ?_
                obtain ⟨b16, hf⟩ := gd_e hf
                refine va_iald hx hb hK hP 1 0 rfl rfl (inb_in b16) dX4_numberOf_41 ?_
                refine lv_aload_n hx hb dX4_numberOf_42 rfl (lv_at hl 0 rfl) ?_
                refine va_get (D := D) (ci := 4) (v := .ref q_t_numbers) (C := RX4) (T := TX4) (N := 2) hx hb hts in_X4_numberOf_4 hown hK hP 0 rfl rfl 1 (by decide) (hts (.fieldLink RX4 9 "PinLanes$Rows" "numbers" "[I") (by decide +kernel)) (fun _ h9 => h9) rfl dX4_numberOf_43 ?_
                refine lv_iload hx hb dX4_numberOf_46 (lv_at hl 5 rfl) ?_
                refine lv_iload hx hb dX4_numberOf_48 (lv_at hl 6 rfl) ?_
                refine lv_isub hx hb dX4_numberOf_50 ?_
                obtain ⟨b17, hf⟩ := gd_e hf
                refine va_iald hx hb hK hP 1 0 rfl rfl (inb_in b17) dX4_numberOf_51 ?_
                refine lv_ixor hx hb dX4_numberOf_52 ?_
                refine lv_lshl hx hb dX4_numberOf_53 rfl ?_
                refine lv_lor hx hb dX4_numberOf_54 ?_
                refine lv_lstore_n (lv' := [(3, .long (y10 ||| ((1 : Int64) <<< (((r_t_numbers y11.toNatClampNeg) ^^^ (r_t_numbers ((x1 - y3) - y11).toNatClampNeg)).toInt64 &&& 63)))), (0, .ref q_t), (1, .int x1), (2, .int x2), (5, .int y3), (6, .int (x1 - y3)), (7, .int y11)]) hx hb dX4_numberOf_55 rfl hl (by decide) rfl (fun ls hl => ?_)
                refine lv_iinc (v := y11 + (1 : Int32)) (lv' := [(7, .int (y11 + (1 : Int32))), (3, .long (y10 ||| ((1 : Int64) <<< (((r_t_numbers y11.toNatClampNeg) ^^^ (r_t_numbers ((x1 - y3) - y11).toNatClampNeg)).toInt64 &&& 63)))), (0, .ref q_t), (1, .int x1), (2, .int x2), (5, .int y3), (6, .int (x1 - y3))]) hx hb dX4_numberOf_56 hl (k := 6) rfl rfl (by decide) rfl (fun ls hl => ?_)
                refine lv_goto (tgt := 26) hx hb dX4_numberOf_59 (by decide) ?_
                exact ih (y10 ||| ((1 : Int64) <<< (((r_t_numbers y11.toNatClampNeg) ^^^ (r_t_numbers ((x1 - y3) - y11).toNatClampNeg)).toInt64 &&& 63))) (y11 + (1 : Int32)) _ _ _ hP hD hS (lv_sub hl [2, 3, 4, 1, 5, 6, 0] rfl) hf
          refine hL9 _ (fun y13 H locs ls hP hD hS hl hf => ?_) N y2 (0 : Int32) _ _ _ hP hD hS (lv_sub hl [2, 3, 4, 5, 6, 1, 0] rfl) hf
          refine lv_iinc (v := y3 + (1 : Int32)) (lv' := [(5, .int (y3 + (1 : Int32))), (0, .ref q_t), (1, .int x1), (2, .int x2), (3, .long y13)]) hx hb dX4_numberOf_62 hl (k := 4) rfl rfl (by decide) rfl (fun ls hl => ?_)
          refine lv_goto (tgt := 5) hx hb dX4_numberOf_65 (by decide) ?_
          exact ih y13 (y3 + (1 : Int32)) _ _ _ hP hD hS (lv_sub hl [1, 2, 3, 4, 0] rfl) hf
  refine hL1 _ (fun y5 H locs ls hP hD hS hl hf => ?_) N (0 : Int64) (1 : Int32) _ _ _ hP hD hS (lv_sub hl [2, 3, 4, 1, 0] rfl) hf
  refine lv_lload_n hx hb dX4_numberOf_68 rfl (lv_at hl 0 rfl) ?_
  obtain ⟨a18, hra18, hf⟩ := ob1_e hf
  refine callNi (As := [.long y5]) (rest := []) (wn := [(q_t, .inr (4, [.int v_t_filledFor, .ref q_t_numbers])), (q_t_numbers, .inl (cI, 41, .inl r_t_numbers))]) ⟨hx, hb, hml, hown, hts⟩ (c_X7_leastNotIn l D cI cC N _ y5 a18 hra18) ⟨va_cnB 1 hts gX4_numberOf_X7_leastNotIn_n23 rfl rfl rfl (hG.1 (.methodLinkNest "PinLanes$Rows" 23 yX7_leastNotIn "PinLanes") (by decide +kernel)) (hts (.initialized RX7) (by decide +kernel)) (by decide +kernel) ⟨Nat.le_of_ble_eq_true rfl, Nat.le_of_ble_eq_true rfl⟩, hts (.static yX7_leastNotIn) (by decide +kernel), trivial⟩ hK hP hD hS hA hG (Cut.mk [] [0, 1] [0, 1] [(q_t, .inr (4, [.int v_t_filledFor, .ref q_t_numbers])), (q_t_numbers, .inl (cI, 41, .inl r_t_numbers))] rfl rfl rfl rfl (by decide) rfl rfl) rfl hl.1 rfl (Nat.le_of_ble_eq_true rfl) ⟨Nat.zero_le _, Nat.zero_le _⟩ dX4_numberOf_69 (fun H locs hP hD hS => ?_)
  have e1_ := Option.some.inj hf
  exact endI hx hb hr hlk hK (by rw [hwE]; exact hP) (by rw [hwE]; exact hD) hS e1_ dX4_numberOf_72
-- X4_fillFor
set_option maxRecDepth 20000 in
theorem in_X4_fillFor_4 : ∀ w ∈ wsX40, w ∈ wsX4_fillFor := by decide +kernel
set_option maxHeartbeats 4000000 in
set_option maxRecDepth 100000 in
theorem c_X4_fillFor (l : Launch) (D : va_G) (cI cC : ClassId) (N sz : Nat) (q_t q_t_numbers : Nat) (v_t_filledFor : Int32) (r_t_numbers : Nat → Int32) (x1 : Int32) (z_v_t_filledFor : Int32) (z_r_t_numbers : Nat → Int32) (hf : f_X4_fillFor N v_t_filledFor r_t_numbers x1 = some (z_v_t_filledFor, z_r_t_numbers)) : Ct l yX4_fillFor wsX4_fillFor ⟨2, 0, 0, 49⟩ [.ref q_t, .int x1] D cI cC [(q_t, .inr (4, [.int v_t_filledFor, .ref q_t_numbers])), (q_t_numbers, .inl (cI, 41, .inl r_t_numbers))] sz (fun A => (QV D cI cC A [(q_t, .inr (4, [.int z_v_t_filledFor, .ref q_t_numbers])), (q_t_numbers, .inl (cI, 41, .inl z_r_t_numbers))])) := by
  suffices h : ∀ wE : va_W, wE = [(q_t, .inr (4, [.int z_v_t_filledFor, .ref q_t_numbers])), (q_t_numbers, .inl (cI, 41, .inl z_r_t_numbers))] → Ct l yX4_fillFor wsX4_fillFor ⟨2, 0, 0, 49⟩ [.ref q_t, .int x1] D cI cC [(q_t, .inr (4, [.int v_t_filledFor, .ref q_t_numbers])), (q_t_numbers, .inl (cI, 41, .inl r_t_numbers))] sz (fun A => (QV D cI cC A wE)) from h _ rfl
  intro wE hwE
  rw [f_X4_fillFor] at hf
  refine Ct.beg cX4_fillFor 3 none [(0, .ref q_t), (1, .int x1)] RX4 (by decide) rfl rfl (Nat.le_of_ble_eq_true rfl) rfl (fun p e s m below meth c A hx hb hr hts hown hlk hml hnm hK hP hD hS hA hG ls hl => ?_)
  refine lv_aload_n hx hb dX4_fillFor_0 rfl (lv_at hl 0 rfl) ?_
  refine va_get (D := D) (ci := 4) (v := .int v_t_filledFor) (C := RX4) (T := TX4) (N := 2) hx hb hts in_X4_fillFor_4 hown hK hP 0 rfl rfl 0 (by decide) (hts (.fieldLink RX4 15 "PinLanes$Rows" "filledFor" "I") (by decide +kernel)) (fun _ h9 => h9) rfl dX4_fillFor_1 ?_
  refine lv_iload_n hx hb dX4_fillFor_4 rfl (lv_at hl 1 rfl) ?_
  refine lv_icmp_ne (tgt := 9) hx hb dX4_fillFor_5 (by decide) (fun c1 => ?_) (fun c1 => ?_)
  · have hf := iq c1 hf
    refine lv_iconst (v := (0 : Int32)) hx hb dX4_fillFor_9 (by decide) ?_
    refine lv_istore_n (lv' := [(2, .int (0 : Int32)), (0, .ref q_t), (1, .int x1)]) hx hb dX4_fillFor_10 rfl hl (by decide) rfl (fun ls hl => ?_)
    have hL2 : ∀ (kk5 : (Nat → Int32) → Option (Int32 × (Nat → Int32))), (∀ (y6 : Nat → Int32) (H : Heap) (locs : List Loc) (ls : Array Slot), va_P D vwCl [(q_t, .inr (4, [.int v_t_filledFor, .ref q_t_numbers])), (q_t_numbers, .inl (cI, 41, .inl y6))] H → va_D A [(q_t, .inr (4, [.int v_t_filledFor, .ref q_t_numbers])), (q_t_numbers, .inl (cI, 41, .inl y6))] → va_S A s.heap H locs → lv_has ls 3 [(0, .ref q_t), (1, .int x1)] → kk5 y6 = some (z_v_t_filledFor, z_r_t_numbers) → W p l e ⟨2, 0, 0, 49⟩ s m ([.ref q_t, .int x1] : List Value).toArray below meth c H locs 0 0 (MQ below (QV D cI cC A wE) ([.ref q_t, .int x1] : List Value).toArray s 0 0 A) (F0 m 35 ls [])) → ∀ (n : Nat) (y3 : Int32) (y4 : Nat → Int32) (H : Heap) (locs : List Loc) (ls : Array Slot), va_P D vwCl [(q_t, .inr (4, [.int v_t_filledFor, .ref q_t_numbers])), (q_t_numbers, .inl (cI, 41, .inl y4))] H → va_D A [(q_t, .inr (4, [.int v_t_filledFor, .ref q_t_numbers])), (q_t_numbers, .inl (cI, 41, .inl y4))] → va_S A s.heap H locs → lv_has ls 3 [(0, .ref q_t), (1, .int x1), (2, .int y3)] → f_X4_fillFor_L11 N x1 kk5 n y3 y4 = some (z_v_t_filledFor, z_r_t_numbers) → W p l e ⟨2, 0, 0, 49⟩ s m ([.ref q_t, .int x1] : List Value).toArray below meth c H locs 0 0 (MQ below (QV D cI cC A wE) ([.ref q_t, .int x1] : List Value).toArray s 0 0 A) (F0 m 11 ls []) := by
      intro kk5 hk7 n
      induction n with
      | zero => intro y3 y4 H locs ls hP hD hS hl hf; rw [f_X4_fillFor_L11] at hf; cases hf
      | succ n ih =>
        intro y3 y4 H locs ls hP hD hS hl hf
        rw [f_X4_fillFor_L11] at hf
        refine lv_iload_n hx hb dX4_fillFor_11 rfl (lv_at hl 2 rfl) ?_
        refine lv_bipush (v := (40 : Int32)) hx hb dX4_fillFor_12 (by decide) ?_
        refine lv_icmp_gt (tgt := 35) hx hb dX4_fillFor_14 (by decide) (fun c8 => ?_) (fun c8 => ?_)
        · have hf := ip c8 hf
          exact hk7 y4 _ _ _ hP hD hS (lv_sub hl [0, 1] rfl) hf
        · have hf := iq c8 hf
          refine lv_aload_n hx hb dX4_fillFor_17 rfl (lv_at hl 0 rfl) ?_
          refine va_get (D := D) (ci := 4) (v := .ref q_t_numbers) (C := RX4) (T := TX4) (N := 2) hx hb hts in_X4_fillFor_4 hown hK hP 0 rfl rfl 1 (by decide) (hts (.fieldLink RX4 9 "PinLanes$Rows" "numbers" "[I") (by decide +kernel)) (fun _ h9 => h9) rfl dX4_fillFor_18 ?_
          refine lv_iload_n hx hb dX4_fillFor_21 rfl (lv_at hl 2 rfl) ?_
          refine lv_aload_n hx hb dX4_fillFor_22 rfl (lv_at hl 0 rfl) ?_
          refine lv_iload_n hx hb dX4_fillFor_23 rfl (lv_at hl 2 rfl) ?_
          refine lv_iload_n hx hb dX4_fillFor_24 rfl (lv_at hl 1 rfl) ?_
          obtain ⟨a9, hra9, hf⟩ := ob1_e hf
          refine callVi (As := [.int y3, .int x1]) (rest := [.int y3, .ref q_t_numbers]) (wn := [(q_t, .inr (4, [.int v_t_filledFor, .ref q_t_numbers])), (q_t_numbers, .inl (cI, 41, .inl y4))]) (q0 := 0) (ci := 4) ⟨hx, hb, hml, hown, hts⟩ (c_X4_numberOf l D cI cC N _ q_t q_t_numbers v_t_filledFor y4 y3 x1 a9 hra9) (cwV 2 hts gX4_fillFor_X4_numberOf rfl rfl rfl (by decide +kernel) ⟨Nat.le_of_ble_eq_true rfl, Nat.le_of_ble_eq_true rfl⟩) hK hP hD hS hA hG (Cut.mk [0, 1] [] [0, 1] [] rfl rfl rfl rfl (by decide) rfl rfl) rfl rfl rfl rfl hl.1 rfl (Nat.le_of_ble_eq_true rfl) ⟨Nat.zero_le _, Nat.zero_le _⟩ dX4_fillFor_25 (fun H locs hP hD hS => ?_)
          obtain ⟨b10, hf⟩ := gd_e hf
          refine va_iast hx hb hK hP hD hS 1 0 rfl rfl (inb_in b10) dX4_fillFor_28 (fun H locs hP hD hS => ?_)
          have hP : va_P D vwCl [(q_t, .inr (4, [.int v_t_filledFor, .ref q_t_numbers])), (q_t_numbers, .inl (cI, 41, .inl (upd y4 y3.toNatClampNeg a9)))] H := hP
          have hD : va_D A [(q_t, .inr (4, [.int v_t_filledFor, .ref q_t_numbers])), (q_t_numbers, .inl (cI, 41, .inl (upd y4 y3.toNatClampNeg a9)))] := hD
          refine lv_iinc (v := y3 + (1 : Int32)) (lv' := [(2, .int (y3 + (1 : Int32))), (0, .ref q_t), (1, .int x1)]) hx hb dX4_fillFor_29 hl (k := 2) rfl rfl (by decide) rfl (fun ls hl => ?_)
          refine lv_goto (tgt := 11) hx hb dX4_fillFor_32 (by decide) ?_
          exact ih (y3 + (1 : Int32)) (upd y4 y3.toNatClampNeg a9) _ _ _ hP hD hS (lv_sub hl [1, 2, 0] rfl) hf
    refine hL2 _ (fun y6 H locs ls hP hD hS hl hf => ?_) N (0 : Int32) r_t_numbers _ _ _ hP hD hS (lv_sub hl [1, 2, 0] rfl) hf
    refine lv_aload_n hx hb dX4_fillFor_35 rfl (lv_at hl 0 rfl) ?_
    refine lv_iload_n hx hb dX4_fillFor_36 rfl (lv_at hl 1 rfl) ?_
    refine va_put (D := D) (ci := 4) (v := .int x1) (ty := .int) (C := RX4) (T := TX4) (N := 2) hx hb hts in_X4_fillFor_4 tyX4 tyX4_ok nmX4 hown hK hP hD hS 0 rfl rfl 0 (by decide) (hts (.fieldLink RX4 15 "PinLanes$Rows" "filledFor" "I") (by decide +kernel)) (fun _ h9 => h9) rfl (by decide +kernel) rfl rfl (Nat.le_of_ble_eq_true rfl) dX4_fillFor_37 (fun H locs hP hD hS => ?_)
    have hP : va_P D vwCl [(q_t, .inr (4, [.int x1, .ref q_t_numbers])), (q_t_numbers, .inl (cI, 41, .inl y6))] H := hP
    have hD : va_D A [(q_t, .inr (4, [.int x1, .ref q_t_numbers])), (q_t_numbers, .inl (cI, 41, .inl y6))] := hD
    obtain ⟨e1_, e2_⟩ := so2 hf
    exact endV hx hb hr hlk hK (by rw [hwE, ← e1_, ← e2_]; exact hP) (by rw [hwE, ← e1_, ← e2_]; exact hD) hS dX4_fillFor_40
  · have hf := ip c1 hf
    obtain ⟨e1_, e2_⟩ := so2 hf
    exact endV hx hb hr hlk hK (by rw [hwE, ← e1_, ← e2_]; exact hP) (by rw [hwE, ← e1_, ← e2_]; exact hD) hS dX4_fillFor_8
-- X4_leastFrom
set_option maxRecDepth 20000 in
theorem in_X4_leastFrom_4 : ∀ w ∈ wsX40, w ∈ wsX4_leastFrom := by decide +kernel
set_option maxHeartbeats 4000000 in
set_option maxRecDepth 100000 in
theorem c_X4_leastFrom (l : Launch) (D : va_G) (cI cC : ClassId) (N sz : Nat) (q_t q_t_numbers : Nat) (v_t_filledFor : Int32) (r_t_numbers : Nat → Int32) (x1 : Int32) (z0 : Int32) (hf : f_X4_leastFrom N r_t_numbers x1 = some (z0)) : Ct l yX4_leastFrom wsX4_leastFrom ⟨0, 0, 0, 0⟩ [.ref q_t, .int x1] D cI cC [(q_t, .inr (4, [.int v_t_filledFor, .ref q_t_numbers])), (q_t_numbers, .inl (cI, 41, .inl r_t_numbers))] sz (fun A => (QI D cI cC A [(q_t, .inr (4, [.int v_t_filledFor, .ref q_t_numbers])), (q_t_numbers, .inl (cI, 41, .inl r_t_numbers))] z0)) := by
  suffices h : ∀ wE : va_W, wE = [(q_t, .inr (4, [.int v_t_filledFor, .ref q_t_numbers])), (q_t_numbers, .inl (cI, 41, .inl r_t_numbers))] → Ct l yX4_leastFrom wsX4_leastFrom ⟨0, 0, 0, 0⟩ [.ref q_t, .int x1] D cI cC [(q_t, .inr (4, [.int v_t_filledFor, .ref q_t_numbers])), (q_t_numbers, .inl (cI, 41, .inl r_t_numbers))] sz (fun A => (QI D cI cC A wE z0)) from h _ rfl
  intro wE hwE
  rw [f_X4_leastFrom] at hf
  refine Ct.beg cX4_leastFrom 3 (some .int) [(0, .ref q_t), (1, .int x1)] RX4 (by decide) rfl rfl (Nat.le_of_ble_eq_true rfl) rfl (fun p e s m below meth c A hx hb hr hts hown hlk hml hnm hK hP hD hS hA hG ls hl => ?_)
  refine lv_bipush (v := (41 : Int32)) hx hb dX4_leastFrom_0 (by decide) ?_
  refine lv_iload_n hx hb dX4_leastFrom_2 rfl (lv_at hl 1 rfl) ?_
  refine lv_isub hx hb dX4_leastFrom_3 ?_
  refine lv_istore_n (lv' := [(2, .int ((41 : Int32) - x1)), (0, .ref q_t), (1, .int x1)]) hx hb dX4_leastFrom_4 rfl hl (by decide) rfl (fun ls hl => ?_)
  have hL1 : ∀ (n : Nat) (y2 : Int32) (H : Heap) (locs : List Loc) (ls : Array Slot), va_P D vwCl [(q_t, .inr (4, [.int v_t_filledFor, .ref q_t_numbers])), (q_t_numbers, .inl (cI, 41, .inl r_t_numbers))] H → va_D A [(q_t, .inr (4, [.int v_t_filledFor, .ref q_t_numbers])), (q_t_numbers, .inl (cI, 41, .inl r_t_numbers))] → va_S A s.heap H locs → lv_has ls 3 [(0, .ref q_t), (1, .int x1), (2, .int y2)] → f_X4_leastFrom_L5 N x1 r_t_numbers n y2 = some (z0) → W p l e ⟨0, 0, 0, 0⟩ s m ([.ref q_t, .int x1] : List Value).toArray below meth c H locs 0 0 (MQ below (QI D cI cC A wE z0) ([.ref q_t, .int x1] : List Value).toArray s 0 0 A) (F0 m 5 ls []) := by
    intro n
    induction n with
    | zero => intro y2 H locs ls hP hD hS hl hf; rw [f_X4_leastFrom_L5] at hf; cases hf
    | succ n ih =>
      intro y2 H locs ls hP hD hS hl hf
      rw [f_X4_leastFrom_L5] at hf
      refine lv_iload_n hx hb dX4_leastFrom_5 rfl (lv_at hl 2 rfl) ?_
      refine lv_if_le (tgt := 36) hx hb dX4_leastFrom_6 (by decide) (fun c3 => ?_) (fun c3 => ?_)
      · have hf := ip c3 hf
        refine lv_iload_n hx hb dX4_leastFrom_36 rfl (lv_at hl 2 rfl) ?_
        have e1_ := Option.some.inj hf
        exact endI hx hb hr hlk hK (by rw [hwE]; exact hP) (by rw [hwE]; exact hD) hS e1_ dX4_leastFrom_37
      · have hf := iq c3 hf
        refine lv_aload_n hx hb dX4_leastFrom_9 rfl (lv_at hl 0 rfl) ?_
        refine va_get (D := D) (ci := 4) (v := .ref q_t_numbers) (C := RX4) (T := TX4) (N := 2) hx hb hts in_X4_leastFrom_4 hown hK hP 0 rfl rfl 1 (by decide) (hts (.fieldLink RX4 9 "PinLanes$Rows" "numbers" "[I") (by decide +kernel)) (fun _ h9 => h9) rfl dX4_leastFrom_10 ?_
        refine lv_iload_n hx hb dX4_leastFrom_13 rfl (lv_at hl 2 rfl) ?_
        refine lv_iconst (v := (1 : Int32)) hx hb dX4_leastFrom_14 (by decide) ?_
        refine lv_isub hx hb dX4_leastFrom_15 ?_
        obtain ⟨b4, hf⟩ := gd_e hf
        refine va_iald hx hb hK hP 1 0 rfl rfl (inb_in b4) dX4_leastFrom_16 ?_
        refine lv_aload_n hx hb dX4_leastFrom_17 rfl (lv_at hl 0 rfl) ?_
        refine va_get (D := D) (ci := 4) (v := .ref q_t_numbers) (C := RX4) (T := TX4) (N := 2) hx hb hts in_X4_leastFrom_4 hown hK hP 0 rfl rfl 1 (by decide) (hts (.fieldLink RX4 9 "PinLanes$Rows" "numbers" "[I") (by decide +kernel)) (fun _ h9 => h9) rfl dX4_leastFrom_18 ?_
        refine lv_iload_n hx hb dX4_leastFrom_21 rfl (lv_at hl 2 rfl) ?_
        refine lv_iconst (v := (1 : Int32)) hx hb dX4_leastFrom_22 (by decide) ?_
        refine lv_isub hx hb dX4_leastFrom_23 ?_
        refine lv_iload_n hx hb dX4_leastFrom_24 rfl (lv_at hl 1 rfl) ?_
        refine lv_iadd hx hb dX4_leastFrom_25 ?_
        obtain ⟨b5, hf⟩ := gd_e hf
        refine va_iald hx hb hK hP 1 0 rfl rfl (inb_in b5) dX4_leastFrom_26 ?_
        refine lv_icmp_ne (tgt := 36) hx hb dX4_leastFrom_27 (by decide) (fun c6 => ?_) (fun c6 => ?_)
        · have hf := iq c6 hf
          refine lv_iload_n hx hb dX4_leastFrom_36 rfl (lv_at hl 2 rfl) ?_
          have e1_ := Option.some.inj hf
          exact endI hx hb hr hlk hK (by rw [hwE]; exact hP) (by rw [hwE]; exact hD) hS e1_ dX4_leastFrom_37
        · have hf := ip c6 hf
          refine lv_iinc (v := y2 + (-1 : Int32)) (lv' := [(2, .int (y2 + (-1 : Int32))), (0, .ref q_t), (1, .int x1)]) hx hb dX4_leastFrom_30 hl (k := 2) rfl rfl (by decide) rfl (fun ls hl => ?_)
          refine lv_goto (tgt := 5) hx hb dX4_leastFrom_33 (by decide) ?_
          exact ih (y2 + (-1 : Int32)) _ _ _ hP hD hS (lv_sub hl [1, 2, 0] rfl) hf
  exact hL1 N ((41 : Int32) - x1) _ _ _ hP hD hS (lv_sub hl [1, 2, 0] rfl) hf
-- X4_leastPeriod
set_option maxHeartbeats 4000000 in
set_option maxRecDepth 100000 in
theorem c_X4_leastPeriod (l : Launch) (D : va_G) (cI cC : ClassId) (N sz : Nat) (q_t q_t_numbers : Nat) (v_t_filledFor : Int32) (r_t_numbers : Nat → Int32) (z0 : Int32) (hf : f_X4_leastPeriod N r_t_numbers = some (z0)) : Ct l yX4_leastPeriod wsX4_leastPeriod ⟨1, 0, 0, 22⟩ [.ref q_t] D cI cC [(q_t, .inr (4, [.int v_t_filledFor, .ref q_t_numbers])), (q_t_numbers, .inl (cI, 41, .inl r_t_numbers))] sz (fun A => (QI D cI cC A [(q_t, .inr (4, [.int v_t_filledFor, .ref q_t_numbers])), (q_t_numbers, .inl (cI, 41, .inl r_t_numbers))] z0)) := by
  suffices h : ∀ wE : va_W, wE = [(q_t, .inr (4, [.int v_t_filledFor, .ref q_t_numbers])), (q_t_numbers, .inl (cI, 41, .inl r_t_numbers))] → Ct l yX4_leastPeriod wsX4_leastPeriod ⟨1, 0, 0, 22⟩ [.ref q_t] D cI cC [(q_t, .inr (4, [.int v_t_filledFor, .ref q_t_numbers])), (q_t_numbers, .inl (cI, 41, .inl r_t_numbers))] sz (fun A => (QI D cI cC A wE z0)) from h _ rfl
  intro wE hwE
  rw [f_X4_leastPeriod] at hf
  refine Ct.beg cX4_leastPeriod 2 (some .int) [(0, .ref q_t)] RX4 (by decide) rfl rfl (Nat.le_of_ble_eq_true rfl) rfl (fun p e s m below meth c A hx hb hr hts hown hlk hml hnm hK hP hD hS hA hG ls hl => ?_)
  refine lv_iconst (v := (1 : Int32)) hx hb dX4_leastPeriod_0 (by decide) ?_
  refine lv_istore_n (lv' := [(1, .int (1 : Int32)), (0, .ref q_t)]) hx hb dX4_leastPeriod_1 rfl hl (by decide) rfl (fun ls hl => ?_)
  have hL1 : ∀ (n : Nat) (y2 : Int32) (H : Heap) (locs : List Loc) (ls : Array Slot), va_P D vwCl [(q_t, .inr (4, [.int v_t_filledFor, .ref q_t_numbers])), (q_t_numbers, .inl (cI, 41, .inl r_t_numbers))] H → va_D A [(q_t, .inr (4, [.int v_t_filledFor, .ref q_t_numbers])), (q_t_numbers, .inl (cI, 41, .inl r_t_numbers))] → va_S A s.heap H locs → lv_has ls 2 [(0, .ref q_t), (1, .int y2)] → f_X4_leastPeriod_L2 N r_t_numbers n y2 = some (z0) → W p l e ⟨1, 0, 0, 22⟩ s m ([.ref q_t] : List Value).toArray below meth c H locs 0 0 (MQ below (QI D cI cC A wE z0) ([.ref q_t] : List Value).toArray s 0 0 A) (F0 m 2 ls []) := by
    intro n
    induction n with
    | zero => intro y2 H locs ls hP hD hS hl hf; rw [f_X4_leastPeriod_L2] at hf; cases hf
    | succ n ih =>
      intro y2 H locs ls hP hD hS hl hf
      rw [f_X4_leastPeriod_L2] at hf
      refine lv_iload_n hx hb dX4_leastPeriod_2 rfl (lv_at hl 1 rfl) ?_
      refine lv_bipush (v := (20 : Int32)) hx hb dX4_leastPeriod_3 (by decide) ?_
      refine lv_icmp_gt (tgt := 26) hx hb dX4_leastPeriod_5 (by decide) (fun c3 => ?_) (fun c3 => ?_)
      · have hf := ip c3 hf
        refine lv_iconst (v := (-1 : Int32)) hx hb dX4_leastPeriod_26 (by decide) ?_
        have e1_ := Option.some.inj hf
        exact endI hx hb hr hlk hK (by rw [hwE]; exact hP) (by rw [hwE]; exact hD) hS e1_ dX4_leastPeriod_27
      · have hf := iq c3 hf
        refine lv_aload_n hx hb dX4_leastPeriod_8 rfl (lv_at hl 0 rfl) ?_
        refine lv_iload_n hx hb dX4_leastPeriod_9 rfl (lv_at hl 1 rfl) ?_
        obtain ⟨a4, hra4, hf⟩ := ob1_e hf
        refine callVi (As := [.int y2]) (rest := []) (wn := [(q_t, .inr (4, [.int v_t_filledFor, .ref q_t_numbers])), (q_t_numbers, .inl (cI, 41, .inl r_t_numbers))]) (q0 := 0) (ci := 4) ⟨hx, hb, hml, hown, hts⟩ (c_X4_leastFrom l D cI cC N _ q_t q_t_numbers v_t_filledFor r_t_numbers y2 a4 hra4) (cwV 1 hts gX4_leastPeriod_X4_leastFrom rfl rfl rfl (by decide +kernel) ⟨Nat.le_of_ble_eq_true rfl, Nat.le_of_ble_eq_true rfl⟩) hK hP hD hS hA hG (Cut.mk [0, 1] [] [0, 1] [] rfl rfl rfl rfl (by decide) rfl rfl) rfl rfl rfl rfl hl.1 rfl (Nat.le_of_ble_eq_true rfl) ⟨Nat.zero_le _, Nat.zero_le _⟩ dX4_leastPeriod_10 (fun H locs hP hD hS => ?_)
        refine lv_bipush (v := (20 : Int32)) hx hb dX4_leastPeriod_13 (by decide) ?_
        refine lv_icmp_gt (tgt := 20) hx hb dX4_leastPeriod_15 (by decide) (fun c5 => ?_) (fun c5 => ?_)
        · have hf := ip c5 hf
          refine lv_iinc (v := y2 + (1 : Int32)) (lv' := [(1, .int (y2 + (1 : Int32))), (0, .ref q_t)]) hx hb dX4_leastPeriod_20 hl (k := 1) rfl rfl (by decide) rfl (fun ls hl => ?_)
          refine lv_goto (tgt := 2) hx hb dX4_leastPeriod_23 (by decide) ?_
          exact ih (y2 + (1 : Int32)) _ _ _ hP hD hS (lv_sub hl [1, 0] rfl) hf
        · have hf := iq c5 hf
          refine lv_iload_n hx hb dX4_leastPeriod_18 rfl (lv_at hl 1 rfl) ?_
          have e1_ := Option.some.inj hf
          exact endI hx hb hr hlk hK (by rw [hwE]; exact hP) (by rw [hwE]; exact hD) hS e1_ dX4_leastPeriod_19
  exact hL1 N (1 : Int32) _ _ _ hP hD hS (lv_sub hl [1, 0] rfl) hf
-- X5_add
set_option maxRecDepth 20000 in
theorem in_X5_add_5 : ∀ w ∈ wsX50, w ∈ wsX5_add := by decide +kernel
set_option maxHeartbeats 4000000 in
set_option maxRecDepth 100000 in
theorem c_X5_add (l : Launch) (D : va_G) (cI cC : ClassId) (N sz : Nat) (q_t q_t_pins q_t_ways q_t_fell : Nat) (v_t_size : Int32) (r_t_pins : Nat → Int32) (r_t_ways : Nat → Int32) (r_t_fell : Nat → Int32) (x1 : Int32) (x2 : Int32) (x3 : Int32) (z_v_t_size : Int32) (z_r_t_pins : Nat → Int32) (z_r_t_ways : Nat → Int32) (z_r_t_fell : Nat → Int32) (hf : f_X5_add N v_t_size r_t_pins r_t_ways r_t_fell x1 x2 x3 = some (z_v_t_size, z_r_t_pins, z_r_t_ways, z_r_t_fell)) : Ct l yX5_add wsX5_add ⟨0, 0, 0, 0⟩ [.ref q_t, .int x1, .int x2, .int x3] D cI cC [(q_t, .inr (5, [.int v_t_size, .ref q_t_pins, .ref q_t_ways, .ref q_t_fell])), (q_t_pins, .inl (cI, 6, .inl r_t_pins)), (q_t_ways, .inl (cI, 6, .inl r_t_ways)), (q_t_fell, .inl (cI, 6, .inl r_t_fell))] sz (fun A => (QV D cI cC A [(q_t, .inr (5, [.int z_v_t_size, .ref q_t_pins, .ref q_t_ways, .ref q_t_fell])), (q_t_pins, .inl (cI, 6, .inl z_r_t_pins)), (q_t_ways, .inl (cI, 6, .inl z_r_t_ways)), (q_t_fell, .inl (cI, 6, .inl z_r_t_fell))])) := by
  suffices h : ∀ wE : va_W, wE = [(q_t, .inr (5, [.int z_v_t_size, .ref q_t_pins, .ref q_t_ways, .ref q_t_fell])), (q_t_pins, .inl (cI, 6, .inl z_r_t_pins)), (q_t_ways, .inl (cI, 6, .inl z_r_t_ways)), (q_t_fell, .inl (cI, 6, .inl z_r_t_fell))] → Ct l yX5_add wsX5_add ⟨0, 0, 0, 0⟩ [.ref q_t, .int x1, .int x2, .int x3] D cI cC [(q_t, .inr (5, [.int v_t_size, .ref q_t_pins, .ref q_t_ways, .ref q_t_fell])), (q_t_pins, .inl (cI, 6, .inl r_t_pins)), (q_t_ways, .inl (cI, 6, .inl r_t_ways)), (q_t_fell, .inl (cI, 6, .inl r_t_fell))] sz (fun A => (QV D cI cC A wE)) from h _ rfl
  intro wE hwE
  rw [f_X5_add] at hf
  refine Ct.beg cX5_add 4 none [(0, .ref q_t), (1, .int x1), (2, .int x2), (3, .int x3)] RX5 (by decide) rfl rfl (Nat.le_of_ble_eq_true rfl) rfl (fun p e s m below meth c A hx hb hr hts hown hlk hml hnm hK hP hD hS hA hG ls hl => ?_)
  refine lv_aload_n hx hb dX5_add_0 rfl (lv_at hl 0 rfl) ?_
  refine va_get (D := D) (ci := 5) (v := .int v_t_size) (C := RX5) (T := TX5) (N := 4) hx hb hts in_X5_add_5 hown hK hP 0 rfl rfl 0 (by decide) (hts (.fieldLink RX5 21 "PinLanes$Seen" "size" "I") (by decide +kernel)) (fun _ h9 => h9) rfl dX5_add_1 ?_
  refine lv_bipush (v := (6 : Int32)) hx hb dX5_add_4 (by decide) ?_
  refine lv_icmp_lt (tgt := 10) hx hb dX5_add_6 (by decide) (fun c1 => ?_) (fun c1 => ?_)
  · have hf := ip c1 hf
    refine lv_aload_n hx hb dX5_add_10 rfl (lv_at hl 0 rfl) ?_
    refine va_get (D := D) (ci := 5) (v := .ref q_t_pins) (C := RX5) (T := TX5) (N := 4) hx hb hts in_X5_add_5 hown hK hP 0 rfl rfl 1 (by decide) (hts (.fieldLink RX5 9 "PinLanes$Seen" "pins" "[I") (by decide +kernel)) (fun _ h9 => h9) rfl dX5_add_11 ?_
    refine lv_aload_n hx hb dX5_add_14 rfl (lv_at hl 0 rfl) ?_
    refine va_get (D := D) (ci := 5) (v := .int v_t_size) (C := RX5) (T := TX5) (N := 4) hx hb hts in_X5_add_5 hown hK hP 0 rfl rfl 0 (by decide) (hts (.fieldLink RX5 21 "PinLanes$Seen" "size" "I") (by decide +kernel)) (fun _ h9 => h9) rfl dX5_add_15 ?_
    refine lv_iload_n hx hb dX5_add_18 rfl (lv_at hl 1 rfl) ?_
    obtain ⟨b2, hf⟩ := gd_e hf
    refine va_iast hx hb hK hP hD hS 1 0 rfl rfl (inb_in b2) dX5_add_19 (fun H locs hP hD hS => ?_)
    have hP : va_P D vwCl [(q_t, .inr (5, [.int v_t_size, .ref q_t_pins, .ref q_t_ways, .ref q_t_fell])), (q_t_pins, .inl (cI, 6, .inl (upd r_t_pins v_t_size.toNatClampNeg x1))), (q_t_ways, .inl (cI, 6, .inl r_t_ways)), (q_t_fell, .inl (cI, 6, .inl r_t_fell))] H := hP
    have hD : va_D A [(q_t, .inr (5, [.int v_t_size, .ref q_t_pins, .ref q_t_ways, .ref q_t_fell])), (q_t_pins, .inl (cI, 6, .inl (upd r_t_pins v_t_size.toNatClampNeg x1))), (q_t_ways, .inl (cI, 6, .inl r_t_ways)), (q_t_fell, .inl (cI, 6, .inl r_t_fell))] := hD
    refine lv_aload_n hx hb dX5_add_20 rfl (lv_at hl 0 rfl) ?_
    refine va_get (D := D) (ci := 5) (v := .ref q_t_ways) (C := RX5) (T := TX5) (N := 4) hx hb hts in_X5_add_5 hown hK hP 0 rfl rfl 2 (by decide) (hts (.fieldLink RX5 15 "PinLanes$Seen" "ways" "[I") (by decide +kernel)) (fun _ h9 => h9) rfl dX5_add_21 ?_
    refine lv_aload_n hx hb dX5_add_24 rfl (lv_at hl 0 rfl) ?_
    refine va_get (D := D) (ci := 5) (v := .int v_t_size) (C := RX5) (T := TX5) (N := 4) hx hb hts in_X5_add_5 hown hK hP 0 rfl rfl 0 (by decide) (hts (.fieldLink RX5 21 "PinLanes$Seen" "size" "I") (by decide +kernel)) (fun _ h9 => h9) rfl dX5_add_25 ?_
    refine lv_iload_n hx hb dX5_add_28 rfl (lv_at hl 2 rfl) ?_
    obtain ⟨b3, hf⟩ := gd_e hf
    refine va_iast hx hb hK hP hD hS 2 0 rfl rfl (inb_in b3) dX5_add_29 (fun H locs hP hD hS => ?_)
    have hP : va_P D vwCl [(q_t, .inr (5, [.int v_t_size, .ref q_t_pins, .ref q_t_ways, .ref q_t_fell])), (q_t_pins, .inl (cI, 6, .inl (upd r_t_pins v_t_size.toNatClampNeg x1))), (q_t_ways, .inl (cI, 6, .inl (upd r_t_ways v_t_size.toNatClampNeg x2))), (q_t_fell, .inl (cI, 6, .inl r_t_fell))] H := hP
    have hD : va_D A [(q_t, .inr (5, [.int v_t_size, .ref q_t_pins, .ref q_t_ways, .ref q_t_fell])), (q_t_pins, .inl (cI, 6, .inl (upd r_t_pins v_t_size.toNatClampNeg x1))), (q_t_ways, .inl (cI, 6, .inl (upd r_t_ways v_t_size.toNatClampNeg x2))), (q_t_fell, .inl (cI, 6, .inl r_t_fell))] := hD
    refine lv_aload_n hx hb dX5_add_30 rfl (lv_at hl 0 rfl) ?_
    refine va_get (D := D) (ci := 5) (v := .ref q_t_fell) (C := RX5) (T := TX5) (N := 4) hx hb hts in_X5_add_5 hown hK hP 0 rfl rfl 3 (by decide) (hts (.fieldLink RX5 18 "PinLanes$Seen" "fell" "[I") (by decide +kernel)) (fun _ h9 => h9) rfl dX5_add_31 ?_
    refine lv_aload_n hx hb dX5_add_34 rfl (lv_at hl 0 rfl) ?_
    refine va_get (D := D) (ci := 5) (v := .int v_t_size) (C := RX5) (T := TX5) (N := 4) hx hb hts in_X5_add_5 hown hK hP 0 rfl rfl 0 (by decide) (hts (.fieldLink RX5 21 "PinLanes$Seen" "size" "I") (by decide +kernel)) (fun _ h9 => h9) rfl dX5_add_35 ?_
    refine lv_iload_n hx hb dX5_add_38 rfl (lv_at hl 3 rfl) ?_
    obtain ⟨b4, hf⟩ := gd_e hf
    refine va_iast hx hb hK hP hD hS 3 0 rfl rfl (inb_in b4) dX5_add_39 (fun H locs hP hD hS => ?_)
    have hP : va_P D vwCl [(q_t, .inr (5, [.int v_t_size, .ref q_t_pins, .ref q_t_ways, .ref q_t_fell])), (q_t_pins, .inl (cI, 6, .inl (upd r_t_pins v_t_size.toNatClampNeg x1))), (q_t_ways, .inl (cI, 6, .inl (upd r_t_ways v_t_size.toNatClampNeg x2))), (q_t_fell, .inl (cI, 6, .inl (upd r_t_fell v_t_size.toNatClampNeg x3)))] H := hP
    have hD : va_D A [(q_t, .inr (5, [.int v_t_size, .ref q_t_pins, .ref q_t_ways, .ref q_t_fell])), (q_t_pins, .inl (cI, 6, .inl (upd r_t_pins v_t_size.toNatClampNeg x1))), (q_t_ways, .inl (cI, 6, .inl (upd r_t_ways v_t_size.toNatClampNeg x2))), (q_t_fell, .inl (cI, 6, .inl (upd r_t_fell v_t_size.toNatClampNeg x3)))] := hD
    refine lv_aload_n hx hb dX5_add_40 rfl (lv_at hl 0 rfl) ?_
    refine lv_dup hx hb dX5_add_41 rfl ?_
    refine va_get (D := D) (ci := 5) (v := .int v_t_size) (C := RX5) (T := TX5) (N := 4) hx hb hts in_X5_add_5 hown hK hP 0 rfl rfl 0 (by decide) (hts (.fieldLink RX5 21 "PinLanes$Seen" "size" "I") (by decide +kernel)) (fun _ h9 => h9) rfl dX5_add_42 ?_
    refine lv_iconst (v := (1 : Int32)) hx hb dX5_add_45 (by decide) ?_
    refine lv_iadd hx hb dX5_add_46 ?_
    refine va_put (D := D) (ci := 5) (v := .int (v_t_size + (1 : Int32))) (ty := .int) (C := RX5) (T := TX5) (N := 4) hx hb hts in_X5_add_5 tyX5 tyX5_ok nmX5 hown hK hP hD hS 0 rfl rfl 0 (by decide) (hts (.fieldLink RX5 21 "PinLanes$Seen" "size" "I") (by decide +kernel)) (fun _ h9 => h9) rfl (by decide +kernel) rfl rfl (Nat.le_of_ble_eq_true rfl) dX5_add_47 (fun H locs hP hD hS => ?_)
    have hP : va_P D vwCl [(q_t, .inr (5, [.int (v_t_size + (1 : Int32)), .ref q_t_pins, .ref q_t_ways, .ref q_t_fell])), (q_t_pins, .inl (cI, 6, .inl (upd r_t_pins v_t_size.toNatClampNeg x1))), (q_t_ways, .inl (cI, 6, .inl (upd r_t_ways v_t_size.toNatClampNeg x2))), (q_t_fell, .inl (cI, 6, .inl (upd r_t_fell v_t_size.toNatClampNeg x3)))] H := hP
    have hD : va_D A [(q_t, .inr (5, [.int (v_t_size + (1 : Int32)), .ref q_t_pins, .ref q_t_ways, .ref q_t_fell])), (q_t_pins, .inl (cI, 6, .inl (upd r_t_pins v_t_size.toNatClampNeg x1))), (q_t_ways, .inl (cI, 6, .inl (upd r_t_ways v_t_size.toNatClampNeg x2))), (q_t_fell, .inl (cI, 6, .inl (upd r_t_fell v_t_size.toNatClampNeg x3)))] := hD
    obtain ⟨e1_, e2_, e3_, e4_⟩ := so4 hf
    exact endV hx hb hr hlk hK (by rw [hwE, ← e1_, ← e2_, ← e3_, ← e4_]; exact hP) (by rw [hwE, ← e1_, ← e2_, ← e3_, ← e4_]; exact hD) hS dX5_add_50
  · have hf := iq c1 hf
    obtain ⟨e1_, e2_, e3_, e4_⟩ := so4 hf
    exact endV hx hb hr hlk hK (by rw [hwE, ← e1_, ← e2_, ← e3_, ← e4_]; exact hP) (by rw [hwE, ← e1_, ← e2_, ← e3_, ← e4_]; exact hD) hS dX5_add_9
-- X5_sortsThatFell
set_option maxHeartbeats 4000000 in
set_option maxRecDepth 100000 in
theorem c_X5_sortsThatFell (l : Launch) (D : va_G) (cI cC : ClassId) (N sz : Nat) (x0 : Int32) (x1 : Int32) (z0 : Int32) (hf : f_X5_sortsThatFell N x0 x1 = some (z0)) : Ct l yX5_sortsThatFell wsX5_sortsThatFell ⟨0, 0, 0, 0⟩ [.int x0, .int x1] D cI cC [] sz (fun A => (QI D cI cC A [] z0)) := by
  suffices h : ∀ wE : va_W, wE = [] → Ct l yX5_sortsThatFell wsX5_sortsThatFell ⟨0, 0, 0, 0⟩ [.int x0, .int x1] D cI cC [] sz (fun A => (QI D cI cC A wE z0)) from h _ rfl
  intro wE hwE
  rw [f_X5_sortsThatFell] at hf
  refine Ct.beg cX5_sortsThatFell 4 (some .int) [(0, .int x0), (1, .int x1)] RX5 (by decide) rfl rfl (Nat.le_of_ble_eq_true rfl) rfl (fun p e s m below meth c A hx hb hr hts hown hlk hml hnm hK hP hD hS hA hG ls hl => ?_)
  obtain ⟨t_FE, hFZ, hFT⟩ := hG.2.1
  refine lv_iconst (v := (0 : Int32)) hx hb dX5_sortsThatFell_0 (by decide) ?_
  refine lv_istore_n (lv' := [(2, .int (0 : Int32)), (0, .int x0), (1, .int x1)]) hx hb dX5_sortsThatFell_1 rfl hl (by decide) rfl (fun ls hl => ?_)
  refine lv_iconst (v := (0 : Int32)) hx hb dX5_sortsThatFell_2 (by decide) ?_
  refine lv_istore_n (lv' := [(3, .int (0 : Int32)), (2, .int (0 : Int32)), (0, .int x0), (1, .int x1)]) hx hb dX5_sortsThatFell_3 rfl hl (by decide) rfl (fun ls hl => ?_)
  have hL1 : ∀ (n : Nat) (y2 : Int32) (y3 : Int32) (H : Heap) (locs : List Loc) (ls : Array Slot), va_P D vwCl [] H → va_D A [] → va_S A s.heap H locs → lv_has ls 4 [(0, .int x0), (1, .int x1), (2, .int y2), (3, .int y3)] → f_X5_sortsThatFell_L4 N x0 x1 n y2 y3 = some (z0) → W p l e ⟨0, 0, 0, 0⟩ s m ([.int x0, .int x1] : List Value).toArray below meth c H locs 0 0 (MQ below (QI D cI cC A wE z0) ([.int x0, .int x1] : List Value).toArray s 0 0 A) (F0 m 4 ls []) := by
    intro n
    induction n with
    | zero => intro y2 y3 H locs ls hP hD hS hl hf; rw [f_X5_sortsThatFell_L4] at hf; cases hf
    | succ n ih =>
      intro y2 y3 H locs ls hP hD hS hl hf
      rw [f_X5_sortsThatFell_L4] at hf
      refine lv_iload_n hx hb dX5_sortsThatFell_4 rfl (lv_at hl 3 rfl) ?_
      refine lv_iconst (v := (5 : Int32)) hx hb dX5_sortsThatFell_5 (by decide) ?_
      refine lv_icmp_ge (tgt := 36) hx hb dX5_sortsThatFell_6 (by decide) (fun c4 => ?_) (fun c4 => ?_)
      · have hf := ip c4 hf
        refine lv_iload_n hx hb dX5_sortsThatFell_36 rfl (lv_at hl 2 rfl) ?_
        have e1_ := Option.some.inj hf
        exact endI hx hb hr hlk hK (by rw [hwE]; exact hP) (by rw [hwE]; exact hD) hS e1_ dX5_sortsThatFell_37
      · have hf := iq c4 hf
        refine va_gets hx hb hFZ hS hown (hts (.fieldLink RX5 49 "PinLanes$Seen" "FELL" "[I") (by decide +kernel)) (fun _ h9 => h9) dX5_sortsThatFell_9 ?_
        refine lv_iconst (v := (2 : Int32)) hx hb dX5_sortsThatFell_12 (by decide) ?_
        refine lv_iload_n hx hb dX5_sortsThatFell_13 rfl (lv_at hl 3 rfl) ?_
        refine lv_imul hx hb dX5_sortsThatFell_14 ?_
        refine lv_iload_n hx hb dX5_sortsThatFell_15 rfl (lv_at hl 0 rfl) ?_
        refine lv_iconst (v := (1 : Int32)) hx hb dX5_sortsThatFell_16 (by decide) ?_
        refine lv_iand hx hb dX5_sortsThatFell_17 ?_
        refine lv_iadd hx hb dX5_sortsThatFell_18 ?_
        obtain ⟨b5, hf⟩ := gd_e hf
        refine va_ti hx hb hFT hS (inb_in b5) rfl dX5_sortsThatFell_19 ?_
        refine lv_iload_n hx hb dX5_sortsThatFell_20 rfl (lv_at hl 1 rfl) ?_
        obtain ⟨j7, ej7, hf⟩ := jm_e hf
        have hj7 : ∀ (y6 : Int32) (H : Heap) (locs : List Loc) (ls : Array Slot), va_P D vwCl [] H → va_D A [] → va_S A s.heap H locs → lv_has ls 4 [(0, .int x0), (1, .int x1), (2, .int y6), (3, .int y3)] → j7 y6 = some (z0) → W p l e ⟨0, 0, 0, 0⟩ s m ([.int x0, .int x1] : List Value).toArray below meth c H locs 0 0 (MQ below (QI D cI cC A wE z0) ([.int x0, .int x1] : List Value).toArray s 0 0 A) (F0 m 30 ls []) := by
          intro y6 H locs ls hP hD hS hl hf
          rw [ej7] at hf
          refine lv_iinc (v := y3 + (1 : Int32)) (lv' := [(3, .int (y3 + (1 : Int32))), (0, .int x0), (1, .int x1), (2, .int y6)]) hx hb dX5_sortsThatFell_30 hl (k := 3) rfl rfl (by decide) rfl (fun ls hl => ?_)
          refine lv_goto (tgt := 4) hx hb dX5_sortsThatFell_33 (by decide) ?_
          exact ih y6 (y3 + (1 : Int32)) _ _ _ hP hD hS (lv_sub hl [1, 2, 3, 0] rfl) hf
        refine lv_icmp_ne (tgt := 30) hx hb dX5_sortsThatFell_21 (by decide) (fun c8 => ?_) (fun c8 => ?_)
        · have hf := iq c8 hf
          exact hj7 y2 _ _ _ hP hD hS (lv_sub hl [0, 1, 2, 3] rfl) hf
        · have hf := ip c8 hf
          refine lv_iload_n hx hb dX5_sortsThatFell_24 rfl (lv_at hl 2 rfl) ?_
          refine lv_iconst (v := (1 : Int32)) hx hb dX5_sortsThatFell_25 (by decide) ?_
          refine lv_iload_n hx hb dX5_sortsThatFell_26 rfl (lv_at hl 3 rfl) ?_
          refine lv_ishl hx hb dX5_sortsThatFell_27 ?_
          refine lv_ior hx hb dX5_sortsThatFell_28 ?_
          refine lv_istore_n (lv' := [(2, .int (y2 ||| ((1 : Int32) <<< (y3 &&& 31)))), (0, .int x0), (1, .int x1), (3, .int y3)]) hx hb dX5_sortsThatFell_29 rfl hl (by decide) rfl (fun ls hl => ?_)
          exact hj7 (y2 ||| ((1 : Int32) <<< (y3 &&& 31))) _ _ _ hP hD hS (lv_sub hl [1, 2, 0, 3] rfl) hf
  exact hL1 N (0 : Int32) (0 : Int32) _ _ _ hP hD hS (lv_sub hl [2, 3, 1, 0] rfl) hf
-- X5_leftAtWorst
set_option maxHeartbeats 4000000 in
set_option maxRecDepth 100000 in
theorem c_X5_leftAtWorst (l : Launch) (D : va_G) (cI cC : ClassId) (N sz : Nat) (x0 : Int32) (x1 : Int32) (z0 : Int32) (hf : f_X5_leftAtWorst N x0 x1 = some (z0)) : Ct l yX5_leftAtWorst wsX5_leftAtWorst ⟨1, 0, 0, 23⟩ [.int x0, .int x1] D cI cC [] sz (fun A => (QI D cI cC A [] z0)) := by
  suffices h : ∀ wE : va_W, wE = [] → Ct l yX5_leftAtWorst wsX5_leftAtWorst ⟨1, 0, 0, 23⟩ [.int x0, .int x1] D cI cC [] sz (fun A => (QI D cI cC A wE z0)) from h _ rfl
  intro wE hwE
  rw [f_X5_leftAtWorst] at hf
  refine Ct.beg cX5_leftAtWorst 4 (some .int) [(0, .int x0), (1, .int x1)] RX5 (by decide) rfl rfl (Nat.le_of_ble_eq_true rfl) rfl (fun p e s m below meth c A hx hb hr hts hown hlk hml hnm hK hP hD hS hA hG ls hl => ?_)
  refine lv_iconst (v := (0 : Int32)) hx hb dX5_leftAtWorst_0 (by decide) ?_
  refine lv_istore_n (lv' := [(2, .int (0 : Int32)), (0, .int x0), (1, .int x1)]) hx hb dX5_leftAtWorst_1 rfl hl (by decide) rfl (fun ls hl => ?_)
  refine lv_iconst (v := (0 : Int32)) hx hb dX5_leftAtWorst_2 (by decide) ?_
  refine lv_istore_n (lv' := [(3, .int (0 : Int32)), (2, .int (0 : Int32)), (0, .int x0), (1, .int x1)]) hx hb dX5_leftAtWorst_3 rfl hl (by decide) rfl (fun ls hl => ?_)
  have hL1 : ∀ (n : Nat) (y2 : Int32) (y3 : Int32) (H : Heap) (locs : List Loc) (ls : Array Slot), va_P D vwCl [] H → va_D A [] → va_S A s.heap H locs → lv_has ls 4 [(0, .int x0), (1, .int x1), (2, .int y2), (3, .int y3)] → f_X5_leftAtWorst_L4 N x0 x1 n y2 y3 = some (z0) → W p l e ⟨1, 0, 0, 23⟩ s m ([.int x0, .int x1] : List Value).toArray below meth c H locs 0 0 (MQ below (QI D cI cC A wE z0) ([.int x0, .int x1] : List Value).toArray s 0 0 A) (F0 m 4 ls []) := by
    intro n
    induction n with
    | zero => intro y2 y3 H locs ls hP hD hS hl hf; rw [f_X5_leftAtWorst_L4] at hf; cases hf
    | succ n ih =>
      intro y2 y3 H locs ls hP hD hS hl hf
      rw [f_X5_leftAtWorst_L4] at hf
      refine lv_iload_n hx hb dX5_leftAtWorst_4 rfl (lv_at hl 3 rfl) ?_
      refine lv_iconst (v := (3 : Int32)) hx hb dX5_leftAtWorst_5 (by decide) ?_
      refine lv_icmp_gt (tgt := 30) hx hb dX5_leftAtWorst_6 (by decide) (fun c4 => ?_) (fun c4 => ?_)
      · have hf := ip c4 hf
        refine lv_iload_n hx hb dX5_leftAtWorst_30 rfl (lv_at hl 2 rfl) ?_
        have e1_ := Option.some.inj hf
        exact endI hx hb hr hlk hK (by rw [hwE]; exact hP) (by rw [hwE]; exact hD) hS e1_ dX5_leftAtWorst_31
      · have hf := iq c4 hf
        refine lv_iload_n hx hb dX5_leftAtWorst_9 rfl (lv_at hl 2 rfl) ?_
        refine lv_iload_n hx hb dX5_leftAtWorst_10 rfl (lv_at hl 0 rfl) ?_
        refine lv_iload_n hx hb dX5_leftAtWorst_11 rfl (lv_at hl 1 rfl) ?_
        refine lv_iload_n hx hb dX5_leftAtWorst_12 rfl (lv_at hl 3 rfl) ?_
        obtain ⟨a5, hra5, hf⟩ := ob1_e hf
        refine callSi (As := [.int x1, .int y3]) (rest := [.int x0, .int y2]) (wn := []) ⟨hx, hb, hml, hown, hts⟩ (c_X5_sortsThatFell l D cI cC N _ x1 y3 a5 hra5) (va_cwS 2 hts gX5_leftAtWorst_X5_sortsThatFell rfl rfl rfl (by decide +kernel) ⟨Nat.le_of_ble_eq_true rfl, Nat.le_of_ble_eq_true rfl⟩) hK hP hD hS hA hG (Cut.mk [] [] [] [] rfl rfl rfl rfl (by decide) rfl rfl) rfl hl.1 rfl (Nat.le_of_ble_eq_true rfl) ⟨Nat.zero_le _, Nat.zero_le _⟩ dX5_leftAtWorst_13 (fun H locs hP hD hS => ?_)
        refine lv_iand hx hb dX5_leftAtWorst_16 ?_
        obtain ⟨a6, hra6, hf⟩ := ob1_e hf
        refine callSi (As := [.int (x0 &&& a5)]) (rest := [.int y2]) (wn := []) ⟨hx, hb, hml, hown, hts⟩ (c_J6_bitCount_0f7a4 l D cI cC N _ (x0 &&& a5) a6 hra6) (va_cwS 1 hts gX5_leftAtWorst_J6_bitCount_0f7a4 rfl rfl rfl (by decide +kernel) ⟨Nat.le_of_ble_eq_true rfl, Nat.le_of_ble_eq_true rfl⟩) hK hP hD hS hA hG (Cut.mk [] [] [] [] rfl rfl rfl rfl (by decide) rfl rfl) rfl hl.1 rfl (Nat.le_of_ble_eq_true rfl) ⟨Nat.zero_le _, Nat.zero_le _⟩ dX5_leftAtWorst_17 (fun H locs hP hD hS => ?_)
        refine va_mmax hx hb (hml.trans hl.1.symm) hown (hts (.methodLink RX5 44 Lib.Math.max.name) (by decide +kernel)) (hts (.static Lib.Math.max.name) (by decide +kernel)) (hts (.initialized "java/lang/Math") (by decide +kernel)) (hts (.code Lib.Math.max.name Lib.Math.max.code 2 (some .int)) (by decide +kernel)) (Nat.le_of_ble_eq_true rfl) (Nat.le_of_ble_eq_true rfl) (Nat.zero_le _) (Nat.zero_le _) dX5_leftAtWorst_20 ?_
        refine lv_istore_n (lv' := [(2, .int (if y2 < a6 then a6 else y2)), (0, .int x0), (1, .int x1), (3, .int y3)]) hx hb dX5_leftAtWorst_23 rfl hl (by decide) rfl (fun ls hl => ?_)
        refine lv_iinc (v := y3 + (1 : Int32)) (lv' := [(3, .int (y3 + (1 : Int32))), (2, .int (if y2 < a6 then a6 else y2)), (0, .int x0), (1, .int x1)]) hx hb dX5_leftAtWorst_24 hl (k := 3) rfl rfl (by decide) rfl (fun ls hl => ?_)
        refine lv_goto (tgt := 4) hx hb dX5_leftAtWorst_27 (by decide) ?_
        exact ih (if y2 < a6 then a6 else y2) (y3 + (1 : Int32)) _ _ _ hP hD hS (lv_sub hl [2, 3, 1, 0] rfl) hf
  exact hL1 N (0 : Int32) (0 : Int32) _ _ _ hP hD hS (lv_sub hl [2, 3, 1, 0] rfl) hf
-- X5_sortsOf
set_option maxRecDepth 20000 in
theorem in_X5_sortsOf_5 : ∀ w ∈ wsX50, w ∈ wsX5_sortsOf := by decide +kernel
set_option maxHeartbeats 4000000 in
set_option maxRecDepth 100000 in
theorem c_X5_sortsOf (l : Launch) (D : va_G) (cI cC : ClassId) (N sz : Nat) (q_t q_t_pins q_t_ways q_t_fell : Nat) (v_t_size : Int32) (r_t_pins : Nat → Int32) (r_t_ways : Nat → Int32) (r_t_fell : Nat → Int32) (x1 : Int32) (z0 : Int32) (hf : f_X5_sortsOf N v_t_size r_t_pins r_t_ways r_t_fell x1 = some (z0)) : Ct l yX5_sortsOf wsX5_sortsOf ⟨1, 0, 0, 23⟩ [.ref q_t, .int x1] D cI cC [(q_t, .inr (5, [.int v_t_size, .ref q_t_pins, .ref q_t_ways, .ref q_t_fell])), (q_t_pins, .inl (cI, 6, .inl r_t_pins)), (q_t_ways, .inl (cI, 6, .inl r_t_ways)), (q_t_fell, .inl (cI, 6, .inl r_t_fell))] sz (fun A => (QI D cI cC A [(q_t, .inr (5, [.int v_t_size, .ref q_t_pins, .ref q_t_ways, .ref q_t_fell])), (q_t_pins, .inl (cI, 6, .inl r_t_pins)), (q_t_ways, .inl (cI, 6, .inl r_t_ways)), (q_t_fell, .inl (cI, 6, .inl r_t_fell))] z0)) := by
  suffices h : ∀ wE : va_W, wE = [(q_t, .inr (5, [.int v_t_size, .ref q_t_pins, .ref q_t_ways, .ref q_t_fell])), (q_t_pins, .inl (cI, 6, .inl r_t_pins)), (q_t_ways, .inl (cI, 6, .inl r_t_ways)), (q_t_fell, .inl (cI, 6, .inl r_t_fell))] → Ct l yX5_sortsOf wsX5_sortsOf ⟨1, 0, 0, 23⟩ [.ref q_t, .int x1] D cI cC [(q_t, .inr (5, [.int v_t_size, .ref q_t_pins, .ref q_t_ways, .ref q_t_fell])), (q_t_pins, .inl (cI, 6, .inl r_t_pins)), (q_t_ways, .inl (cI, 6, .inl r_t_ways)), (q_t_fell, .inl (cI, 6, .inl r_t_fell))] sz (fun A => (QI D cI cC A wE z0)) from h _ rfl
  intro wE hwE
  rw [f_X5_sortsOf] at hf
  refine Ct.beg cX5_sortsOf 4 (some .int) [(0, .ref q_t), (1, .int x1)] RX5 (by decide) rfl rfl (Nat.le_of_ble_eq_true rfl) rfl (fun p e s m below meth c A hx hb hr hts hown hlk hml hnm hK hP hD hS hA hG ls hl => ?_)
  refine lv_bipush (v := (31 : Int32)) hx hb dX5_sortsOf_0 (by decide) ?_
  refine lv_istore_n (lv' := [(2, .int (31 : Int32)), (0, .ref q_t), (1, .int x1)]) hx hb dX5_sortsOf_2 rfl hl (by decide) rfl (fun ls hl => ?_)
  refine lv_iconst (v := (0 : Int32)) hx hb dX5_sortsOf_3 (by decide) ?_
  refine lv_istore_n (lv' := [(3, .int (0 : Int32)), (2, .int (31 : Int32)), (0, .ref q_t), (1, .int x1)]) hx hb dX5_sortsOf_4 rfl hl (by decide) rfl (fun ls hl => ?_)
  have hL1 : ∀ (n : Nat) (y2 : Int32) (y3 : Int32) (H : Heap) (locs : List Loc) (ls : Array Slot), va_P D vwCl [(q_t, .inr (5, [.int v_t_size, .ref q_t_pins, .ref q_t_ways, .ref q_t_fell])), (q_t_pins, .inl (cI, 6, .inl r_t_pins)), (q_t_ways, .inl (cI, 6, .inl r_t_ways)), (q_t_fell, .inl (cI, 6, .inl r_t_fell))] H → va_D A [(q_t, .inr (5, [.int v_t_size, .ref q_t_pins, .ref q_t_ways, .ref q_t_fell])), (q_t_pins, .inl (cI, 6, .inl r_t_pins)), (q_t_ways, .inl (cI, 6, .inl r_t_ways)), (q_t_fell, .inl (cI, 6, .inl r_t_fell))] → va_S A s.heap H locs → lv_has ls 4 [(0, .ref q_t), (1, .int x1), (2, .int y2), (3, .int y3)] → f_X5_sortsOf_L5 N x1 v_t_size r_t_pins r_t_ways r_t_fell n y2 y3 = some (z0) → W p l e ⟨1, 0, 0, 23⟩ s m ([.ref q_t, .int x1] : List Value).toArray below meth c H locs 0 0 (MQ below (QI D cI cC A wE z0) ([.ref q_t, .int x1] : List Value).toArray s 0 0 A) (F0 m 5 ls []) := by
    intro n
    induction n with
    | zero => intro y2 y3 H locs ls hP hD hS hl hf; rw [f_X5_sortsOf_L5] at hf; cases hf
    | succ n ih =>
      intro y2 y3 H locs ls hP hD hS hl hf
      rw [f_X5_sortsOf_L5] at hf
      refine lv_iload_n hx hb dX5_sortsOf_5 rfl (lv_at hl 3 rfl) ?_
      refine lv_aload_n hx hb dX5_sortsOf_6 rfl (lv_at hl 0 rfl) ?_
      refine va_get (D := D) (ci := 5) (v := .int v_t_size) (C := RX5) (T := TX5) (N := 4) hx hb hts in_X5_sortsOf_5 hown hK hP 0 rfl rfl 0 (by decide) (hts (.fieldLink RX5 21 "PinLanes$Seen" "size" "I") (by decide +kernel)) (fun _ h9 => h9) rfl dX5_sortsOf_7 ?_
      refine lv_icmp_ge (tgt := 53) hx hb dX5_sortsOf_10 (by decide) (fun c4 => ?_) (fun c4 => ?_)
      · have hf := ip c4 hf
        refine lv_iload_n hx hb dX5_sortsOf_53 rfl (lv_at hl 2 rfl) ?_
        have e1_ := Option.some.inj hf
        exact endI hx hb hr hlk hK (by rw [hwE]; exact hP) (by rw [hwE]; exact hD) hS e1_ dX5_sortsOf_54
      · have hf := iq c4 hf
        refine lv_iload_n hx hb dX5_sortsOf_13 rfl (lv_at hl 3 rfl) ?_
        refine lv_bipush (v := (6 : Int32)) hx hb dX5_sortsOf_14 (by decide) ?_
        refine lv_icmp_ge (tgt := 53) hx hb dX5_sortsOf_16 (by decide) (fun c5 => ?_) (fun c5 => ?_)
        · have hf := ip c5 hf
          refine lv_iload_n hx hb dX5_sortsOf_53 rfl (lv_at hl 2 rfl) ?_
          have e1_ := Option.some.inj hf
          exact endI hx hb hr hlk hK (by rw [hwE]; exact hP) (by rw [hwE]; exact hD) hS e1_ dX5_sortsOf_54
        · have hf := iq c5 hf
          refine lv_aload_n hx hb dX5_sortsOf_19 rfl (lv_at hl 0 rfl) ?_
          refine va_get (D := D) (ci := 5) (v := .ref q_t_pins) (C := RX5) (T := TX5) (N := 4) hx hb hts in_X5_sortsOf_5 hown hK hP 0 rfl rfl 1 (by decide) (hts (.fieldLink RX5 9 "PinLanes$Seen" "pins" "[I") (by decide +kernel)) (fun _ h9 => h9) rfl dX5_sortsOf_20 ?_
          refine lv_iload_n hx hb dX5_sortsOf_23 rfl (lv_at hl 3 rfl) ?_
          obtain ⟨b6, hf⟩ := gd_e hf
          refine va_iald hx hb hK hP 1 0 rfl rfl (inb_in b6) dX5_sortsOf_24 ?_
          refine lv_iload_n hx hb dX5_sortsOf_25 rfl (lv_at hl 1 rfl) ?_
          obtain ⟨j8, ej8, hf⟩ := jm_e hf
          have hj8 : ∀ (y7 : Int32) (H : Heap) (locs : List Loc) (ls : Array Slot), va_P D vwCl [(q_t, .inr (5, [.int v_t_size, .ref q_t_pins, .ref q_t_ways, .ref q_t_fell])), (q_t_pins, .inl (cI, 6, .inl r_t_pins)), (q_t_ways, .inl (cI, 6, .inl r_t_ways)), (q_t_fell, .inl (cI, 6, .inl r_t_fell))] H → va_D A [(q_t, .inr (5, [.int v_t_size, .ref q_t_pins, .ref q_t_ways, .ref q_t_fell])), (q_t_pins, .inl (cI, 6, .inl r_t_pins)), (q_t_ways, .inl (cI, 6, .inl r_t_ways)), (q_t_fell, .inl (cI, 6, .inl r_t_fell))] → va_S A s.heap H locs → lv_has ls 4 [(0, .ref q_t), (1, .int x1), (2, .int y7), (3, .int y3)] → j8 y7 = some (z0) → W p l e ⟨1, 0, 0, 23⟩ s m ([.ref q_t, .int x1] : List Value).toArray below meth c H locs 0 0 (MQ below (QI D cI cC A wE z0) ([.ref q_t, .int x1] : List Value).toArray s 0 0 A) (F0 m 47 ls []) := by
            intro y7 H locs ls hP hD hS hl hf
            rw [ej8] at hf
            refine lv_iinc (v := y3 + (1 : Int32)) (lv' := [(3, .int (y3 + (1 : Int32))), (0, .ref q_t), (1, .int x1), (2, .int y7)]) hx hb dX5_sortsOf_47 hl (k := 3) rfl rfl (by decide) rfl (fun ls hl => ?_)
            refine lv_goto (tgt := 5) hx hb dX5_sortsOf_50 (by decide) ?_
            exact ih y7 (y3 + (1 : Int32)) _ _ _ hP hD hS (lv_sub hl [1, 2, 3, 0] rfl) hf
          refine lv_icmp_ne (tgt := 47) hx hb dX5_sortsOf_26 (by decide) (fun c9 => ?_) (fun c9 => ?_)
          · have hf := iq c9 hf
            exact hj8 y2 _ _ _ hP hD hS (lv_sub hl [0, 1, 2, 3] rfl) hf
          · have hf := ip c9 hf
            refine lv_iload_n hx hb dX5_sortsOf_29 rfl (lv_at hl 2 rfl) ?_
            refine lv_aload_n hx hb dX5_sortsOf_30 rfl (lv_at hl 0 rfl) ?_
            refine va_get (D := D) (ci := 5) (v := .ref q_t_ways) (C := RX5) (T := TX5) (N := 4) hx hb hts in_X5_sortsOf_5 hown hK hP 0 rfl rfl 2 (by decide) (hts (.fieldLink RX5 15 "PinLanes$Seen" "ways" "[I") (by decide +kernel)) (fun _ h9 => h9) rfl dX5_sortsOf_31 ?_
            refine lv_iload_n hx hb dX5_sortsOf_34 rfl (lv_at hl 3 rfl) ?_
            obtain ⟨b10, hf⟩ := gd_e hf
            refine va_iald hx hb hK hP 2 0 rfl rfl (inb_in b10) dX5_sortsOf_35 ?_
            refine lv_aload_n hx hb dX5_sortsOf_36 rfl (lv_at hl 0 rfl) ?_
            refine va_get (D := D) (ci := 5) (v := .ref q_t_fell) (C := RX5) (T := TX5) (N := 4) hx hb hts in_X5_sortsOf_5 hown hK hP 0 rfl rfl 3 (by decide) (hts (.fieldLink RX5 18 "PinLanes$Seen" "fell" "[I") (by decide +kernel)) (fun _ h9 => h9) rfl dX5_sortsOf_37 ?_
            refine lv_iload_n hx hb dX5_sortsOf_40 rfl (lv_at hl 3 rfl) ?_
            obtain ⟨b11, hf⟩ := gd_e hf
            refine va_iald hx hb hK hP 3 0 rfl rfl (inb_in b11) dX5_sortsOf_41 ?_
            obtain ⟨a12, hra12, hf⟩ := ob1_e hf
            refine callSi (As := [.int (r_t_ways y3.toNatClampNeg), .int (r_t_fell y3.toNatClampNeg)]) (rest := [.int y2]) (wn := [(q_t, .inr (5, [.int v_t_size, .ref q_t_pins, .ref q_t_ways, .ref q_t_fell])), (q_t_pins, .inl (cI, 6, .inl r_t_pins)), (q_t_ways, .inl (cI, 6, .inl r_t_ways)), (q_t_fell, .inl (cI, 6, .inl r_t_fell))]) ⟨hx, hb, hml, hown, hts⟩ (c_X5_sortsThatFell l D cI cC N _ (r_t_ways y3.toNatClampNeg) (r_t_fell y3.toNatClampNeg) a12 hra12) (va_cwS 2 hts gX5_sortsOf_X5_sortsThatFell rfl rfl rfl (by decide +kernel) ⟨Nat.le_of_ble_eq_true rfl, Nat.le_of_ble_eq_true rfl⟩) hK hP hD hS hA hG (Cut.mk [] [0, 1, 2, 3] [0, 1, 2, 3] [(q_t, .inr (5, [.int v_t_size, .ref q_t_pins, .ref q_t_ways, .ref q_t_fell])), (q_t_pins, .inl (cI, 6, .inl r_t_pins)), (q_t_ways, .inl (cI, 6, .inl r_t_ways)), (q_t_fell, .inl (cI, 6, .inl r_t_fell))] rfl rfl rfl rfl (by decide) rfl rfl) rfl hl.1 rfl (Nat.le_of_ble_eq_true rfl) ⟨Nat.zero_le _, Nat.zero_le _⟩ dX5_sortsOf_42 (fun H locs hP hD hS => ?_)
            refine lv_iand hx hb dX5_sortsOf_45 ?_
            refine lv_istore_n (lv' := [(2, .int (y2 &&& a12)), (0, .ref q_t), (1, .int x1), (3, .int y3)]) hx hb dX5_sortsOf_46 rfl hl (by decide) rfl (fun ls hl => ?_)
            exact hj8 (y2 &&& a12) _ _ _ hP hD hS (lv_sub hl [1, 2, 0, 3] rfl) hf
  exact hL1 N (31 : Int32) (0 : Int32) _ _ _ hP hD hS (lv_sub hl [2, 3, 1, 0] rfl) hf
