def f_X1_calledGood (ar : Nat → Nat → Int32) (v1 : Int32) (v2 : Int32) (v3 : Int32) : Option (Int64) := bindv ((4 * (v2 &&& 1)) : Int32) (fun x_1 => bindv (f_X8_bit v1 (x_1 >>> ((1 : Int32) &&& 31))) (fun r_2 => gd (x_1 + r_2) 8 (bindv (f_X8_bit v1 ((x_1 >>> ((1 : Int32) &&& 31)) + 1)) (fun r_5 => gd ((x_1 + 2) + r_5) 8 (some (((Int32.toInt64 (1000 - v3)) * (Int32.toInt64 (ar 6 (Int32.toNatClampNeg (x_1 + r_2))))) + ((Int32.toInt64 v3) * (Int32.toInt64 (ar 6 (Int32.toNatClampNeg ((x_1 + 2) + r_5)))))))))))
set_option maxHeartbeats 4000000 in
set_option maxRecDepth 100000 in
theorem c_X1_calledGood (l : Launch) (D : va_G) (ca : Nat → ClassId) (ak av ad : Nat → Nat) (fi : Nat → Int32) (fl : Nat → Int64) (ar : Nat → Nat → Int32) (v1 : Int32) (v2 : Int32) (v3 : Int32) {r0 : Int64} (hf : f_X1_calledGood ar v1 v2 v3 = some r0) : MtL l yX1_calledGood cX1_calledGood 5 { frames := 1, cells := 0, slots := 0, locals := 21 } (EC D ca ak av) [.ref (ad 5), .int v1, .int v2, .int v3] (wC ad ca fi fl ar) (wC ad ca fi fl ar) r0 := by
  refine MtL.of (own := RX1) (by decide +kernel) rfl (Nat.le_of_ble_eq_true rfl) ?_
  intro p e s m args below meth c A B hr hk w ls hl
  have hx := B.1.1
  have hb := B.1.2.1
  have hown := B.1.2.2.2.1
  have hts := B.1.2.2.2.2
  have hl : lv_has ls 5 [(0, .ref (ad 5)), (1, .int v1), (2, .int v2), (3, .int v3)] := hl
  unfold f_X1_calledGood at hf
  refine (show ∀ (H : Heap) (locs : List Loc), Wd (EC D ca ak av) A s (wC ad ca fi fl ar) H locs → W p l e ({ frames := 1, cells := 0, slots := 0, locals := 21 } : Room) s m args below meth c H locs 0 0 (MQ below (Ql (EC D ca ak av) A (wC ad ca fi fl ar) r0) args s 0 0 A) (F0 m 0 ls []) from ?_) s.heap [] w
  intro H locs w
  refine lv_iconst (v := 4) hx hb dX1_calledGood_0 (by decide) ?_
  refine lv_iload_n hx hb dX1_calledGood_1 rfl (lv_at hl 2 rfl) ?_
  refine lv_iconst (v := 1) hx hb dX1_calledGood_2 (by decide) ?_
  refine lv_iand (x := v2) (y := 1) hx hb dX1_calledGood_3 ?_
  refine lv_imul (x := 4) (y := (v2 &&& 1)) hx hb dX1_calledGood_4 ?_
  refine lv_topi (fun x_1 ex_1 => ?_)
  have hf := bindv_eq hf x_1 ex_1
  refine lv_istore (lv' := [(4, .int x_1), (0, .ref (ad 5)), (1, .int v1), (2, .int v2), (3, .int v3)]) hx hb dX1_calledGood_5 hl (by decide) rfl (fun ls hl => ?_)
  refine lv_sipush (v := 1000) hx hb dX1_calledGood_7 (by decide) ?_
  refine lv_iload_n hx hb dX1_calledGood_10 rfl (lv_at hl 4 rfl) ?_
  refine lv_isub (x := 1000) (y := v3) hx hb dX1_calledGood_11 ?_
  refine lv_i2l hx hb dX1_calledGood_12 rfl ?_
  refine lv_aload_n hx hb dX1_calledGood_13 rfl (lv_at hl 1 rfl) ?_
  refine gfC_5_0 B w kt1_125 dX1_calledGood_14 ?_
  refine lv_iload hx hb dX1_calledGood_17 (lv_at hl 0 rfl) ?_
  refine lv_iload_n hx hb dX1_calledGood_19 rfl (lv_at hl 2 rfl) ?_
  refine lv_iload hx hb dX1_calledGood_20 (lv_at hl 0 rfl) ?_
  refine lv_iconst (v := 1) hx hb dX1_calledGood_22 (by decide) ?_
  refine lv_ishr (x := x_1) (y := 1) hx hb dX1_calledGood_23 ?_
  obtain ⟨r_2, er_3⟩ : ∃ y, f_X8_bit v1 (x_1 >>> ((1 : Int32) &&& 31)) = y := ⟨_, rfl⟩
  have hf := bindv_eq hf r_2 er_3.symm
  refine callNI (As := [.int v1, .int (x_1 >>> ((1 : Int32) &&& 31))]) (rest := [.int x_1, .ref (ad 6), .long (Int32.toInt64 (1000 - v3))]) B w (c_X8_bit l _ v1 (x_1 >>> ((1 : Int32) &&& 31)) er_3) (gN kt2_166) (by decide) kt1_1 kt2_165 hdS_X8_bit rfl rfl ⟨Nat.le_of_ble_eq_true rfl, Nat.le_of_ble_eq_true rfl⟩ rfl hl.1 rfl (Nat.le_of_ble_eq_true rfl) dX1_calledGood_24 ⟨Nat.le_of_ble_eq_true rfl, Nat.le_of_ble_eq_true rfl⟩ (fun H locs w => ?_)
  refine lv_iadd (x := x_1) (y := r_2) hx hb dX1_calledGood_27 ?_
  obtain ⟨hi_4, hf⟩ := gd_eq hf
  refine alC_6 B w hi_4 dX1_calledGood_28 ?_
  refine lv_i2l hx hb dX1_calledGood_29 rfl ?_
  refine lv_lmul (x := (Int32.toInt64 (1000 - v3))) (y := (Int32.toInt64 (ar 6 (Int32.toNatClampNeg (x_1 + r_2))))) hx hb dX1_calledGood_30 ?_
  refine lv_iload_n hx hb dX1_calledGood_31 rfl (lv_at hl 4 rfl) ?_
  refine lv_i2l hx hb dX1_calledGood_32 rfl ?_
  refine lv_aload_n hx hb dX1_calledGood_33 rfl (lv_at hl 1 rfl) ?_
  refine gfC_5_0 B w kt1_125 dX1_calledGood_34 ?_
  refine lv_iload hx hb dX1_calledGood_37 (lv_at hl 0 rfl) ?_
  refine lv_iconst (v := 2) hx hb dX1_calledGood_39 (by decide) ?_
  refine lv_iadd (x := x_1) (y := 2) hx hb dX1_calledGood_40 ?_
  refine lv_iload_n hx hb dX1_calledGood_41 rfl (lv_at hl 2 rfl) ?_
  refine lv_iload hx hb dX1_calledGood_42 (lv_at hl 0 rfl) ?_
  refine lv_iconst (v := 1) hx hb dX1_calledGood_44 (by decide) ?_
  refine lv_ishr (x := x_1) (y := 1) hx hb dX1_calledGood_45 ?_
  refine lv_iconst (v := 1) hx hb dX1_calledGood_46 (by decide) ?_
  refine lv_iadd (x := (x_1 >>> ((1 : Int32) &&& 31))) (y := 1) hx hb dX1_calledGood_47 ?_
  obtain ⟨r_5, er_6⟩ : ∃ y, f_X8_bit v1 ((x_1 >>> ((1 : Int32) &&& 31)) + 1) = y := ⟨_, rfl⟩
  have hf := bindv_eq hf r_5 er_6.symm
  refine callNI (As := [.int v1, .int ((x_1 >>> ((1 : Int32) &&& 31)) + 1)]) (rest := [.int (x_1 + 2), .ref (ad 6), .long (Int32.toInt64 v3), .long ((Int32.toInt64 (1000 - v3)) * (Int32.toInt64 (ar 6 (Int32.toNatClampNeg (x_1 + r_2)))))]) B w (c_X8_bit l _ v1 ((x_1 >>> ((1 : Int32) &&& 31)) + 1) er_6) (gN kt2_166) (by decide) kt1_1 kt2_165 hdS_X8_bit rfl rfl ⟨Nat.le_of_ble_eq_true rfl, Nat.le_of_ble_eq_true rfl⟩ rfl hl.1 rfl (Nat.le_of_ble_eq_true rfl) dX1_calledGood_48 ⟨Nat.le_of_ble_eq_true rfl, Nat.le_of_ble_eq_true rfl⟩ (fun H locs w => ?_)
  refine lv_iadd (x := (x_1 + 2)) (y := r_5) hx hb dX1_calledGood_51 ?_
  obtain ⟨hi_7, hf⟩ := gd_eq hf
  refine alC_6 B w hi_7 dX1_calledGood_52 ?_
  refine lv_i2l hx hb dX1_calledGood_53 rfl ?_
  refine lv_lmul (x := (Int32.toInt64 v3)) (y := (Int32.toInt64 (ar 6 (Int32.toNatClampNeg ((x_1 + 2) + r_5))))) hx hb dX1_calledGood_54 ?_
  refine lv_ladd (x := ((Int32.toInt64 (1000 - v3)) * (Int32.toInt64 (ar 6 (Int32.toNatClampNeg (x_1 + r_2)))))) (y := ((Int32.toInt64 v3) * (Int32.toInt64 (ar 6 (Int32.toNatClampNeg ((x_1 + 2) + r_5)))))) hx hb dX1_calledGood_55 ?_
  have hf : some (((Int32.toInt64 (1000 - v3)) * (Int32.toInt64 (ar 6 (Int32.toNatClampNeg (x_1 + r_2))))) + ((Int32.toInt64 v3) * (Int32.toInt64 (ar 6 (Int32.toNatClampNeg ((x_1 + 2) + r_5)))))) = some r0 := hf
  have q0 := so1 hf
  subst q0
  exact retL B hr hk w dX1_calledGood_56
def f_X0_worthBeing (fi : Nat → Int32) (v0 : Int32) (v2 : Int32) (v3 : Int32) : Int64 := bindv ((1000 - v3) : Int32) (fun x_1 => bindv (f_X8_bit (fi 22) v0) (fun r_2 => bindv (f_X8_bit (fi 22) (2 + v0)) (fun r_4 => bindv (((r_2 * x_1) + (r_4 * v3)) : Int32) (fun x_6 => bindv (f_X8_bit v2 (2 * v0)) (fun r_7 => bindv (f_X8_bit v2 ((2 * v0) + 1)) (fun r_9 => bindv (((r_7 * x_1) + (r_9 * v3)) : Int32) (fun x_11 => (((Int32.toInt64 (fi 24)) * (Int32.toInt64 x_6)) - ((Int32.toInt64 (fi 23)) * (Int32.toInt64 x_11))))))))))
set_option maxHeartbeats 4000000 in
set_option maxRecDepth 100000 in
theorem c_X0_worthBeing (l : Launch) (D : va_G) (ca : Nat → ClassId) (ak av ad : Nat → Nat) (fi : Nat → Int32) (fl : Nat → Int64) (ar : Nat → Nat → Int32) (v0 : Int32) (v2 : Int32) (v3 : Int32) {r0 : Int64} (hf : f_X0_worthBeing fi v0 v2 v3 = r0) : MtL l yX0_worthBeing cX0_worthBeing 7 { frames := 1, cells := 0, slots := 0, locals := 21 } (EC D ca ak av) [.int v0, .ref (ad 5), .int v2, .int v3] (wC ad ca fi fl ar) (wC ad ca fi fl ar) r0 := by
  refine MtL.of (own := RX0) (by decide +kernel) rfl (Nat.le_of_ble_eq_true rfl) ?_
  intro p e s m args below meth c A B hr hk w ls hl
  have hx := B.1.1
  have hb := B.1.2.1
  have hown := B.1.2.2.2.1
  have hts := B.1.2.2.2.2
  have hl : lv_has ls 7 [(0, .int v0), (1, .ref (ad 5)), (2, .int v2), (3, .int v3)] := hl
  unfold f_X0_worthBeing at hf
  refine (show ∀ (H : Heap) (locs : List Loc), Wd (EC D ca ak av) A s (wC ad ca fi fl ar) H locs → W p l e ({ frames := 1, cells := 0, slots := 0, locals := 21 } : Room) s m args below meth c H locs 0 0 (MQ below (Ql (EC D ca ak av) A (wC ad ca fi fl ar) r0) args s 0 0 A) (F0 m 0 ls []) from ?_) s.heap [] w
  intro H locs w
  refine lv_sipush (v := 1000) hx hb dX0_worthBeing_0 (by decide) ?_
  refine lv_iload_n hx hb dX0_worthBeing_3 rfl (lv_at hl 3 rfl) ?_
  refine lv_isub (x := 1000) (y := v3) hx hb dX0_worthBeing_4 ?_
  refine lv_topi (fun x_1 ex_1 => ?_)
  have hf := bindv_eq hf x_1 ex_1
  refine lv_istore (lv' := [(4, .int x_1), (0, .int v0), (1, .ref (ad 5)), (2, .int v2), (3, .int v3)]) hx hb dX0_worthBeing_5 hl (by decide) rfl (fun ls hl => ?_)
  refine lv_aload_n hx hb dX0_worthBeing_7 rfl (lv_at hl 2 rfl) ?_
  refine gfC_5_2 B w kt1_129 dX0_worthBeing_8 ?_
  refine lv_iload_n hx hb dX0_worthBeing_11 rfl (lv_at hl 1 rfl) ?_
  obtain ⟨r_2, er_3⟩ : ∃ y, f_X8_bit (fi 22) v0 = y := ⟨_, rfl⟩
  have hf := bindv_eq hf r_2 er_3.symm
  refine callNI (As := [.int (fi 22), .int v0]) (rest := []) B w (c_X8_bit l _ (fi 22) v0 er_3) (gN kt2_166) (by decide) kt1_1 kt2_165 hdS_X8_bit rfl rfl ⟨Nat.le_of_ble_eq_true rfl, Nat.le_of_ble_eq_true rfl⟩ rfl hl.1 rfl (Nat.le_of_ble_eq_true rfl) dX0_worthBeing_12 ⟨Nat.le_of_ble_eq_true rfl, Nat.le_of_ble_eq_true rfl⟩ (fun H locs w => ?_)
  refine lv_iload hx hb dX0_worthBeing_15 (lv_at hl 0 rfl) ?_
  refine lv_imul (x := r_2) (y := x_1) hx hb dX0_worthBeing_17 ?_
  refine lv_aload_n hx hb dX0_worthBeing_18 rfl (lv_at hl 2 rfl) ?_
  refine gfC_5_2 B w kt1_129 dX0_worthBeing_19 ?_
  refine lv_iconst (v := 2) hx hb dX0_worthBeing_22 (by decide) ?_
  refine lv_iload_n hx hb dX0_worthBeing_23 rfl (lv_at hl 1 rfl) ?_
  refine lv_iadd (x := 2) (y := v0) hx hb dX0_worthBeing_24 ?_
  obtain ⟨r_4, er_5⟩ : ∃ y, f_X8_bit (fi 22) (2 + v0) = y := ⟨_, rfl⟩
  have hf := bindv_eq hf r_4 er_5.symm
  refine callNI (As := [.int (fi 22), .int (2 + v0)]) (rest := [.int (r_2 * x_1)]) B w (c_X8_bit l _ (fi 22) (2 + v0) er_5) (gN kt2_166) (by decide) kt1_1 kt2_165 hdS_X8_bit rfl rfl ⟨Nat.le_of_ble_eq_true rfl, Nat.le_of_ble_eq_true rfl⟩ rfl hl.1 rfl (Nat.le_of_ble_eq_true rfl) dX0_worthBeing_25 ⟨Nat.le_of_ble_eq_true rfl, Nat.le_of_ble_eq_true rfl⟩ (fun H locs w => ?_)
  refine lv_iload_n hx hb dX0_worthBeing_28 rfl (lv_at hl 4 rfl) ?_
  refine lv_imul (x := r_4) (y := v3) hx hb dX0_worthBeing_29 ?_
  refine lv_iadd (x := (r_2 * x_1)) (y := (r_4 * v3)) hx hb dX0_worthBeing_30 ?_
  refine lv_topi (fun x_6 ex_6 => ?_)
  have hf := bindv_eq hf x_6 ex_6
  refine lv_istore (lv' := [(5, .int x_6), (4, .int x_1), (0, .int v0), (1, .ref (ad 5)), (2, .int v2), (3, .int v3)]) hx hb dX0_worthBeing_31 hl (by decide) rfl (fun ls hl => ?_)
  refine lv_iload_n hx hb dX0_worthBeing_33 rfl (lv_at hl 4 rfl) ?_
  refine lv_iconst (v := 2) hx hb dX0_worthBeing_34 (by decide) ?_
  refine lv_iload_n hx hb dX0_worthBeing_35 rfl (lv_at hl 2 rfl) ?_
  refine lv_imul (x := 2) (y := v0) hx hb dX0_worthBeing_36 ?_
  obtain ⟨r_7, er_8⟩ : ∃ y, f_X8_bit v2 (2 * v0) = y := ⟨_, rfl⟩
  have hf := bindv_eq hf r_7 er_8.symm
  refine callNI (As := [.int v2, .int (2 * v0)]) (rest := []) B w (c_X8_bit l _ v2 (2 * v0) er_8) (gN kt2_166) (by decide) kt1_1 kt2_165 hdS_X8_bit rfl rfl ⟨Nat.le_of_ble_eq_true rfl, Nat.le_of_ble_eq_true rfl⟩ rfl hl.1 rfl (Nat.le_of_ble_eq_true rfl) dX0_worthBeing_37 ⟨Nat.le_of_ble_eq_true rfl, Nat.le_of_ble_eq_true rfl⟩ (fun H locs w => ?_)
  refine lv_iload hx hb dX0_worthBeing_40 (lv_at hl 1 rfl) ?_
  refine lv_imul (x := r_7) (y := x_1) hx hb dX0_worthBeing_42 ?_
  refine lv_iload_n hx hb dX0_worthBeing_43 rfl (lv_at hl 4 rfl) ?_
  refine lv_iconst (v := 2) hx hb dX0_worthBeing_44 (by decide) ?_
  refine lv_iload_n hx hb dX0_worthBeing_45 rfl (lv_at hl 2 rfl) ?_
  refine lv_imul (x := 2) (y := v0) hx hb dX0_worthBeing_46 ?_
  refine lv_iconst (v := 1) hx hb dX0_worthBeing_47 (by decide) ?_
  refine lv_iadd (x := (2 * v0)) (y := 1) hx hb dX0_worthBeing_48 ?_
  obtain ⟨r_9, er_10⟩ : ∃ y, f_X8_bit v2 ((2 * v0) + 1) = y := ⟨_, rfl⟩
  have hf := bindv_eq hf r_9 er_10.symm
  refine callNI (As := [.int v2, .int ((2 * v0) + 1)]) (rest := [.int (r_7 * x_1)]) B w (c_X8_bit l _ v2 ((2 * v0) + 1) er_10) (gN kt2_166) (by decide) kt1_1 kt2_165 hdS_X8_bit rfl rfl ⟨Nat.le_of_ble_eq_true rfl, Nat.le_of_ble_eq_true rfl⟩ rfl hl.1 rfl (Nat.le_of_ble_eq_true rfl) dX0_worthBeing_49 ⟨Nat.le_of_ble_eq_true rfl, Nat.le_of_ble_eq_true rfl⟩ (fun H locs w => ?_)
  refine lv_iload_n hx hb dX0_worthBeing_52 rfl (lv_at hl 5 rfl) ?_
  refine lv_imul (x := r_9) (y := v3) hx hb dX0_worthBeing_53 ?_
  refine lv_iadd (x := (r_7 * x_1)) (y := (r_9 * v3)) hx hb dX0_worthBeing_54 ?_
  refine lv_topi (fun x_11 ex_11 => ?_)
  have hf := bindv_eq hf x_11 ex_11
  refine lv_istore (lv' := [(6, .int x_11), (5, .int x_6), (4, .int x_1), (0, .int v0), (1, .ref (ad 5)), (2, .int v2), (3, .int v3)]) hx hb dX0_worthBeing_55 hl (by decide) rfl (fun ls hl => ?_)
  refine lv_aload_n hx hb dX0_worthBeing_57 rfl (lv_at hl 4 rfl) ?_
  refine gfC_5_4 B w kt1_133 dX0_worthBeing_58 ?_
  refine lv_i2l hx hb dX0_worthBeing_61 rfl ?_
  refine lv_iload hx hb dX0_worthBeing_62 (lv_at hl 1 rfl) ?_
  refine lv_i2l hx hb dX0_worthBeing_64 rfl ?_
  refine lv_lmul (x := (Int32.toInt64 (fi 24))) (y := (Int32.toInt64 x_6)) hx hb dX0_worthBeing_65 ?_
  refine lv_aload_n hx hb dX0_worthBeing_66 rfl (lv_at hl 4 rfl) ?_
  refine gfC_5_3 B w kt1_131 dX0_worthBeing_67 ?_
  refine lv_i2l hx hb dX0_worthBeing_70 rfl ?_
  refine lv_iload hx hb dX0_worthBeing_71 (lv_at hl 0 rfl) ?_
  refine lv_i2l hx hb dX0_worthBeing_73 rfl ?_
  refine lv_lmul (x := (Int32.toInt64 (fi 23))) (y := (Int32.toInt64 x_11)) hx hb dX0_worthBeing_74 ?_
  refine lv_lsub (x := ((Int32.toInt64 (fi 24)) * (Int32.toInt64 x_6))) (y := ((Int32.toInt64 (fi 23)) * (Int32.toInt64 x_11))) hx hb dX0_worthBeing_75 ?_
  have hf : (((Int32.toInt64 (fi 24)) * (Int32.toInt64 x_6)) - ((Int32.toInt64 (fi 23)) * (Int32.toInt64 x_11))) = r0 := hf
  subst hf
  exact retL B hr hk w dX0_worthBeing_76
def f_X0_live_56 (fi : Nat → Int32) (ar : Nat → Nat → Int32)  (v2 : Int32) (v3 : Int32) (fl : Nat → Int64) : Option ((Nat → Int64)) := bindv (f_X0_worthBeing fi 1 v2 v3) (fun r_1 => bindv (f_X0_worthBeing fi 0 v2 v3) (fun r_3 => bindv (vp_updL fl 4 (((fl 0) * r_1) + (((fl 1) - (fl 0)) * r_3))) (fun fl_5 => bind1 (f_J9_floorDiv_f86c9 (fl_5 4) (fl_5 1)) (fun r_6 => bindv (vp_updL fl_5 2 r_6) (fun fl_8 => bindv (vp_updL fl_8 3 ((fl_8 4) - ((fl_8 2) * (fl_8 1)))) (fun fl_9 => some fl_9))))))
def f_X0_live (fi : Nat → Int32) (fl : Nat → Int64) (ar : Nat → Nat → Int32) (v2 : Int32) (v3 : Int32) : Option ((Nat → Int64)) := bind1 (f_X1_calledGood ar v2 1 v3) (fun r_10 => bind1 (f_X1_calledGood ar v2 0 v3) (fun r_12 => bindv (vp_updL fl 0 r_12) (fun fl_14 => bindv (vp_updL fl_14 1 ((10000000 - r_10) + r_12)) (fun fl_15 => if (0 < (lg_cmp (fl_15 1) 0) : Prop) then (f_X0_live_56 fi ar v2 v3 fl_15) else (bindv (vp_updL fl_15 0 0) (fun fl_17 => bindv (vp_updL fl_17 1 1) (fun fl_18 => f_X0_live_56 fi ar v2 v3 fl_18)))))))
set_option maxHeartbeats 4000000 in
set_option maxRecDepth 100000 in
theorem c_X0_live (l : Launch) (D : va_G) (ca : Nat → ClassId) (ak av ad : Nat → Nat) (fi : Nat → Int32) (fl : Nat → Int64) (ar : Nat → Nat → Int32) (v2 : Int32) (v3 : Int32) {fl0 : Nat → Int64} (hf : f_X0_live fi fl ar v2 v3 = some fl0) : MtV l yX0_live cX0_live 8 { frames := 2, cells := 0, slots := 0, locals := 47 } (EC D ca ak av) [.ref (ad 11), .ref (ad 5), .int v2, .int v3] (wC ad ca fi fl ar) (wC ad ca fi fl0 ar) := by
  refine MtV.of (own := RX0) (by decide +kernel) rfl (Nat.le_of_ble_eq_true rfl) ?_
  intro p e s m args below meth c A B hr hk w ls hl
  have hx := B.1.1
  have hb := B.1.2.1
  have hown := B.1.2.2.2.1
  have hts := B.1.2.2.2.2
  have hl : lv_has ls 8 [(0, .ref (ad 11)), (1, .ref (ad 5)), (2, .int v2), (3, .int v3)] := hl
  have J56 : ∀ (v2 : Int32) (v3 : Int32) (fl : Nat → Int64) (H : Heap) (locs : List Loc) (ls : Array Slot), Wd (EC D ca ak av) A s (wC ad ca fi fl ar) H locs → lv_has ls 8 [(0, .ref (ad 11)), (1, .ref (ad 5)), (2, .int v2), (3, .int v3)] → f_X0_live_56 fi ar v2 v3 fl = some fl0 → W p l e ({ frames := 2, cells := 0, slots := 0, locals := 47 } : Room) s m args below meth c H locs 0 0 (MQ below (Qv (EC D ca ak av) A (wC ad ca fi fl0 ar)) args s 0 0 A) (F0 m 56 ls []) := by
    intro  v2 v3 fl H locs ls w hl hf
    unfold f_X0_live_56 at hf
    refine lv_aload_n hx hb dX0_live_56 rfl (lv_at hl 0 rfl) ?_
    refine lv_aload_n hx hb dX0_live_57 rfl (lv_at hl 0 rfl) ?_
    refine gfC_11_0 B w kt1_185 dX0_live_58 ?_
    refine lv_iconst (v := 1) hx hb dX0_live_61 (by decide) ?_
    refine lv_aload_n hx hb dX0_live_62 rfl (lv_at hl 1 rfl) ?_
    refine lv_iload_n hx hb dX0_live_63 rfl (lv_at hl 2 rfl) ?_
    refine lv_iload_n hx hb dX0_live_64 rfl (lv_at hl 3 rfl) ?_
    obtain ⟨r_1, er_2⟩ : ∃ y, f_X0_worthBeing fi 1 v2 v3 = y := ⟨_, rfl⟩
    have hf := bindv_eq hf r_1 er_2.symm
    refine callFL (As := [.int 1, .ref (ad 5), .int v2, .int v3]) (rest := [.long (fl 0), .ref (ad 11)]) B w (c_X0_worthBeing l D ca ak av ad fi fl ar 1 v2 v3 er_2) (gS kt3_48 kt3_49 kt1_6 kt3_50) hdS_X0_worthBeing rfl rfl ⟨Nat.le_of_ble_eq_true rfl, Nat.le_of_ble_eq_true rfl⟩ rfl hl.1 rfl (Nat.le_of_ble_eq_true rfl) dX0_live_65 ⟨Nat.le_of_ble_eq_true rfl, Nat.le_of_ble_eq_true rfl⟩ (fun H locs w => ?_)
    refine lv_lmul (x := (fl 0)) (y := r_1) hx hb dX0_live_68 ?_
    refine lv_aload_n hx hb dX0_live_69 rfl (lv_at hl 0 rfl) ?_
    refine gfC_11_1 B w kt1_187 dX0_live_70 ?_
    refine lv_aload_n hx hb dX0_live_73 rfl (lv_at hl 0 rfl) ?_
    refine gfC_11_0 B w kt1_185 dX0_live_74 ?_
    refine lv_lsub (x := (fl 1)) (y := (fl 0)) hx hb dX0_live_77 ?_
    refine lv_iconst (v := 0) hx hb dX0_live_78 (by decide) ?_
    refine lv_aload_n hx hb dX0_live_79 rfl (lv_at hl 1 rfl) ?_
    refine lv_iload_n hx hb dX0_live_80 rfl (lv_at hl 2 rfl) ?_
    refine lv_iload_n hx hb dX0_live_81 rfl (lv_at hl 3 rfl) ?_
    obtain ⟨r_3, er_4⟩ : ∃ y, f_X0_worthBeing fi 0 v2 v3 = y := ⟨_, rfl⟩
    have hf := bindv_eq hf r_3 er_4.symm
    refine callFL (As := [.int 0, .ref (ad 5), .int v2, .int v3]) (rest := [.long ((fl 1) - (fl 0)), .long ((fl 0) * r_1), .ref (ad 11)]) B w (c_X0_worthBeing l D ca ak av ad fi fl ar 0 v2 v3 er_4) (gS kt3_48 kt3_49 kt1_6 kt3_50) hdS_X0_worthBeing rfl rfl ⟨Nat.le_of_ble_eq_true rfl, Nat.le_of_ble_eq_true rfl⟩ rfl hl.1 rfl (Nat.le_of_ble_eq_true rfl) dX0_live_82 ⟨Nat.le_of_ble_eq_true rfl, Nat.le_of_ble_eq_true rfl⟩ (fun H locs w => ?_)
    refine lv_lmul (x := ((fl 1) - (fl 0))) (y := r_3) hx hb dX0_live_85 ?_
    refine lv_ladd (x := ((fl 0) * r_1)) (y := (((fl 1) - (fl 0)) * r_3)) hx hb dX0_live_86 ?_
    refine pfC_11_4 (v := (((fl 0) * r_1) + (((fl 1) - (fl 0)) * r_3))) B w kt1_194 dX0_live_87 (fun H locs fl_5 efl_5 w => ?_)
    have hf := bindv_eq hf fl_5 efl_5
    refine lv_aload_n hx hb dX0_live_90 rfl (lv_at hl 0 rfl) ?_
    refine lv_aload_n hx hb dX0_live_91 rfl (lv_at hl 0 rfl) ?_
    refine gfC_11_4 B w kt1_194 dX0_live_92 ?_
    refine lv_aload_n hx hb dX0_live_95 rfl (lv_at hl 0 rfl) ?_
    refine gfC_11_1 B w kt1_187 dX0_live_96 ?_
    obtain ⟨r_6, er_7, hf⟩ := bind1_eq hf
    refine callSL (As := [.long (fl_5 4), .long (fl_5 1)]) (rest := [.ref (ad 11)]) B w (c_J9_floorDiv_f86c9 l _ (fl_5 4) (fl_5 1) er_7) (gS kt3_52 kt3_53 kt1_16 kt3_54) hdS_J9_floorDiv_f86c9 rfl rfl ⟨Nat.le_of_ble_eq_true rfl, Nat.le_of_ble_eq_true rfl⟩ rfl hl.1 rfl (Nat.le_of_ble_eq_true rfl) dX0_live_99 ⟨Nat.le_of_ble_eq_true rfl, Nat.le_of_ble_eq_true rfl⟩ (fun H locs w => ?_)
    refine pfC_11_2 (v := r_6) B w kt1_191 dX0_live_102 (fun H locs fl_8 efl_8 w => ?_)
    have hf := bindv_eq hf fl_8 efl_8
    refine lv_aload_n hx hb dX0_live_105 rfl (lv_at hl 0 rfl) ?_
    refine lv_aload_n hx hb dX0_live_106 rfl (lv_at hl 0 rfl) ?_
    refine gfC_11_4 B w kt1_194 dX0_live_107 ?_
    refine lv_aload_n hx hb dX0_live_110 rfl (lv_at hl 0 rfl) ?_
    refine gfC_11_2 B w kt1_191 dX0_live_111 ?_
    refine lv_aload_n hx hb dX0_live_114 rfl (lv_at hl 0 rfl) ?_
    refine gfC_11_1 B w kt1_187 dX0_live_115 ?_
    refine lv_lmul (x := (fl_8 2)) (y := (fl_8 1)) hx hb dX0_live_118 ?_
    refine lv_lsub (x := (fl_8 4)) (y := ((fl_8 2) * (fl_8 1))) hx hb dX0_live_119 ?_
    refine pfC_11_3 (v := ((fl_8 4) - ((fl_8 2) * (fl_8 1)))) B w kt1_193 dX0_live_120 (fun H locs fl_9 efl_9 w => ?_)
    have hf := bindv_eq hf fl_9 efl_9
    have hf : some fl_9 = some fl0 := hf
    have q0 := so1 hf
    subst q0
    exact retV B hr hk w dX0_live_123
  unfold f_X0_live at hf
  refine (show ∀ (H : Heap) (locs : List Loc), Wd (EC D ca ak av) A s (wC ad ca fi fl ar) H locs → W p l e ({ frames := 2, cells := 0, slots := 0, locals := 47 } : Room) s m args below meth c H locs 0 0 (MQ below (Qv (EC D ca ak av) A (wC ad ca fi fl0 ar)) args s 0 0 A) (F0 m 0 ls []) from ?_) s.heap [] w
  intro H locs w
  refine lv_aload_n hx hb dX0_live_0 rfl (lv_at hl 1 rfl) ?_
  refine lv_iload_n hx hb dX0_live_1 rfl (lv_at hl 2 rfl) ?_
  refine lv_iconst (v := 1) hx hb dX0_live_2 (by decide) ?_
  refine lv_iload_n hx hb dX0_live_3 rfl (lv_at hl 3 rfl) ?_
  obtain ⟨r_10, er_11, hf⟩ := bind1_eq hf
  refine callVL (As := [.int v2, .int 1, .int v3]) (rest := []) B w (c_X1_calledGood l D ca ak av ad fi fl ar v2 1 v3 er_11) (gV kt3_43 kt3_44 kt3_45 kt1_4 kt3_46) hdV_X1_calledGood 5 rfl rfl rfl rfl ⟨Nat.le_of_ble_eq_true rfl, Nat.le_of_ble_eq_true rfl⟩ rfl hl.1 rfl (Nat.le_of_ble_eq_true rfl) dX0_live_4 ⟨Nat.le_of_ble_eq_true rfl, Nat.le_of_ble_eq_true rfl⟩ (fun H locs w => ?_)
  refine lv_lstore (lv' := [(4, .long r_10), (0, .ref (ad 11)), (1, .ref (ad 5)), (2, .int v2), (3, .int v3)]) hx hb dX0_live_7 hl (by decide) rfl (fun ls hl => ?_)
  refine lv_aload_n hx hb dX0_live_9 rfl (lv_at hl 2 rfl) ?_
  refine lv_iload_n hx hb dX0_live_10 rfl (lv_at hl 3 rfl) ?_
  refine lv_iconst (v := 0) hx hb dX0_live_11 (by decide) ?_
  refine lv_iload_n hx hb dX0_live_12 rfl (lv_at hl 4 rfl) ?_
  obtain ⟨r_12, er_13, hf⟩ := bind1_eq hf
  refine callVL (As := [.int v2, .int 0, .int v3]) (rest := []) B w (c_X1_calledGood l D ca ak av ad fi fl ar v2 0 v3 er_13) (gV kt3_43 kt3_44 kt3_45 kt1_4 kt3_46) hdV_X1_calledGood 5 rfl rfl rfl rfl ⟨Nat.le_of_ble_eq_true rfl, Nat.le_of_ble_eq_true rfl⟩ rfl hl.1 rfl (Nat.le_of_ble_eq_true rfl) dX0_live_13 ⟨Nat.le_of_ble_eq_true rfl, Nat.le_of_ble_eq_true rfl⟩ (fun H locs w => ?_)
  refine lv_lstore (lv' := [(6, .long r_12), (4, .long r_10), (0, .ref (ad 11)), (1, .ref (ad 5)), (2, .int v2), (3, .int v3)]) hx hb dX0_live_16 hl (by decide) rfl (fun ls hl => ?_)
  refine lv_aload_n hx hb dX0_live_18 rfl (lv_at hl 2 rfl) ?_
  refine lv_lload hx hb dX0_live_19 (lv_at hl 0 rfl) ?_
  refine pfC_11_0 (v := r_12) B w kt1_185 dX0_live_21 (fun H locs fl_14 efl_14 w => ?_)
  have hf := bindv_eq hf fl_14 efl_14
  refine lv_aload_n hx hb dX0_live_24 rfl (lv_at hl 2 rfl) ?_
  refine lv_ldc2 (own := RX0) (v := 10000000) hx hb hown (hts _ kt3_47) dX0_live_25 ?_
  refine lv_lload hx hb dX0_live_28 (lv_at hl 1 rfl) ?_
  refine lv_lsub (x := 10000000) (y := r_10) hx hb dX0_live_30 ?_
  refine lv_lload hx hb dX0_live_31 (lv_at hl 0 rfl) ?_
  refine lv_ladd (x := (10000000 - r_10)) (y := r_12) hx hb dX0_live_33 ?_
  refine pfC_11_1 (v := ((10000000 - r_10) + r_12)) B w kt1_187 dX0_live_34 (fun H locs fl_15 efl_15 w => ?_)
  have hf := bindv_eq hf fl_15 efl_15
  refine lv_aload_n hx hb dX0_live_37 rfl (lv_at hl 2 rfl) ?_
  refine gfC_11_1 B w kt1_187 dX0_live_38 ?_
  refine lv_lconst (v := 0) hx hb dX0_live_41 (by decide) ?_
  refine W.lcmp hx hb dX0_live_42 ?_
  refine lv_if_gt (x := (lg_cmp (fl_15 1) 0)) (tgt := 56) hx hb dX0_live_43 (by decide) (fun c_16 => ?_) (fun c_16 => ?_)
  · have hf := if_t hf c_16
    exact J56  v2 v3 fl_15 H locs ls w (lv_sub hl [2, 3, 4, 5] rfl) hf
  · have hf := if_f hf c_16
    refine lv_aload_n hx hb dX0_live_46 rfl (lv_at hl 2 rfl) ?_
    refine lv_lconst (v := 0) hx hb dX0_live_47 (by decide) ?_
    refine pfC_11_0 (v := 0) B w kt1_185 dX0_live_48 (fun H locs fl_17 efl_17 w => ?_)
    have hf := bindv_eq hf fl_17 efl_17
    refine lv_aload_n hx hb dX0_live_51 rfl (lv_at hl 2 rfl) ?_
    refine lv_lconst (v := 1) hx hb dX0_live_52 (by decide) ?_
    refine pfC_11_1 (v := 1) B w kt1_187 dX0_live_53 (fun H locs fl_18 efl_18 w => ?_)
    have hf := bindv_eq hf fl_18 efl_18
    exact J56  v2 v3 fl_18 H locs ls w (lv_sub hl [2, 3, 4, 5] rfl) hf
def f_X0_hasUpper (fi : Nat → Int32) (fl : Nat → Int64) : Int64 := ((fl 4) * (Int32.toInt64 (fi 25)))
set_option maxHeartbeats 4000000 in
set_option maxRecDepth 100000 in
theorem c_X0_hasUpper (l : Launch) (D : va_G) (ca : Nat → ClassId) (ak av ad : Nat → Nat) (fi : Nat → Int32) (fl : Nat → Int64) (ar : Nat → Nat → Int32) {r0 : Int64} (hf : f_X0_hasUpper fi fl = r0) : MtL l yX0_hasUpper cX0_hasUpper 2 { frames := 0, cells := 0, slots := 0, locals := 0 } (EC D ca ak av) [.ref (ad 11), .ref (ad 5)] (wC ad ca fi fl ar) (wC ad ca fi fl ar) r0 := by
  refine MtL.of (own := RX0) (by decide +kernel) rfl (Nat.le_of_ble_eq_true rfl) ?_
  intro p e s m args below meth c A B hr hk w ls hl
  have hx := B.1.1
  have hb := B.1.2.1
  have hown := B.1.2.2.2.1
  have hts := B.1.2.2.2.2
  have hl : lv_has ls 2 [(0, .ref (ad 11)), (1, .ref (ad 5))] := hl
  unfold f_X0_hasUpper at hf
  refine (show ∀ (H : Heap) (locs : List Loc), Wd (EC D ca ak av) A s (wC ad ca fi fl ar) H locs → W p l e ({ frames := 0, cells := 0, slots := 0, locals := 0 } : Room) s m args below meth c H locs 0 0 (MQ below (Ql (EC D ca ak av) A (wC ad ca fi fl ar) r0) args s 0 0 A) (F0 m 0 ls []) from ?_) s.heap [] w
  intro H locs w
  refine lv_aload_n hx hb dX0_hasUpper_0 rfl (lv_at hl 0 rfl) ?_
  refine gfC_11_4 B w kt1_194 dX0_hasUpper_1 ?_
  refine lv_aload_n hx hb dX0_hasUpper_4 rfl (lv_at hl 1 rfl) ?_
  refine gfC_5_5 B w kt1_135 dX0_hasUpper_5 ?_
  refine lv_i2l hx hb dX0_hasUpper_8 rfl ?_
  refine lv_lmul (x := (fl 4)) (y := (Int32.toInt64 (fi 25))) hx hb dX0_hasUpper_9 ?_
  have hf : ((fl 4) * (Int32.toInt64 (fi 25))) = r0 := hf
  subst hf
  exact retL B hr hk w dX0_hasUpper_10
def f_X0_hasLower (fl : Nat → Int64) : Int64 := ((fl 1) * 100000)
set_option maxHeartbeats 4000000 in
set_option maxRecDepth 100000 in
theorem c_X0_hasLower (l : Launch) (D : va_G) (ca : Nat → ClassId) (ak av ad : Nat → Nat) (fi : Nat → Int32) (fl : Nat → Int64) (ar : Nat → Nat → Int32) {r0 : Int64} (hf : f_X0_hasLower fl = r0) : MtL l yX0_hasLower cX0_hasLower 1 { frames := 0, cells := 0, slots := 0, locals := 0 } (EC D ca ak av) [.ref (ad 11)] (wC ad ca fi fl ar) (wC ad ca fi fl ar) r0 := by
  refine MtL.of (own := RX0) (by decide +kernel) rfl (Nat.le_of_ble_eq_true rfl) ?_
  intro p e s m args below meth c A B hr hk w ls hl
  have hx := B.1.1
  have hb := B.1.2.1
  have hown := B.1.2.2.2.1
  have hts := B.1.2.2.2.2
  have hl : lv_has ls 1 [(0, .ref (ad 11))] := hl
  unfold f_X0_hasLower at hf
  refine (show ∀ (H : Heap) (locs : List Loc), Wd (EC D ca ak av) A s (wC ad ca fi fl ar) H locs → W p l e ({ frames := 0, cells := 0, slots := 0, locals := 0 } : Room) s m args below meth c H locs 0 0 (MQ below (Ql (EC D ca ak av) A (wC ad ca fi fl ar) r0) args s 0 0 A) (F0 m 0 ls []) from ?_) s.heap [] w
  intro H locs w
  refine lv_aload_n hx hb dX0_hasLower_0 rfl (lv_at hl 0 rfl) ?_
  refine gfC_11_1 B w kt1_187 dX0_hasLower_1 ?_
  refine lv_ldc2 (own := RX0) (v := 100000) hx hb hown (hts _ kt3_69) dX0_hasLower_4 ?_
  refine lv_lmul (x := (fl 1)) (y := 100000) hx hb dX0_hasLower_7 ?_
  have hf : ((fl 1) * 100000) = r0 := hf
  subst hf
  exact retL B hr hk w dX0_hasLower_8
def f_X1_live_109  (k60 : Int32 → Int32 → Int32 → (Nat → Int32) → (Nat → Nat → Int32) → Option ((Nat → Int32) × (Nat → Nat → Int32))) (v3 : Int32) (v4 : Int32) (v5 : Int32) (v6 : Int32) (t0 : Int32) (fi : Nat → Int32) (ar : Nat → Nat → Int32) : Option ((Nat → Int32) × (Nat → Nat → Int32)) := gd v5 8 (bindv (updA ar 6 (upd (ar 6) (Int32.toNatClampNeg v5) (100 * v6))) (fun ar_2 => gd (v5 + 1) 8 (bindv (updA ar_2 6 (upd (ar_2 6) (Int32.toNatClampNeg (v5 + 1)) (((fi 25) * t0) + ((fi 3) * v6)))) (fun ar_4 => bindv (f_X8_bit (fi 22) (v5 >>> ((1 : Int32) &&& 31))) (fun r_5 => gd (v5 + r_5) 8 (gd (v5 >>> ((1 : Int32) &&& 31)) 4 (bindv (updA ar_4 7 (upd (ar_4 7) (Int32.toNatClampNeg (v5 >>> ((1 : Int32) &&& 31))) (ar_4 6 (Int32.toNatClampNeg (v5 + r_5))))) (fun ar_9 => bindv (v5 + 2 : Int32) (fun x_10 => k60 v3 v4 x_10 fi ar_9)))))))))
def f_X1_live_86  (k60 : Int32 → Int32 → Int32 → (Nat → Int32) → (Nat → Nat → Int32) → Option ((Nat → Int32) × (Nat → Nat → Int32))) (v3 : Int32) (v4 : Int32) (v5 : Int32) (t0 : Int32) (fi : Nat → Int32) (ar : Nat → Nat → Int32) : Option ((Nat → Int32) × (Nat → Nat → Int32)) := bindv (f_X8_bit v4 (v5 + 1)) (fun r_11 => if (r_11 = 1 : Prop) then (f_X1_live_109 k60 v3 v4 v5 t0 (100 - v3) fi ar) else (f_X1_live_109 k60 v3 v4 v5 t0 v3 fi ar))
def f_X1_live_60   : Nat → (Int32) → (Int32) → (Int32) → (Nat → Int32) → (Nat → Nat → Int32) → Option ((Nat → Int32) × (Nat → Nat → Int32))
  | 0, _, _, _, _, _ => none
  | n + 1, v3, v4, v5, fi, ar => if (8 ≤ v5 : Prop) then (some (fi, ar)) else (bindv (f_X8_bit v4 v5) (fun r_15 => if (r_15 = 1 : Prop) then (f_X1_live_86 (f_X1_live_60 n) v3 v4 v5 (100 - v3) fi ar) else (f_X1_live_86 (f_X1_live_60 n) v3 v4 v5 v3 fi ar)))
def f_X1_live (fi : Nat → Int32) (ar : Nat → Nat → Int32) (v2 : Int32) (v3 : Int32) : Option ((Nat → Int32) × (Nat → Nat → Int32)) := bindv (f_X8_wayOf v2) (fun r_18 => bindv (upd fi 22 r_18) (fun fi_20 => bindv (upd fi_20 25 (100 - (fi_20 3))) (fun fi_21 => bindv (upd fi_21 23 (fi_21 1)) (fun fi_22 => bindv (upd fi_22 24 (fi_22 2)) (fun fi_23 => bindv (upd fi_23 26 (fi_23 5)) (fun fi_24 => bindv (upd fi_24 27 (fi_24 6)) (fun fi_25 => bindv (f_X8_namingOf v2) (fun r_26 => f_X1_live_60  5000 v3 r_26 0 fi_25 ar))))))))
set_option maxHeartbeats 4000000 in
set_option maxRecDepth 100000 in
theorem c_X1_live (l : Launch) (D : va_G) (ca : Nat → ClassId) (ak av ad : Nat → Nat) (fi : Nat → Int32) (fl : Nat → Int64) (ar : Nat → Nat → Int32) (v2 : Int32) (v3 : Int32) {fi0 : Nat → Int32} {ar0 : Nat → Nat → Int32} (hf : f_X1_live fi ar v2 v3 = some (fi0, ar0)) : MtV l yX1_live cX1_live 8 { frames := 1, cells := 0, slots := 0, locals := 21 } (EC D ca ak av) [.ref (ad 5), .ref (ad 1), .int v2, .int v3] (wC ad ca fi fl ar) (wC ad ca fi0 fl ar0) := by
  refine MtV.of (own := RX1) (by decide +kernel) rfl (Nat.le_of_ble_eq_true rfl) ?_
  intro p e s m args below meth c A B hr hk w ls hl
  have hx := B.1.1
  have hb := B.1.2.1
  have hown := B.1.2.2.2.1
  have hts := B.1.2.2.2.2
  have hl : lv_has ls 8 [(0, .ref (ad 5)), (1, .ref (ad 1)), (2, .int v2), (3, .int v3)] := hl
  have J109 : ∀ (k60 : Int32 → Int32 → Int32 → (Nat → Int32) → (Nat → Nat → Int32) → Option ((Nat → Int32) × (Nat → Nat → Int32))) (hk60 : ∀ (v3 : Int32) (v4 : Int32) (v5 : Int32) (fi : Nat → Int32) (ar : Nat → Nat → Int32) (H : Heap) (locs : List Loc) (ls : Array Slot), Wd (EC D ca ak av) A s (wC ad ca fi fl ar) H locs → lv_has ls 8 [(0, .ref (ad 5)), (1, .ref (ad 1)), (3, .int v3), (4, .int v4), (5, .int v5)] → k60 v3 v4 v5 fi ar = some (fi0, ar0) → W p l e ({ frames := 1, cells := 0, slots := 0, locals := 21 } : Room) s m args below meth c H locs 0 0 (MQ below (Qv (EC D ca ak av) A (wC ad ca fi0 fl ar0)) args s 0 0 A) (F0 m 60 ls [])) (v3 : Int32) (v4 : Int32) (v5 : Int32) (v6 : Int32) (t0 : Int32) (fi : Nat → Int32) (ar : Nat → Nat → Int32) (H : Heap) (locs : List Loc) (ls : Array Slot), Wd (EC D ca ak av) A s (wC ad ca fi fl ar) H locs → lv_has ls 8 [(0, .ref (ad 5)), (1, .ref (ad 1)), (3, .int v3), (4, .int v4), (5, .int v5), (6, .int v6)] → f_X1_live_109 k60 v3 v4 v5 v6 t0 fi ar = some (fi0, ar0) → W p l e ({ frames := 1, cells := 0, slots := 0, locals := 21 } : Room) s m args below meth c H locs 0 0 (MQ below (Qv (EC D ca ak av) A (wC ad ca fi0 fl ar0)) args s 0 0 A) (F0 m 109 ls [.int t0]) := by
    intro k60 hk60 v3 v4 v5 v6 t0 fi ar H locs ls w hl hf
    unfold f_X1_live_109 at hf
    refine lv_istore (lv' := [(7, .int t0), (0, .ref (ad 5)), (1, .ref (ad 1)), (3, .int v3), (4, .int v4), (5, .int v5), (6, .int v6)]) hx hb dX1_live_109 hl (by decide) rfl (fun ls hl => ?_)
    refine lv_aload_n hx hb dX1_live_111 rfl (lv_at hl 1 rfl) ?_
    refine gfC_5_0 B w kt1_125 dX1_live_112 ?_
    refine lv_iload hx hb dX1_live_115 (lv_at hl 5 rfl) ?_
    refine lv_bipush (v := 100) hx hb dX1_live_117 (by decide) ?_
    refine lv_iload hx hb dX1_live_119 (lv_at hl 6 rfl) ?_
    refine lv_imul (x := 100) (y := v6) hx hb dX1_live_121 ?_
    obtain ⟨hi_1, hf⟩ := gd_eq hf
    refine asC_6 (x := (100 * v6)) B w hi_1 dX1_live_122 (fun H locs ar_2 ear_2 w => ?_)
    have hf := bindv_eq hf ar_2 ear_2
    refine lv_aload_n hx hb dX1_live_123 rfl (lv_at hl 1 rfl) ?_
    refine gfC_5_0 B w kt1_125 dX1_live_124 ?_
    refine lv_iload hx hb dX1_live_127 (lv_at hl 5 rfl) ?_
    refine lv_iconst (v := 1) hx hb dX1_live_129 (by decide) ?_
    refine lv_iadd (x := v5) (y := 1) hx hb dX1_live_130 ?_
    refine lv_aload_n hx hb dX1_live_131 rfl (lv_at hl 1 rfl) ?_
    refine gfC_5_5 B w kt1_134 dX1_live_132 ?_
    refine lv_iload hx hb dX1_live_135 (lv_at hl 0 rfl) ?_
    refine lv_imul (x := (fi 25)) (y := t0) hx hb dX1_live_137 ?_
    refine lv_aload_n hx hb dX1_live_138 rfl (lv_at hl 2 rfl) ?_
    refine gfC_1_2 B w kt1_45 dX1_live_139 ?_
    refine lv_iload hx hb dX1_live_142 (lv_at hl 6 rfl) ?_
    refine lv_imul (x := (fi 3)) (y := v6) hx hb dX1_live_144 ?_
    refine lv_iadd (x := ((fi 25) * t0)) (y := ((fi 3) * v6)) hx hb dX1_live_145 ?_
    obtain ⟨hi_3, hf⟩ := gd_eq hf
    refine asC_6 (x := (((fi 25) * t0) + ((fi 3) * v6))) B w hi_3 dX1_live_146 (fun H locs ar_4 ear_4 w => ?_)
    have hf := bindv_eq hf ar_4 ear_4
    refine lv_aload_n hx hb dX1_live_147 rfl (lv_at hl 1 rfl) ?_
    refine gfC_5_1 B w kt1_126 dX1_live_148 ?_
    refine lv_iload hx hb dX1_live_151 (lv_at hl 5 rfl) ?_
    refine lv_iconst (v := 1) hx hb dX1_live_153 (by decide) ?_
    refine lv_ishr (x := v5) (y := 1) hx hb dX1_live_154 ?_
    refine lv_aload_n hx hb dX1_live_155 rfl (lv_at hl 1 rfl) ?_
    refine gfC_5_0 B w kt1_125 dX1_live_156 ?_
    refine lv_iload hx hb dX1_live_159 (lv_at hl 5 rfl) ?_
    refine lv_aload_n hx hb dX1_live_161 rfl (lv_at hl 1 rfl) ?_
    refine gfC_5_2 B w kt1_127 dX1_live_162 ?_
    refine lv_iload hx hb dX1_live_165 (lv_at hl 5 rfl) ?_
    refine lv_iconst (v := 1) hx hb dX1_live_167 (by decide) ?_
    refine lv_ishr (x := v5) (y := 1) hx hb dX1_live_168 ?_
    obtain ⟨r_5, er_6⟩ : ∃ y, f_X8_bit (fi 22) (v5 >>> ((1 : Int32) &&& 31)) = y := ⟨_, rfl⟩
    have hf := bindv_eq hf r_5 er_6.symm
    refine callNI (As := [.int (fi 22), .int (v5 >>> ((1 : Int32) &&& 31))]) (rest := [.int v5, .ref (ad 6), .int (v5 >>> ((1 : Int32) &&& 31)), .ref (ad 7)]) B w (c_X8_bit l _ (fi 22) (v5 >>> ((1 : Int32) &&& 31)) er_6) (gN kt2_166) (by decide) kt1_1 kt2_165 hdS_X8_bit rfl rfl ⟨Nat.le_of_ble_eq_true rfl, Nat.le_of_ble_eq_true rfl⟩ rfl hl.1 rfl (Nat.le_of_ble_eq_true rfl) dX1_live_169 ⟨Nat.le_of_ble_eq_true rfl, Nat.le_of_ble_eq_true rfl⟩ (fun H locs w => ?_)
    refine lv_iadd (x := v5) (y := r_5) hx hb dX1_live_172 ?_
    obtain ⟨hi_7, hf⟩ := gd_eq hf
    refine alC_6 B w hi_7 dX1_live_173 ?_
    obtain ⟨hi_8, hf⟩ := gd_eq hf
    refine asC_7 (x := (ar_4 6 (Int32.toNatClampNeg (v5 + r_5)))) B w hi_8 dX1_live_174 (fun H locs ar_9 ear_9 w => ?_)
    have hf := bindv_eq hf ar_9 ear_9
    obtain ⟨x_10, ex_10⟩ : ∃ y : Int32, y = v5 + 2 := ⟨_, rfl⟩
    have hf := bindv_eq hf x_10 ex_10
    refine lv_iinc (v := x_10) (lv' := [(5, .int x_10), (7, .int t0), (0, .ref (ad 5)), (1, .ref (ad 1)), (3, .int v3), (4, .int v4), (6, .int v6)]) hx hb dX1_live_175 hl (k := 5) rfl (by rw [ex_10]; rfl) (by decide) rfl (fun ls hl => ?_)
    refine lv_goto (tgt := 60) hx hb dX1_live_178 (by decide) ?_
    exact hk60 v3 v4 x_10 fi ar_9 H locs ls w (lv_sub hl [2, 3, 4, 5, 0] rfl) hf
  have J86 : ∀ (k60 : Int32 → Int32 → Int32 → (Nat → Int32) → (Nat → Nat → Int32) → Option ((Nat → Int32) × (Nat → Nat → Int32))) (hk60 : ∀ (v3 : Int32) (v4 : Int32) (v5 : Int32) (fi : Nat → Int32) (ar : Nat → Nat → Int32) (H : Heap) (locs : List Loc) (ls : Array Slot), Wd (EC D ca ak av) A s (wC ad ca fi fl ar) H locs → lv_has ls 8 [(0, .ref (ad 5)), (1, .ref (ad 1)), (3, .int v3), (4, .int v4), (5, .int v5)] → k60 v3 v4 v5 fi ar = some (fi0, ar0) → W p l e ({ frames := 1, cells := 0, slots := 0, locals := 21 } : Room) s m args below meth c H locs 0 0 (MQ below (Qv (EC D ca ak av) A (wC ad ca fi0 fl ar0)) args s 0 0 A) (F0 m 60 ls [])) (v3 : Int32) (v4 : Int32) (v5 : Int32) (t0 : Int32) (fi : Nat → Int32) (ar : Nat → Nat → Int32) (H : Heap) (locs : List Loc) (ls : Array Slot), Wd (EC D ca ak av) A s (wC ad ca fi fl ar) H locs → lv_has ls 8 [(0, .ref (ad 5)), (1, .ref (ad 1)), (3, .int v3), (4, .int v4), (5, .int v5)] → f_X1_live_86 k60 v3 v4 v5 t0 fi ar = some (fi0, ar0) → W p l e ({ frames := 1, cells := 0, slots := 0, locals := 21 } : Room) s m args below meth c H locs 0 0 (MQ below (Qv (EC D ca ak av) A (wC ad ca fi0 fl ar0)) args s 0 0 A) (F0 m 86 ls [.int t0]) := by
    intro k60 hk60 v3 v4 v5 t0 fi ar H locs ls w hl hf
    unfold f_X1_live_86 at hf
    refine lv_istore (lv' := [(6, .int t0), (0, .ref (ad 5)), (1, .ref (ad 1)), (3, .int v3), (4, .int v4), (5, .int v5)]) hx hb dX1_live_86 hl (by decide) rfl (fun ls hl => ?_)
    refine lv_iload hx hb dX1_live_88 (lv_at hl 4 rfl) ?_
    refine lv_iload hx hb dX1_live_90 (lv_at hl 5 rfl) ?_
    refine lv_iconst (v := 1) hx hb dX1_live_92 (by decide) ?_
    refine lv_iadd (x := v5) (y := 1) hx hb dX1_live_93 ?_
    obtain ⟨r_11, er_12⟩ : ∃ y, f_X8_bit v4 (v5 + 1) = y := ⟨_, rfl⟩
    have hf := bindv_eq hf r_11 er_12.symm
    refine callNI (As := [.int v4, .int (v5 + 1)]) (rest := []) B w (c_X8_bit l _ v4 (v5 + 1) er_12) (gN kt2_166) (by decide) kt1_1 kt2_165 hdS_X8_bit rfl rfl ⟨Nat.le_of_ble_eq_true rfl, Nat.le_of_ble_eq_true rfl⟩ rfl hl.1 rfl (Nat.le_of_ble_eq_true rfl) dX1_live_94 ⟨Nat.le_of_ble_eq_true rfl, Nat.le_of_ble_eq_true rfl⟩ (fun H locs w => ?_)
    refine lv_iconst (v := 1) hx hb dX1_live_97 (by decide) ?_
    refine lv_icmp_ne (x := r_11) (y := 1) (tgt := 108) hx hb dX1_live_98 (by decide) (fun c_13 => ?_) (fun c_13 => ?_)
    · have hf := if_f hf c_13
      refine lv_iload_n hx hb dX1_live_108 rfl (lv_at hl 3 rfl) ?_
      exact J109 _ hk60 v3 v4 v5 t0 v3 fi ar H locs ls w (lv_sub hl [1, 2, 3, 4, 5, 0] rfl) hf
    · have hf := if_t hf c_13
      refine lv_bipush (v := 100) hx hb dX1_live_101 (by decide) ?_
      refine lv_iload_n hx hb dX1_live_103 rfl (lv_at hl 3 rfl) ?_
      refine lv_isub (x := 100) (y := v3) hx hb dX1_live_104 ?_
      refine lv_goto (tgt := 109) hx hb dX1_live_105 (by decide) ?_
      exact J109 _ hk60 v3 v4 v5 t0 (100 - v3) fi ar H locs ls w (lv_sub hl [1, 2, 3, 4, 5, 0] rfl) hf
  have J60 : ∀ (n : Nat) (v3 : Int32) (v4 : Int32) (v5 : Int32) (fi : Nat → Int32) (ar : Nat → Nat → Int32) (H : Heap) (locs : List Loc) (ls : Array Slot), Wd (EC D ca ak av) A s (wC ad ca fi fl ar) H locs → lv_has ls 8 [(0, .ref (ad 5)), (1, .ref (ad 1)), (3, .int v3), (4, .int v4), (5, .int v5)] → f_X1_live_60  n v3 v4 v5 fi ar = some (fi0, ar0) → W p l e ({ frames := 1, cells := 0, slots := 0, locals := 21 } : Room) s m args below meth c H locs 0 0 (MQ below (Qv (EC D ca ak av) A (wC ad ca fi0 fl ar0)) args s 0 0 A) (F0 m 60 ls []) := by
    intro  n
    induction n with
    | zero =>
      intro v3 v4 v5 fi ar H locs ls w hl hf
      cases hf
    | succ n ih =>
      intro v3 v4 v5 fi ar H locs ls w hl hf
      rw [f_X1_live_60] at hf
      refine lv_iload hx hb dX1_live_60 (lv_at hl 4 rfl) ?_
      refine lv_bipush (v := 8) hx hb dX1_live_62 (by decide) ?_
      refine lv_icmp_ge (x := v5) (y := 8) (tgt := 181) hx hb dX1_live_64 (by decide) (fun c_14 => ?_) (fun c_14 => ?_)
      · have hf := if_t hf c_14
        have hf : some (fi, ar) = some (fi0, ar0) := hf
        obtain ⟨q0, q1⟩ := so2 hf
        subst q0
        subst q1
        exact retV B hr hk w dX1_live_181
      · have hf := if_f hf c_14
        refine lv_iload hx hb dX1_live_67 (lv_at hl 3 rfl) ?_
        refine lv_iload hx hb dX1_live_69 (lv_at hl 4 rfl) ?_
        obtain ⟨r_15, er_16⟩ : ∃ y, f_X8_bit v4 v5 = y := ⟨_, rfl⟩
        have hf := bindv_eq hf r_15 er_16.symm
        refine callNI (As := [.int v4, .int v5]) (rest := []) B w (c_X8_bit l _ v4 v5 er_16) (gN kt2_166) (by decide) kt1_1 kt2_165 hdS_X8_bit rfl rfl ⟨Nat.le_of_ble_eq_true rfl, Nat.le_of_ble_eq_true rfl⟩ rfl hl.1 rfl (Nat.le_of_ble_eq_true rfl) dX1_live_71 ⟨Nat.le_of_ble_eq_true rfl, Nat.le_of_ble_eq_true rfl⟩ (fun H locs w => ?_)
        refine lv_iconst (v := 1) hx hb dX1_live_74 (by decide) ?_
        refine lv_icmp_ne (x := r_15) (y := 1) (tgt := 85) hx hb dX1_live_75 (by decide) (fun c_17 => ?_) (fun c_17 => ?_)
        · have hf := if_f hf c_17
          refine lv_iload_n hx hb dX1_live_85 rfl (lv_at hl 2 rfl) ?_
          exact J86 _ ih v3 v4 v5 v3 fi ar H locs ls w (lv_sub hl [0, 1, 2, 3, 4] rfl) hf
        · have hf := if_t hf c_17
          refine lv_bipush (v := 100) hx hb dX1_live_78 (by decide) ?_
          refine lv_iload_n hx hb dX1_live_80 rfl (lv_at hl 2 rfl) ?_
          refine lv_isub (x := 100) (y := v3) hx hb dX1_live_81 ?_
          refine lv_goto (tgt := 86) hx hb dX1_live_82 (by decide) ?_
          exact J86 _ ih v3 v4 v5 (100 - v3) fi ar H locs ls w (lv_sub hl [0, 1, 2, 3, 4] rfl) hf
  unfold f_X1_live at hf
  refine (show ∀ (H : Heap) (locs : List Loc), Wd (EC D ca ak av) A s (wC ad ca fi fl ar) H locs → W p l e ({ frames := 1, cells := 0, slots := 0, locals := 21 } : Room) s m args below meth c H locs 0 0 (MQ below (Qv (EC D ca ak av) A (wC ad ca fi0 fl ar0)) args s 0 0 A) (F0 m 0 ls []) from ?_) s.heap [] w
  intro H locs w
  refine lv_aload_n hx hb dX1_live_0 rfl (lv_at hl 0 rfl) ?_
  refine lv_iload_n hx hb dX1_live_1 rfl (lv_at hl 2 rfl) ?_
  obtain ⟨r_18, er_19⟩ : ∃ y, f_X8_wayOf v2 = y := ⟨_, rfl⟩
  have hf := bindv_eq hf r_18 er_19.symm
  refine callNI (As := [.int v2]) (rest := [.ref (ad 5)]) B w (c_X8_wayOf l _ v2 er_19) (gN kt2_220) (by decide) kt1_1 kt2_219 hdS_X8_wayOf rfl rfl ⟨Nat.le_of_ble_eq_true rfl, Nat.le_of_ble_eq_true rfl⟩ rfl hl.1 rfl (Nat.le_of_ble_eq_true rfl) dX1_live_2 ⟨Nat.le_of_ble_eq_true rfl, Nat.le_of_ble_eq_true rfl⟩ (fun H locs w => ?_)
  refine pfC_5_2 (v := r_18) B w kt1_127 dX1_live_5 (fun H locs fi_20 efi_20 w => ?_)
  have hf := bindv_eq hf fi_20 efi_20
  refine lv_aload_n hx hb dX1_live_8 rfl (lv_at hl 0 rfl) ?_
  refine lv_bipush (v := 100) hx hb dX1_live_9 (by decide) ?_
  refine lv_aload_n hx hb dX1_live_11 rfl (lv_at hl 1 rfl) ?_
  refine gfC_1_2 B w kt1_45 dX1_live_12 ?_
  refine lv_isub (x := 100) (y := (fi_20 3)) hx hb dX1_live_15 ?_
  refine pfC_5_5 (v := (100 - (fi_20 3))) B w kt1_134 dX1_live_16 (fun H locs fi_21 efi_21 w => ?_)
  have hf := bindv_eq hf fi_21 efi_21
  refine lv_aload_n hx hb dX1_live_19 rfl (lv_at hl 0 rfl) ?_
  refine lv_aload_n hx hb dX1_live_20 rfl (lv_at hl 1 rfl) ?_
  refine gfC_1_0 B w kt1_37 dX1_live_21 ?_
  refine pfC_5_3 (v := (fi_21 1)) B w kt1_130 dX1_live_24 (fun H locs fi_22 efi_22 w => ?_)
  have hf := bindv_eq hf fi_22 efi_22
  refine lv_aload_n hx hb dX1_live_27 rfl (lv_at hl 0 rfl) ?_
  refine lv_aload_n hx hb dX1_live_28 rfl (lv_at hl 1 rfl) ?_
  refine gfC_1_1 B w kt1_41 dX1_live_29 ?_
  refine pfC_5_4 (v := (fi_22 2)) B w kt1_132 dX1_live_32 (fun H locs fi_23 efi_23 w => ?_)
  have hf := bindv_eq hf fi_23 efi_23
  refine lv_aload_n hx hb dX1_live_35 rfl (lv_at hl 0 rfl) ?_
  refine lv_aload_n hx hb dX1_live_36 rfl (lv_at hl 1 rfl) ?_
  refine gfC_1_4 B w kt1_53 dX1_live_37 ?_
  refine pfC_5_6 (v := (fi_23 5)) B w kt1_136 dX1_live_40 (fun H locs fi_24 efi_24 w => ?_)
  have hf := bindv_eq hf fi_24 efi_24
  refine lv_aload_n hx hb dX1_live_43 rfl (lv_at hl 0 rfl) ?_
  refine lv_aload_n hx hb dX1_live_44 rfl (lv_at hl 1 rfl) ?_
  refine gfC_1_5 B w kt1_57 dX1_live_45 ?_
  refine pfC_5_7 (v := (fi_24 6)) B w kt1_137 dX1_live_48 (fun H locs fi_25 efi_25 w => ?_)
  have hf := bindv_eq hf fi_25 efi_25
  refine lv_iload_n hx hb dX1_live_51 rfl (lv_at hl 2 rfl) ?_
  obtain ⟨r_26, er_27⟩ : ∃ y, f_X8_namingOf v2 = y := ⟨_, rfl⟩
  have hf := bindv_eq hf r_26 er_27.symm
  refine callNI (As := [.int v2]) (rest := []) B w (c_X8_namingOf l _ v2 er_27) (gN kt2_224) (by decide) kt1_1 kt2_223 hdS_X8_namingOf rfl rfl ⟨Nat.le_of_ble_eq_true rfl, Nat.le_of_ble_eq_true rfl⟩ rfl hl.1 rfl (Nat.le_of_ble_eq_true rfl) dX1_live_52 ⟨Nat.le_of_ble_eq_true rfl, Nat.le_of_ble_eq_true rfl⟩ (fun H locs w => ?_)
  refine lv_istore (lv' := [(4, .int r_26), (0, .ref (ad 5)), (1, .ref (ad 1)), (2, .int v2), (3, .int v3)]) hx hb dX1_live_55 hl (by decide) rfl (fun ls hl => ?_)
  refine lv_iconst (v := 0) hx hb dX1_live_57 (by decide) ?_
  refine lv_istore (lv' := [(5, .int 0), (4, .int r_26), (0, .ref (ad 5)), (1, .ref (ad 1)), (2, .int v2), (3, .int v3)]) hx hb dX1_live_58 hl (by decide) rfl (fun ls hl => ?_)
  exact J60  5000 v3 r_26 0 fi_25 ar H locs ls w (lv_sub hl [2, 3, 5, 1, 0] rfl) hf
def f_X1_next (fi : Nat → Int32) (ar : Nat → Nat → Int32) (v1 : Int32) : Int32 := bindv ((Int32.toInt64 (1000 - v1)) : Int64) (fun x_1 => bindv (((((x_1 * x_1) * (Int32.toInt64 (ar 7 (Int32.toNatClampNeg 0)))) + ((x_1 * (Int32.toInt64 v1)) * (Int32.toInt64 ((ar 7 (Int32.toNatClampNeg 1)) + (ar 7 (Int32.toNatClampNeg 2)))))) + (((Int32.toInt64 v1) * (Int32.toInt64 v1)) * (Int32.toInt64 (ar 7 (Int32.toNatClampNeg 3))))) : Int64) (fun x_2 => bindv ((Int64.toInt32 (x_2 / 10000000)) : Int32) (fun x_3 => ((((100 - (fi 26)) * x_3) + (((fi 26) * 1000) * (fi 27))) / 100))))
set_option maxHeartbeats 4000000 in
set_option maxRecDepth 100000 in
theorem c_X1_next (l : Launch) (D : va_G) (ca : Nat → ClassId) (ak av ad : Nat → Nat) (fi : Nat → Int32) (fl : Nat → Int64) (ar : Nat → Nat → Int32) (v1 : Int32) {r0 : Int32} (hf : f_X1_next fi ar v1 = r0) : MtI l yX1_next cX1_next 7 { frames := 0, cells := 0, slots := 0, locals := 0 } (EC D ca ak av) [.ref (ad 5), .int v1] (wC ad ca fi fl ar) (wC ad ca fi fl ar) r0 := by
  refine MtI.of (own := RX1) (by decide +kernel) rfl (Nat.le_of_ble_eq_true rfl) ?_
  intro p e s m args below meth c A B hr hk w ls hl
  have hx := B.1.1
  have hb := B.1.2.1
  have hown := B.1.2.2.2.1
  have hts := B.1.2.2.2.2
  have hl : lv_has ls 7 [(0, .ref (ad 5)), (1, .int v1)] := hl
  unfold f_X1_next at hf
  refine (show ∀ (H : Heap) (locs : List Loc), Wd (EC D ca ak av) A s (wC ad ca fi fl ar) H locs → W p l e ({ frames := 0, cells := 0, slots := 0, locals := 0 } : Room) s m args below meth c H locs 0 0 (MQ below (Qi (EC D ca ak av) A (wC ad ca fi fl ar) r0) args s 0 0 A) (F0 m 0 ls []) from ?_) s.heap [] w
  intro H locs w
  refine lv_sipush (v := 1000) hx hb dX1_next_0 (by decide) ?_
  refine lv_iload_n hx hb dX1_next_3 rfl (lv_at hl 1 rfl) ?_
  refine lv_isub (x := 1000) (y := v1) hx hb dX1_next_4 ?_
  refine lv_i2l hx hb dX1_next_5 rfl ?_
  refine lv_topl (fun x_1 ex_1 => ?_)
  have hf := bindv_eq hf x_1 ex_1
  refine lv_lstore_n (lv' := [(2, .long x_1), (0, .ref (ad 5)), (1, .int v1)]) hx hb dX1_next_6 rfl hl (by decide) rfl (fun ls hl => ?_)
  refine lv_lload_n hx hb dX1_next_7 rfl (lv_at hl 0 rfl) ?_
  refine lv_lload_n hx hb dX1_next_8 rfl (lv_at hl 0 rfl) ?_
  refine lv_lmul (x := x_1) (y := x_1) hx hb dX1_next_9 ?_
  refine lv_aload_n hx hb dX1_next_10 rfl (lv_at hl 1 rfl) ?_
  refine gfC_5_1 B w kt1_126 dX1_next_11 ?_
  refine lv_iconst (v := 0) hx hb dX1_next_14 (by decide) ?_
  refine alC_7 B w (vp_in_iff.mpr (by decide)) dX1_next_15 ?_
  refine lv_i2l hx hb dX1_next_16 rfl ?_
  refine lv_lmul (x := (x_1 * x_1)) (y := (Int32.toInt64 (ar 7 (Int32.toNatClampNeg 0)))) hx hb dX1_next_17 ?_
  refine lv_lload_n hx hb dX1_next_18 rfl (lv_at hl 0 rfl) ?_
  refine lv_iload_n hx hb dX1_next_19 rfl (lv_at hl 2 rfl) ?_
  refine lv_i2l hx hb dX1_next_20 rfl ?_
  refine lv_lmul (x := x_1) (y := (Int32.toInt64 v1)) hx hb dX1_next_21 ?_
  refine lv_aload_n hx hb dX1_next_22 rfl (lv_at hl 1 rfl) ?_
  refine gfC_5_1 B w kt1_126 dX1_next_23 ?_
  refine lv_iconst (v := 1) hx hb dX1_next_26 (by decide) ?_
  refine alC_7 B w (vp_in_iff.mpr (by decide)) dX1_next_27 ?_
  refine lv_aload_n hx hb dX1_next_28 rfl (lv_at hl 1 rfl) ?_
  refine gfC_5_1 B w kt1_126 dX1_next_29 ?_
  refine lv_iconst (v := 2) hx hb dX1_next_32 (by decide) ?_
  refine alC_7 B w (vp_in_iff.mpr (by decide)) dX1_next_33 ?_
  refine lv_iadd (x := (ar 7 (Int32.toNatClampNeg 1))) (y := (ar 7 (Int32.toNatClampNeg 2))) hx hb dX1_next_34 ?_
  refine lv_i2l hx hb dX1_next_35 rfl ?_
  refine lv_lmul (x := (x_1 * (Int32.toInt64 v1))) (y := (Int32.toInt64 ((ar 7 (Int32.toNatClampNeg 1)) + (ar 7 (Int32.toNatClampNeg 2))))) hx hb dX1_next_36 ?_
  refine lv_ladd (x := ((x_1 * x_1) * (Int32.toInt64 (ar 7 (Int32.toNatClampNeg 0))))) (y := ((x_1 * (Int32.toInt64 v1)) * (Int32.toInt64 ((ar 7 (Int32.toNatClampNeg 1)) + (ar 7 (Int32.toNatClampNeg 2)))))) hx hb dX1_next_37 ?_
  refine lv_iload_n hx hb dX1_next_38 rfl (lv_at hl 2 rfl) ?_
  refine lv_i2l hx hb dX1_next_39 rfl ?_
  refine lv_iload_n hx hb dX1_next_40 rfl (lv_at hl 2 rfl) ?_
  refine lv_i2l hx hb dX1_next_41 rfl ?_
  refine lv_lmul (x := (Int32.toInt64 v1)) (y := (Int32.toInt64 v1)) hx hb dX1_next_42 ?_
  refine lv_aload_n hx hb dX1_next_43 rfl (lv_at hl 1 rfl) ?_
  refine gfC_5_1 B w kt1_126 dX1_next_44 ?_
  refine lv_iconst (v := 3) hx hb dX1_next_47 (by decide) ?_
  refine alC_7 B w (vp_in_iff.mpr (by decide)) dX1_next_48 ?_
  refine lv_i2l hx hb dX1_next_49 rfl ?_
  refine lv_lmul (x := ((Int32.toInt64 v1) * (Int32.toInt64 v1))) (y := (Int32.toInt64 (ar 7 (Int32.toNatClampNeg 3)))) hx hb dX1_next_50 ?_
  refine lv_ladd (x := (((x_1 * x_1) * (Int32.toInt64 (ar 7 (Int32.toNatClampNeg 0)))) + ((x_1 * (Int32.toInt64 v1)) * (Int32.toInt64 ((ar 7 (Int32.toNatClampNeg 1)) + (ar 7 (Int32.toNatClampNeg 2))))))) (y := (((Int32.toInt64 v1) * (Int32.toInt64 v1)) * (Int32.toInt64 (ar 7 (Int32.toNatClampNeg 3))))) hx hb dX1_next_51 ?_
  refine lv_topl (fun x_2 ex_2 => ?_)
  have hf := bindv_eq hf x_2 ex_2
  refine lv_lstore (lv' := [(4, .long x_2), (2, .long x_1), (0, .ref (ad 5)), (1, .int v1)]) hx hb dX1_next_52 hl (by decide) rfl (fun ls hl => ?_)
  refine lv_lload hx hb dX1_next_54 (lv_at hl 0 rfl) ?_
  refine lv_ldc2 (own := RX1) (v := 10000000) hx hb hown (hts _ kt3_3) dX1_next_56 ?_
  refine lv_ldiv (x := x_2) (y := 10000000) hx hb dX1_next_59 (by decide) ?_
  refine lv_l2i hx hb dX1_next_60 rfl ?_
  refine lv_topi (fun x_3 ex_3 => ?_)
  have hf := bindv_eq hf x_3 ex_3
  refine lv_istore (lv' := [(6, .int x_3), (4, .long x_2), (2, .long x_1), (0, .ref (ad 5)), (1, .int v1)]) hx hb dX1_next_61 hl (by decide) rfl (fun ls hl => ?_)
  refine lv_bipush (v := 100) hx hb dX1_next_63 (by decide) ?_
  refine lv_aload_n hx hb dX1_next_65 rfl (lv_at hl 3 rfl) ?_
  refine gfC_5_6 B w kt1_136 dX1_next_66 ?_
  refine lv_isub (x := 100) (y := (fi 26)) hx hb dX1_next_69 ?_
  refine lv_iload hx hb dX1_next_70 (lv_at hl 0 rfl) ?_
  refine lv_imul (x := (100 - (fi 26))) (y := x_3) hx hb dX1_next_72 ?_
  refine lv_aload_n hx hb dX1_next_73 rfl (lv_at hl 3 rfl) ?_
  refine gfC_5_6 B w kt1_136 dX1_next_74 ?_
  refine lv_sipush (v := 1000) hx hb dX1_next_77 (by decide) ?_
  refine lv_imul (x := (fi 26)) (y := 1000) hx hb dX1_next_80 ?_
  refine lv_aload_n hx hb dX1_next_81 rfl (lv_at hl 3 rfl) ?_
  refine gfC_5_7 B w kt1_137 dX1_next_82 ?_
  refine lv_imul (x := ((fi 26) * 1000)) (y := (fi 27)) hx hb dX1_next_85 ?_
  refine lv_iadd (x := ((100 - (fi 26)) * x_3)) (y := (((fi 26) * 1000) * (fi 27))) hx hb dX1_next_86 ?_
  refine lv_bipush (v := 100) hx hb dX1_next_87 (by decide) ?_
  refine lv_idiv (x := (((100 - (fi 26)) * x_3) + (((fi 26) * 1000) * (fi 27)))) (y := 100) hx hb dX1_next_89 (by decide) ?_
  have hf : ((((100 - (fi 26)) * x_3) + (((fi 26) * 1000) * (fi 27))) / 100) = r0 := hf
  subst hf
  exact retI B hr hk w dX1_next_90
def f_X1_aid (fi : Nat → Int32) (v1 : Int32) : Int32 := bindv ((1000 - v1) : Int32) (fun x_1 => bindv (f_X8_bit (fi 22) 0) (fun r_2 => bindv (f_X8_bit (fi 22) 1) (fun r_4 => bindv (f_X8_bit (fi 22) 2) (fun r_6 => bindv (f_X8_bit (fi 22) 3) (fun r_8 => bindv (((((r_2 * x_1) * x_1) + (((r_4 + r_6) * x_1) * v1)) + ((r_8 * v1) * v1)) : Int32) (fun x_10 => (Int64.toInt32 (((Int32.toInt64 x_10) * (Int32.toInt64 (fi 25))) / 100))))))))
set_option maxHeartbeats 4000000 in
set_option maxRecDepth 100000 in
theorem c_X1_aid (l : Launch) (D : va_G) (ca : Nat → ClassId) (ak av ad : Nat → Nat) (fi : Nat → Int32) (fl : Nat → Int64) (ar : Nat → Nat → Int32) (v1 : Int32) {r0 : Int32} (hf : f_X1_aid fi v1 = r0) : MtI l yX1_aid cX1_aid 4 { frames := 1, cells := 0, slots := 0, locals := 21 } (EC D ca ak av) [.ref (ad 5), .int v1] (wC ad ca fi fl ar) (wC ad ca fi fl ar) r0 := by
  refine MtI.of (own := RX1) (by decide +kernel) rfl (Nat.le_of_ble_eq_true rfl) ?_
  intro p e s m args below meth c A B hr hk w ls hl
  have hx := B.1.1
  have hb := B.1.2.1
  have hown := B.1.2.2.2.1
  have hts := B.1.2.2.2.2
  have hl : lv_has ls 4 [(0, .ref (ad 5)), (1, .int v1)] := hl
  unfold f_X1_aid at hf
  refine (show ∀ (H : Heap) (locs : List Loc), Wd (EC D ca ak av) A s (wC ad ca fi fl ar) H locs → W p l e ({ frames := 1, cells := 0, slots := 0, locals := 21 } : Room) s m args below meth c H locs 0 0 (MQ below (Qi (EC D ca ak av) A (wC ad ca fi fl ar) r0) args s 0 0 A) (F0 m 0 ls []) from ?_) s.heap [] w
  intro H locs w
  refine lv_sipush (v := 1000) hx hb dX1_aid_0 (by decide) ?_
  refine lv_iload_n hx hb dX1_aid_3 rfl (lv_at hl 1 rfl) ?_
  refine lv_isub (x := 1000) (y := v1) hx hb dX1_aid_4 ?_
  refine lv_topi (fun x_1 ex_1 => ?_)
  have hf := bindv_eq hf x_1 ex_1
  refine lv_istore_n (lv' := [(2, .int x_1), (0, .ref (ad 5)), (1, .int v1)]) hx hb dX1_aid_5 rfl hl (by decide) rfl (fun ls hl => ?_)
  refine lv_aload_n hx hb dX1_aid_6 rfl (lv_at hl 1 rfl) ?_
  refine gfC_5_2 B w kt1_127 dX1_aid_7 ?_
  refine lv_iconst (v := 0) hx hb dX1_aid_10 (by decide) ?_
  obtain ⟨r_2, er_3⟩ : ∃ y, f_X8_bit (fi 22) 0 = y := ⟨_, rfl⟩
  have hf := bindv_eq hf r_2 er_3.symm
  refine callNI (As := [.int (fi 22), .int 0]) (rest := []) B w (c_X8_bit l _ (fi 22) 0 er_3) (gN kt2_166) (by decide) kt1_1 kt2_165 hdS_X8_bit rfl rfl ⟨Nat.le_of_ble_eq_true rfl, Nat.le_of_ble_eq_true rfl⟩ rfl hl.1 rfl (Nat.le_of_ble_eq_true rfl) dX1_aid_11 ⟨Nat.le_of_ble_eq_true rfl, Nat.le_of_ble_eq_true rfl⟩ (fun H locs w => ?_)
  refine lv_iload_n hx hb dX1_aid_14 rfl (lv_at hl 0 rfl) ?_
  refine lv_imul (x := r_2) (y := x_1) hx hb dX1_aid_15 ?_
  refine lv_iload_n hx hb dX1_aid_16 rfl (lv_at hl 0 rfl) ?_
  refine lv_imul (x := (r_2 * x_1)) (y := x_1) hx hb dX1_aid_17 ?_
  refine lv_aload_n hx hb dX1_aid_18 rfl (lv_at hl 1 rfl) ?_
  refine gfC_5_2 B w kt1_127 dX1_aid_19 ?_
  refine lv_iconst (v := 1) hx hb dX1_aid_22 (by decide) ?_
  obtain ⟨r_4, er_5⟩ : ∃ y, f_X8_bit (fi 22) 1 = y := ⟨_, rfl⟩
  have hf := bindv_eq hf r_4 er_5.symm
  refine callNI (As := [.int (fi 22), .int 1]) (rest := [.int ((r_2 * x_1) * x_1)]) B w (c_X8_bit l _ (fi 22) 1 er_5) (gN kt2_166) (by decide) kt1_1 kt2_165 hdS_X8_bit rfl rfl ⟨Nat.le_of_ble_eq_true rfl, Nat.le_of_ble_eq_true rfl⟩ rfl hl.1 rfl (Nat.le_of_ble_eq_true rfl) dX1_aid_23 ⟨Nat.le_of_ble_eq_true rfl, Nat.le_of_ble_eq_true rfl⟩ (fun H locs w => ?_)
  refine lv_aload_n hx hb dX1_aid_26 rfl (lv_at hl 1 rfl) ?_
  refine gfC_5_2 B w kt1_127 dX1_aid_27 ?_
  refine lv_iconst (v := 2) hx hb dX1_aid_30 (by decide) ?_
  obtain ⟨r_6, er_7⟩ : ∃ y, f_X8_bit (fi 22) 2 = y := ⟨_, rfl⟩
  have hf := bindv_eq hf r_6 er_7.symm
  refine callNI (As := [.int (fi 22), .int 2]) (rest := [.int r_4, .int ((r_2 * x_1) * x_1)]) B w (c_X8_bit l _ (fi 22) 2 er_7) (gN kt2_166) (by decide) kt1_1 kt2_165 hdS_X8_bit rfl rfl ⟨Nat.le_of_ble_eq_true rfl, Nat.le_of_ble_eq_true rfl⟩ rfl hl.1 rfl (Nat.le_of_ble_eq_true rfl) dX1_aid_31 ⟨Nat.le_of_ble_eq_true rfl, Nat.le_of_ble_eq_true rfl⟩ (fun H locs w => ?_)
  refine lv_iadd (x := r_4) (y := r_6) hx hb dX1_aid_34 ?_
  refine lv_iload_n hx hb dX1_aid_35 rfl (lv_at hl 0 rfl) ?_
  refine lv_imul (x := (r_4 + r_6)) (y := x_1) hx hb dX1_aid_36 ?_
  refine lv_iload_n hx hb dX1_aid_37 rfl (lv_at hl 2 rfl) ?_
  refine lv_imul (x := ((r_4 + r_6) * x_1)) (y := v1) hx hb dX1_aid_38 ?_
  refine lv_iadd (x := ((r_2 * x_1) * x_1)) (y := (((r_4 + r_6) * x_1) * v1)) hx hb dX1_aid_39 ?_
  refine lv_aload_n hx hb dX1_aid_40 rfl (lv_at hl 1 rfl) ?_
  refine gfC_5_2 B w kt1_127 dX1_aid_41 ?_
  refine lv_iconst (v := 3) hx hb dX1_aid_44 (by decide) ?_
  obtain ⟨r_8, er_9⟩ : ∃ y, f_X8_bit (fi 22) 3 = y := ⟨_, rfl⟩
  have hf := bindv_eq hf r_8 er_9.symm
  refine callNI (As := [.int (fi 22), .int 3]) (rest := [.int (((r_2 * x_1) * x_1) + (((r_4 + r_6) * x_1) * v1))]) B w (c_X8_bit l _ (fi 22) 3 er_9) (gN kt2_166) (by decide) kt1_1 kt2_165 hdS_X8_bit rfl rfl ⟨Nat.le_of_ble_eq_true rfl, Nat.le_of_ble_eq_true rfl⟩ rfl hl.1 rfl (Nat.le_of_ble_eq_true rfl) dX1_aid_45 ⟨Nat.le_of_ble_eq_true rfl, Nat.le_of_ble_eq_true rfl⟩ (fun H locs w => ?_)
  refine lv_iload_n hx hb dX1_aid_48 rfl (lv_at hl 2 rfl) ?_
  refine lv_imul (x := r_8) (y := v1) hx hb dX1_aid_49 ?_
  refine lv_iload_n hx hb dX1_aid_50 rfl (lv_at hl 2 rfl) ?_
  refine lv_imul (x := (r_8 * v1)) (y := v1) hx hb dX1_aid_51 ?_
  refine lv_iadd (x := (((r_2 * x_1) * x_1) + (((r_4 + r_6) * x_1) * v1))) (y := ((r_8 * v1) * v1)) hx hb dX1_aid_52 ?_
  refine lv_topi (fun x_10 ex_10 => ?_)
  have hf := bindv_eq hf x_10 ex_10
  refine lv_istore_n (lv' := [(3, .int x_10), (2, .int x_1), (0, .ref (ad 5)), (1, .int v1)]) hx hb dX1_aid_53 rfl hl (by decide) rfl (fun ls hl => ?_)
  refine lv_iload_n hx hb dX1_aid_54 rfl (lv_at hl 0 rfl) ?_
  refine lv_i2l hx hb dX1_aid_55 rfl ?_
  refine lv_aload_n hx hb dX1_aid_56 rfl (lv_at hl 2 rfl) ?_
  refine gfC_5_5 B w kt1_134 dX1_aid_57 ?_
  refine lv_i2l hx hb dX1_aid_60 rfl ?_
  refine lv_lmul (x := (Int32.toInt64 x_10)) (y := (Int32.toInt64 (fi 25))) hx hb dX1_aid_61 ?_
  refine lv_ldc2 (own := RX1) (v := 100) hx hb hown (hts _ kt3_26) dX1_aid_62 ?_
  refine lv_ldiv (x := ((Int32.toInt64 x_10) * (Int32.toInt64 (fi 25)))) (y := 100) hx hb dX1_aid_65 (by decide) ?_
  refine lv_l2i hx hb dX1_aid_66 rfl ?_
  have hf : (Int64.toInt32 (((Int32.toInt64 x_10) * (Int32.toInt64 (fi 25))) / 100)) = r0 := hf
  subst hf
  exact retI B hr hk w dX1_aid_67
def f_X2_measure (fi : Nat → Int32) (fl : Nat → Int64) (ar : Nat → Nat → Int32) (v1 : Int32) : Option ((Nat → Int64)) := bind1 (f_X0_live fi fl ar (fi 22) v1) (fun fl_1 => bindv (vp_updL fl_1 5 (fl_1 2)) (fun fl_3 => bindv (vp_updL fl_3 6 (fl_3 3)) (fun fl_4 => bindv (vp_updL fl_4 7 (fl_4 1)) (fun fl_5 => some fl_5))))
set_option maxHeartbeats 4000000 in
set_option maxRecDepth 100000 in
theorem c_X2_measure (l : Launch) (D : va_G) (ca : Nat → ClassId) (ak av ad : Nat → Nat) (fi : Nat → Int32) (fl : Nat → Int64) (ar : Nat → Nat → Int32) (v1 : Int32) {fl0 : Nat → Int64} (hf : f_X2_measure fi fl ar v1 = some fl0) : MtV l yX2_measure cX2_measure 2 { frames := 3, cells := 0, slots := 0, locals := 74 } (EC D ca ak av) [.ref (ad 12), .int v1] (wC ad ca fi fl ar) (wC ad ca fi fl0 ar) := by
  refine MtV.of (own := RX2) (by decide +kernel) rfl (Nat.le_of_ble_eq_true rfl) ?_
  intro p e s m args below meth c A B hr hk w ls hl
  have hx := B.1.1
  have hb := B.1.2.1
  have hown := B.1.2.2.2.1
  have hts := B.1.2.2.2.2
  have hl : lv_has ls 2 [(0, .ref (ad 12)), (1, .int v1)] := hl
  unfold f_X2_measure at hf
  refine (show ∀ (H : Heap) (locs : List Loc), Wd (EC D ca ak av) A s (wC ad ca fi fl ar) H locs → W p l e ({ frames := 3, cells := 0, slots := 0, locals := 74 } : Room) s m args below meth c H locs 0 0 (MQ below (Qv (EC D ca ak av) A (wC ad ca fi fl0 ar)) args s 0 0 A) (F0 m 0 ls []) from ?_) s.heap [] w
  intro H locs w
  refine lv_aload_n hx hb dX2_measure_0 rfl (lv_at hl 0 rfl) ?_
  refine gfC_12_3 B w kt1_216 dX2_measure_1 ?_
  refine lv_aload_n hx hb dX2_measure_4 rfl (lv_at hl 0 rfl) ?_
  refine gfC_12_1 B w kt1_214 dX2_measure_5 ?_
  refine lv_aload_n hx hb dX2_measure_8 rfl (lv_at hl 0 rfl) ?_
  refine gfC_12_1 B w kt1_214 dX2_measure_9 ?_
  refine gfC_5_2 B w kt1_128 dX2_measure_12 ?_
  refine lv_iload_n hx hb dX2_measure_15 rfl (lv_at hl 1 rfl) ?_
  obtain ⟨fl_1, er_2, hf⟩ := bind1_eq hf
  refine callVV (As := [.ref (ad 5), .int (fi 22), .int v1]) (rest := []) B w (c_X0_live l D ca ak av ad fi fl ar (fi 22) v1 er_2) (gV kt3_78 kt3_40 kt3_41 kt1_6 kt3_42) hdV_X0_live 11 rfl rfl rfl rfl ⟨Nat.le_of_ble_eq_true rfl, Nat.le_of_ble_eq_true rfl⟩ rfl hl.1 rfl (Nat.le_of_ble_eq_true rfl) dX2_measure_16 ⟨Nat.le_of_ble_eq_true rfl, Nat.le_of_ble_eq_true rfl⟩ (fun H locs w => ?_)
  refine lv_aload_n hx hb dX2_measure_19 rfl (lv_at hl 0 rfl) ?_
  refine lv_aload_n hx hb dX2_measure_20 rfl (lv_at hl 0 rfl) ?_
  refine gfC_12_3 B w kt1_216 dX2_measure_21 ?_
  refine gfC_11_2 B w kt1_190 dX2_measure_24 ?_
  refine pfC_12_4 (v := (fl_1 2)) B w kt1_217 dX2_measure_27 (fun H locs fl_3 efl_3 w => ?_)
  have hf := bindv_eq hf fl_3 efl_3
  refine lv_aload_n hx hb dX2_measure_30 rfl (lv_at hl 0 rfl) ?_
  refine lv_aload_n hx hb dX2_measure_31 rfl (lv_at hl 0 rfl) ?_
  refine gfC_12_3 B w kt1_216 dX2_measure_32 ?_
  refine gfC_11_3 B w kt1_192 dX2_measure_35 ?_
  refine pfC_12_5 (v := (fl_3 3)) B w kt1_218 dX2_measure_38 (fun H locs fl_4 efl_4 w => ?_)
  have hf := bindv_eq hf fl_4 efl_4
  refine lv_aload_n hx hb dX2_measure_41 rfl (lv_at hl 0 rfl) ?_
  refine lv_aload_n hx hb dX2_measure_42 rfl (lv_at hl 0 rfl) ?_
  refine gfC_12_3 B w kt1_216 dX2_measure_43 ?_
  refine gfC_11_1 B w kt1_188 dX2_measure_46 ?_
  refine pfC_12_6 (v := (fl_4 1)) B w kt1_219 dX2_measure_49 (fun H locs fl_5 efl_5 w => ?_)
  have hf := bindv_eq hf fl_5 efl_5
  have hf : some fl_5 = some fl0 := hf
  have q0 := so1 hf
  subst q0
  exact retV B hr hk w dX2_measure_52
def f_X2_compare (fi : Nat → Int32) (fl : Nat → Int64) (ar : Nat → Nat → Int32) (v1 : Int32) (v2 : Int32) : Option (Int32 × (Nat → Int64)) := bind1 (f_X0_live fi fl ar v1 v2) (fun fl_1 => if ((lg_cmp (fl_1 2) (fl_1 5)) = 0 : Prop) then (bindv (f_J13_compare_74951 ((fl_1 3) * (fl_1 7)) ((fl_1 6) * (fl_1 1))) (fun r_4 => some (r_4, fl_1))) else (if (0 ≤ (lg_cmp (fl_1 2) (fl_1 5)) : Prop) then (some (1, fl_1)) else (some ((-1), fl_1))))
set_option maxHeartbeats 4000000 in
set_option maxRecDepth 100000 in
theorem c_X2_compare (l : Launch) (D : va_G) (ca : Nat → ClassId) (ak av ad : Nat → Nat) (fi : Nat → Int32) (fl : Nat → Int64) (ar : Nat → Nat → Int32) (v1 : Int32) (v2 : Int32) {r0 : Int32} {fl0 : Nat → Int64} (hf : f_X2_compare fi fl ar v1 v2 = some (r0, fl0)) : MtI l yX2_compare cX2_compare 3 { frames := 3, cells := 0, slots := 0, locals := 74 } (EC D ca ak av) [.ref (ad 12), .int v1, .int v2] (wC ad ca fi fl ar) (wC ad ca fi fl0 ar) r0 := by
  refine MtI.of (own := RX2) (by decide +kernel) rfl (Nat.le_of_ble_eq_true rfl) ?_
  intro p e s m args below meth c A B hr hk w ls hl
  have hx := B.1.1
  have hb := B.1.2.1
  have hown := B.1.2.2.2.1
  have hts := B.1.2.2.2.2
  have hl : lv_has ls 3 [(0, .ref (ad 12)), (1, .int v1), (2, .int v2)] := hl
  unfold f_X2_compare at hf
  refine (show ∀ (H : Heap) (locs : List Loc), Wd (EC D ca ak av) A s (wC ad ca fi fl ar) H locs → W p l e ({ frames := 3, cells := 0, slots := 0, locals := 74 } : Room) s m args below meth c H locs 0 0 (MQ below (Qi (EC D ca ak av) A (wC ad ca fi fl0 ar) r0) args s 0 0 A) (F0 m 0 ls []) from ?_) s.heap [] w
  intro H locs w
  refine lv_aload_n hx hb dX2_compare_0 rfl (lv_at hl 0 rfl) ?_
  refine gfC_12_3 B w kt1_216 dX2_compare_1 ?_
  refine lv_aload_n hx hb dX2_compare_4 rfl (lv_at hl 0 rfl) ?_
  refine gfC_12_1 B w kt1_214 dX2_compare_5 ?_
  refine lv_iload_n hx hb dX2_compare_8 rfl (lv_at hl 1 rfl) ?_
  refine lv_iload_n hx hb dX2_compare_9 rfl (lv_at hl 2 rfl) ?_
  obtain ⟨fl_1, er_2, hf⟩ := bind1_eq hf
  refine callVV (As := [.ref (ad 5), .int v1, .int v2]) (rest := []) B w (c_X0_live l D ca ak av ad fi fl ar v1 v2 er_2) (gV kt3_78 kt3_40 kt3_41 kt1_6 kt3_42) hdV_X0_live 11 rfl rfl rfl rfl ⟨Nat.le_of_ble_eq_true rfl, Nat.le_of_ble_eq_true rfl⟩ rfl hl.1 rfl (Nat.le_of_ble_eq_true rfl) dX2_compare_10 ⟨Nat.le_of_ble_eq_true rfl, Nat.le_of_ble_eq_true rfl⟩ (fun H locs w => ?_)
  refine lv_aload_n hx hb dX2_compare_13 rfl (lv_at hl 0 rfl) ?_
  refine gfC_12_3 B w kt1_216 dX2_compare_14 ?_
  refine gfC_11_2 B w kt1_190 dX2_compare_17 ?_
  refine lv_aload_n hx hb dX2_compare_20 rfl (lv_at hl 0 rfl) ?_
  refine gfC_12_4 B w kt1_217 dX2_compare_21 ?_
  refine W.lcmp hx hb dX2_compare_24 ?_
  refine lv_if_eq (x := (lg_cmp (fl_1 2) (fl_1 5))) (tgt := 49) hx hb dX2_compare_25 (by decide) (fun c_3 => ?_) (fun c_3 => ?_)
  · have hf := if_t hf c_3
    refine lv_aload_n hx hb dX2_compare_49 rfl (lv_at hl 0 rfl) ?_
    refine gfC_12_3 B w kt1_216 dX2_compare_50 ?_
    refine gfC_11_3 B w kt1_192 dX2_compare_53 ?_
    refine lv_aload_n hx hb dX2_compare_56 rfl (lv_at hl 0 rfl) ?_
    refine gfC_12_6 B w kt1_219 dX2_compare_57 ?_
    refine lv_lmul (x := (fl_1 3)) (y := (fl_1 7)) hx hb dX2_compare_60 ?_
    refine lv_aload_n hx hb dX2_compare_61 rfl (lv_at hl 0 rfl) ?_
    refine gfC_12_5 B w kt1_218 dX2_compare_62 ?_
    refine lv_aload_n hx hb dX2_compare_65 rfl (lv_at hl 0 rfl) ?_
    refine gfC_12_3 B w kt1_216 dX2_compare_66 ?_
    refine gfC_11_1 B w kt1_188 dX2_compare_69 ?_
    refine lv_lmul (x := (fl_1 6)) (y := (fl_1 1)) hx hb dX2_compare_72 ?_
    obtain ⟨r_4, er_5⟩ : ∃ y, f_J13_compare_74951 ((fl_1 3) * (fl_1 7)) ((fl_1 6) * (fl_1 1)) = y := ⟨_, rfl⟩
    have hf := bindv_eq hf r_4 er_5.symm
    refine callSI (As := [.long ((fl_1 3) * (fl_1 7)), .long ((fl_1 6) * (fl_1 1))]) (rest := []) B w (c_J13_compare_74951 l _ ((fl_1 3) * (fl_1 7)) ((fl_1 6) * (fl_1 1)) er_5) (gS kt3_83 kt3_84 kt1_17 kt3_85) hdS_J13_compare_74951 rfl rfl ⟨Nat.le_of_ble_eq_true rfl, Nat.le_of_ble_eq_true rfl⟩ rfl hl.1 rfl (Nat.le_of_ble_eq_true rfl) dX2_compare_73 ⟨Nat.le_of_ble_eq_true rfl, Nat.le_of_ble_eq_true rfl⟩ (fun H locs w => ?_)
    have hf : some (r_4, fl_1) = some (r0, fl0) := hf
    obtain ⟨q0, q1⟩ := so2 hf
    subst q0
    subst q1
    exact retI B hr hk w dX2_compare_76
  · have hf := if_f hf c_3
    refine lv_aload_n hx hb dX2_compare_28 rfl (lv_at hl 0 rfl) ?_
    refine gfC_12_3 B w kt1_216 dX2_compare_29 ?_
    refine gfC_11_2 B w kt1_190 dX2_compare_32 ?_
    refine lv_aload_n hx hb dX2_compare_35 rfl (lv_at hl 0 rfl) ?_
    refine gfC_12_4 B w kt1_217 dX2_compare_36 ?_
    refine W.lcmp hx hb dX2_compare_39 ?_
    refine lv_if_ge (x := (lg_cmp (fl_1 2) (fl_1 5))) (tgt := 47) hx hb dX2_compare_40 (by decide) (fun c_6 => ?_) (fun c_6 => ?_)
    · have hf := if_t hf c_6
      refine lv_iconst (v := 1) hx hb dX2_compare_47 (by decide) ?_
      have hf : some (1, fl_1) = some (r0, fl0) := hf
      obtain ⟨q0, q1⟩ := so2 hf
      subst q0
      subst q1
      exact retI B hr hk w dX2_compare_48
    · have hf := if_f hf c_6
      refine lv_iconst (v := (-1)) hx hb dX2_compare_43 (by decide) ?_
      refine lv_goto (tgt := 48) hx hb dX2_compare_44 (by decide) ?_
      have hf : some ((-1), fl_1) = some (r0, fl0) := hf
      obtain ⟨q0, q1⟩ := so2 hf
      subst q0
      subst q1
      exact retI B hr hk w dX2_compare_48
def f_X7_go_100   : Nat → (Int32) → (Int32) → (Nat → Int32) → (Nat → Nat → Int32) → Option ((Nat → Int32) × (Nat → Nat → Int32))
  | 0, _, _, _, _ => none
  | n + 1, v4, v5, fi, ar => if (v4 ≤ v5 : Prop) then (some (fi, ar)) else (gd v5 1001 (gd (ar 9 (Int32.toNatClampNeg v5)) 1001 (bindv (updA ar 10 (upd (ar 10) (Int32.toNatClampNeg (ar 9 (Int32.toNatClampNeg v5))) 0)) (fun ar_4 => bindv (v5 + 1 : Int32) (fun x_5 => (f_X7_go_100 n) v4 x_5 fi ar_4)))))
def f_X7_go_83   (v4 : Int32) (t1 : Int32) (fi : Nat → Int32) (ar : Nat → Nat → Int32) : Option ((Nat → Int32) × (Nat → Nat → Int32)) := bindv (upd fi 28 t1) (fun fi_6 => bindv (upd fi_6 29 (v4 - (fi_6 28))) (fun fi_7 => f_X7_go_100  5000 v4 0 fi_7 ar))
def f_X7_go_57   (v3 : Int32) (v4 : Int32) (fi : Nat → Int32) (ar : Nat → Nat → Int32) : Option ((Nat → Int32) × (Nat → Nat → Int32)) := bindv (upd fi 30 v3) (fun fi_8 => bindv (f_X8_isShare v3) (fun r_9 => if (r_9 = 0 : Prop) then (f_X7_go_83  v4 v4 fi_8 ar) else (gd v3 1001 (f_X7_go_83  v4 ((ar 10 (Int32.toNatClampNeg v3)) - 1) fi_8 ar))))
def f_X7_go_5   : Nat → (Int32) → (Int32) → (Nat → Int32) → (Nat → Nat → Int32) → Option ((Nat → Int32) × (Nat → Nat → Int32))
  | 0, _, _, _, _ => none
  | n + 1, v3, v4, fi, ar => if (1000 < v4 : Prop) then (f_X7_go_57  v3 v4 fi ar) else (bindv (f_X8_isShare v3) (fun r_14 => if (r_14 = 0 : Prop) then (f_X7_go_57  v3 v4 fi ar) else (gd v3 1001 (if ((ar 10 (Int32.toNatClampNeg v3)) = 0 : Prop) then (gd v4 1001 (bindv (updA ar 9 (upd (ar 9) (Int32.toNatClampNeg v4) v3)) (fun ar_20 => bindv (v4 + 1 : Int32) (fun x_21 => gd v3 1001 (bindv (updA ar_20 10 (upd (ar_20 10) (Int32.toNatClampNeg v3) x_21)) (fun ar_23 => bindv (f_X1_next fi ar_23 v3) (fun r_24 => (f_X7_go_5 n) r_24 x_21 fi ar_23))))))) else (f_X7_go_57  v3 v4 fi ar)))))
def f_X7_go (fi : Nat → Int32) (ar : Nat → Nat → Int32) (v2 : Int32) : Option ((Nat → Int32) × (Nat → Nat → Int32)) := f_X7_go_5  5000 v2 0 fi ar
set_option maxHeartbeats 4000000 in
set_option maxRecDepth 100000 in
theorem c_X7_go (l : Launch) (D : va_G) (ca : Nat → ClassId) (ak av ad : Nat → Nat) (fi : Nat → Int32) (fl : Nat → Int64) (ar : Nat → Nat → Int32) (v2 : Int32) {fi0 : Nat → Int32} {ar0 : Nat → Nat → Int32} (hf : f_X7_go fi ar v2 = some (fi0, ar0)) : MtV l yX7_go cX7_go 6 { frames := 2, cells := 0, slots := 0, locals := 42 } (EC D ca ak av) [.ref (ad 8), .ref (ad 5), .int v2] (wC ad ca fi fl ar) (wC ad ca fi0 fl ar0) := by
  refine MtV.of (own := RX7) (by decide +kernel) rfl (Nat.le_of_ble_eq_true rfl) ?_
  intro p e s m args below meth c A B hr hk w ls hl
  have hx := B.1.1
  have hb := B.1.2.1
  have hown := B.1.2.2.2.1
  have hts := B.1.2.2.2.2
  have hl : lv_has ls 6 [(0, .ref (ad 8)), (1, .ref (ad 5)), (2, .int v2)] := hl
  have J100 : ∀ (n : Nat) (v4 : Int32) (v5 : Int32) (fi : Nat → Int32) (ar : Nat → Nat → Int32) (H : Heap) (locs : List Loc) (ls : Array Slot), Wd (EC D ca ak av) A s (wC ad ca fi fl ar) H locs → lv_has ls 6 [(0, .ref (ad 8)), (4, .int v4), (5, .int v5)] → f_X7_go_100  n v4 v5 fi ar = some (fi0, ar0) → W p l e ({ frames := 2, cells := 0, slots := 0, locals := 42 } : Room) s m args below meth c H locs 0 0 (MQ below (Qv (EC D ca ak av) A (wC ad ca fi0 fl ar0)) args s 0 0 A) (F0 m 100 ls []) := by
    intro  n
    induction n with
    | zero =>
      intro v4 v5 fi ar H locs ls w hl hf
      cases hf
    | succ n ih =>
      intro v4 v5 fi ar H locs ls w hl hf
      rw [f_X7_go_100] at hf
      refine lv_iload hx hb dX7_go_100 (lv_at hl 2 rfl) ?_
      refine lv_iload hx hb dX7_go_102 (lv_at hl 1 rfl) ?_
      refine lv_icmp_ge (x := v5) (y := v4) (tgt := 126) hx hb dX7_go_104 (by decide) (fun c_1 => ?_) (fun c_1 => ?_)
      · have hf := if_t hf c_1
        have hf : some (fi, ar) = some (fi0, ar0) := hf
        obtain ⟨q0, q1⟩ := so2 hf
        subst q0
        subst q1
        exact retV B hr hk w dX7_go_126
      · have hf := if_f hf c_1
        refine lv_aload_n hx hb dX7_go_107 rfl (lv_at hl 0 rfl) ?_
        refine gfC_8_1 B w kt1_162 dX7_go_108 ?_
        refine lv_aload_n hx hb dX7_go_111 rfl (lv_at hl 0 rfl) ?_
        refine gfC_8_0 B w kt1_161 dX7_go_112 ?_
        refine lv_iload hx hb dX7_go_115 (lv_at hl 2 rfl) ?_
        obtain ⟨hi_2, hf⟩ := gd_eq hf
        refine alC_9 B w hi_2 dX7_go_117 ?_
        refine lv_iconst (v := 0) hx hb dX7_go_118 (by decide) ?_
        obtain ⟨hi_3, hf⟩ := gd_eq hf
        refine asC_10 (x := 0) B w hi_3 dX7_go_119 (fun H locs ar_4 ear_4 w => ?_)
        have hf := bindv_eq hf ar_4 ear_4
        obtain ⟨x_5, ex_5⟩ : ∃ y : Int32, y = v5 + 1 := ⟨_, rfl⟩
        have hf := bindv_eq hf x_5 ex_5
        refine lv_iinc (v := x_5) (lv' := [(5, .int x_5), (0, .ref (ad 8)), (4, .int v4)]) hx hb dX7_go_120 hl (k := 2) rfl (by rw [ex_5]; rfl) (by decide) rfl (fun ls hl => ?_)
        refine lv_goto (tgt := 100) hx hb dX7_go_123 (by decide) ?_
        exact ih v4 x_5 fi ar_4 H locs ls w (lv_sub hl [1, 2, 0] rfl) hf
  have J83 : ∀ (v4 : Int32) (t1 : Int32) (fi : Nat → Int32) (ar : Nat → Nat → Int32) (H : Heap) (locs : List Loc) (ls : Array Slot), Wd (EC D ca ak av) A s (wC ad ca fi fl ar) H locs → lv_has ls 6 [(0, .ref (ad 8)), (4, .int v4)] → f_X7_go_83  v4 t1 fi ar = some (fi0, ar0) → W p l e ({ frames := 2, cells := 0, slots := 0, locals := 42 } : Room) s m args below meth c H locs 0 0 (MQ below (Qv (EC D ca ak av) A (wC ad ca fi0 fl ar0)) args s 0 0 A) (F0 m 83 ls [.int t1, .ref (ad 8)]) := by
    intro  v4 t1 fi ar H locs ls w hl hf
    unfold f_X7_go_83 at hf
    refine pfC_8_2 (v := t1) B w kt1_163 dX7_go_83 (fun H locs fi_6 efi_6 w => ?_)
    have hf := bindv_eq hf fi_6 efi_6
    refine lv_aload_n hx hb dX7_go_86 rfl (lv_at hl 0 rfl) ?_
    refine lv_iload hx hb dX7_go_87 (lv_at hl 1 rfl) ?_
    refine lv_aload_n hx hb dX7_go_89 rfl (lv_at hl 0 rfl) ?_
    refine gfC_8_2 B w kt1_163 dX7_go_90 ?_
    refine lv_isub (x := v4) (y := (fi_6 28)) hx hb dX7_go_93 ?_
    refine pfC_8_3 (v := (v4 - (fi_6 28))) B w kt1_165 dX7_go_94 (fun H locs fi_7 efi_7 w => ?_)
    have hf := bindv_eq hf fi_7 efi_7
    refine lv_iconst (v := 0) hx hb dX7_go_97 (by decide) ?_
    refine lv_istore (lv' := [(5, .int 0), (0, .ref (ad 8)), (4, .int v4)]) hx hb dX7_go_98 hl (by decide) rfl (fun ls hl => ?_)
    exact J100  5000 v4 0 fi_7 ar H locs ls w (lv_sub hl [1, 2, 0] rfl) hf
  have J57 : ∀ (v3 : Int32) (v4 : Int32) (fi : Nat → Int32) (ar : Nat → Nat → Int32) (H : Heap) (locs : List Loc) (ls : Array Slot), Wd (EC D ca ak av) A s (wC ad ca fi fl ar) H locs → lv_has ls 6 [(0, .ref (ad 8)), (3, .int v3), (4, .int v4)] → f_X7_go_57  v3 v4 fi ar = some (fi0, ar0) → W p l e ({ frames := 2, cells := 0, slots := 0, locals := 42 } : Room) s m args below meth c H locs 0 0 (MQ below (Qv (EC D ca ak av) A (wC ad ca fi0 fl ar0)) args s 0 0 A) (F0 m 57 ls []) := by
    intro  v3 v4 fi ar H locs ls w hl hf
    unfold f_X7_go_57 at hf
    refine lv_aload_n hx hb dX7_go_57 rfl (lv_at hl 0 rfl) ?_
    refine lv_iload_n hx hb dX7_go_58 rfl (lv_at hl 1 rfl) ?_
    refine pfC_8_4 (v := v3) B w kt1_167 dX7_go_59 (fun H locs fi_8 efi_8 w => ?_)
    have hf := bindv_eq hf fi_8 efi_8
    refine lv_aload_n hx hb dX7_go_62 rfl (lv_at hl 0 rfl) ?_
    refine lv_iload_n hx hb dX7_go_63 rfl (lv_at hl 1 rfl) ?_
    obtain ⟨r_9, er_10⟩ : ∃ y, f_X8_isShare v3 = y := ⟨_, rfl⟩
    have hf := bindv_eq hf r_9 er_10.symm
    refine callNZ (As := [.int v3]) (rest := [.ref (ad 8)]) B w (c_X8_isShare l _ v3 er_10) (gN kt2_231) (by decide) kt1_1 kt2_230 hdS_X8_isShare rfl rfl ⟨Nat.le_of_ble_eq_true rfl, Nat.le_of_ble_eq_true rfl⟩ rfl hl.1 rfl (Nat.le_of_ble_eq_true rfl) dX7_go_64 ⟨Nat.le_of_ble_eq_true rfl, Nat.le_of_ble_eq_true rfl⟩ (fun H locs w hzr_9 => ?_)
    refine lv_if_eq (x := r_9) (tgt := 81) hx hb dX7_go_67 (by decide) (fun c_11 => ?_) (fun c_11 => ?_)
    · have hf := if_t hf c_11
      refine lv_iload hx hb dX7_go_81 (lv_at hl 2 rfl) ?_
      exact J83  v4 v4 fi_8 ar H locs ls w (lv_sub hl [0, 2] rfl) hf
    · have hf := if_f hf c_11
      refine lv_aload_n hx hb dX7_go_70 rfl (lv_at hl 0 rfl) ?_
      refine gfC_8_1 B w kt1_162 dX7_go_71 ?_
      refine lv_iload_n hx hb dX7_go_74 rfl (lv_at hl 1 rfl) ?_
      obtain ⟨hi_12, hf⟩ := gd_eq hf
      refine alC_10 B w hi_12 dX7_go_75 ?_
      refine lv_iconst (v := 1) hx hb dX7_go_76 (by decide) ?_
      refine lv_isub (x := (ar 10 (Int32.toNatClampNeg v3))) (y := 1) hx hb dX7_go_77 ?_
      refine lv_goto (tgt := 83) hx hb dX7_go_78 (by decide) ?_
      exact J83  v4 ((ar 10 (Int32.toNatClampNeg v3)) - 1) fi_8 ar H locs ls w (lv_sub hl [0, 2] rfl) hf
  have J5 : ∀ (n : Nat) (v3 : Int32) (v4 : Int32) (fi : Nat → Int32) (ar : Nat → Nat → Int32) (H : Heap) (locs : List Loc) (ls : Array Slot), Wd (EC D ca ak av) A s (wC ad ca fi fl ar) H locs → lv_has ls 6 [(0, .ref (ad 8)), (1, .ref (ad 5)), (3, .int v3), (4, .int v4)] → f_X7_go_5  n v3 v4 fi ar = some (fi0, ar0) → W p l e ({ frames := 2, cells := 0, slots := 0, locals := 42 } : Room) s m args below meth c H locs 0 0 (MQ below (Qv (EC D ca ak av) A (wC ad ca fi0 fl ar0)) args s 0 0 A) (F0 m 5 ls []) := by
    intro  n
    induction n with
    | zero =>
      intro v3 v4 fi ar H locs ls w hl hf
      cases hf
    | succ n ih =>
      intro v3 v4 fi ar H locs ls w hl hf
      rw [f_X7_go_5] at hf
      refine lv_iload hx hb dX7_go_5 (lv_at hl 3 rfl) ?_
      refine lv_sipush (v := 1000) hx hb dX7_go_7 (by decide) ?_
      refine lv_icmp_gt (x := v4) (y := 1000) (tgt := 57) hx hb dX7_go_10 (by decide) (fun c_13 => ?_) (fun c_13 => ?_)
      · have hf := if_t hf c_13
        exact J57  v3 v4 fi ar H locs ls w (lv_sub hl [0, 2, 3] rfl) hf
      · have hf := if_f hf c_13
        refine lv_iload_n hx hb dX7_go_13 rfl (lv_at hl 2 rfl) ?_
        obtain ⟨r_14, er_15⟩ : ∃ y, f_X8_isShare v3 = y := ⟨_, rfl⟩
        have hf := bindv_eq hf r_14 er_15.symm
        refine callNZ (As := [.int v3]) (rest := []) B w (c_X8_isShare l _ v3 er_15) (gN kt2_231) (by decide) kt1_1 kt2_230 hdS_X8_isShare rfl rfl ⟨Nat.le_of_ble_eq_true rfl, Nat.le_of_ble_eq_true rfl⟩ rfl hl.1 rfl (Nat.le_of_ble_eq_true rfl) dX7_go_14 ⟨Nat.le_of_ble_eq_true rfl, Nat.le_of_ble_eq_true rfl⟩ (fun H locs w hzr_14 => ?_)
        refine lv_if_eq (x := r_14) (tgt := 57) hx hb dX7_go_17 (by decide) (fun c_16 => ?_) (fun c_16 => ?_)
        · have hf := if_t hf c_16
          exact J57  v3 v4 fi ar H locs ls w (lv_sub hl [0, 2, 3] rfl) hf
        · have hf := if_f hf c_16
          refine lv_aload_n hx hb dX7_go_20 rfl (lv_at hl 0 rfl) ?_
          refine gfC_8_1 B w kt1_162 dX7_go_21 ?_
          refine lv_iload_n hx hb dX7_go_24 rfl (lv_at hl 2 rfl) ?_
          obtain ⟨hi_17, hf⟩ := gd_eq hf
          refine alC_10 B w hi_17 dX7_go_25 ?_
          refine lv_if_ne (x := (ar 10 (Int32.toNatClampNeg v3))) (tgt := 57) hx hb dX7_go_26 (by decide) (fun c_18 => ?_) (fun c_18 => ?_)
          · have hf := if_f hf c_18
            exact J57  v3 v4 fi ar H locs ls w (lv_sub hl [0, 2, 3] rfl) hf
          · have hf := if_t hf c_18
            refine lv_aload_n hx hb dX7_go_29 rfl (lv_at hl 0 rfl) ?_
            refine gfC_8_0 B w kt1_161 dX7_go_30 ?_
            refine lv_iload hx hb dX7_go_33 (lv_at hl 3 rfl) ?_
            refine lv_iload_n hx hb dX7_go_35 rfl (lv_at hl 2 rfl) ?_
            obtain ⟨hi_19, hf⟩ := gd_eq hf
            refine asC_9 (x := v3) B w hi_19 dX7_go_36 (fun H locs ar_20 ear_20 w => ?_)
            have hf := bindv_eq hf ar_20 ear_20
            obtain ⟨x_21, ex_21⟩ : ∃ y : Int32, y = v4 + 1 := ⟨_, rfl⟩
            have hf := bindv_eq hf x_21 ex_21
            refine lv_iinc (v := x_21) (lv' := [(4, .int x_21), (0, .ref (ad 8)), (1, .ref (ad 5)), (3, .int v3)]) hx hb dX7_go_37 hl (k := 3) rfl (by rw [ex_21]; rfl) (by decide) rfl (fun ls hl => ?_)
            refine lv_aload_n hx hb dX7_go_40 rfl (lv_at hl 1 rfl) ?_
            refine gfC_8_1 B w kt1_162 dX7_go_41 ?_
            refine lv_iload_n hx hb dX7_go_44 rfl (lv_at hl 3 rfl) ?_
            refine lv_iload hx hb dX7_go_45 (lv_at hl 0 rfl) ?_
            obtain ⟨hi_22, hf⟩ := gd_eq hf
            refine asC_10 (x := x_21) B w hi_22 dX7_go_47 (fun H locs ar_23 ear_23 w => ?_)
            have hf := bindv_eq hf ar_23 ear_23
            refine lv_aload_n hx hb dX7_go_48 rfl (lv_at hl 2 rfl) ?_
            refine lv_iload_n hx hb dX7_go_49 rfl (lv_at hl 3 rfl) ?_
            obtain ⟨r_24, er_25⟩ : ∃ y, f_X1_next fi ar_23 v3 = y := ⟨_, rfl⟩
            have hf := bindv_eq hf r_24 er_25.symm
            refine callVI (As := [.int v3]) (rest := []) B w (c_X1_next l D ca ak av ad fi fl ar_23 v3 er_25) (gV kt3_13 kt3_0 kt3_1 kt1_4 kt3_2) hdV_X1_next 5 rfl rfl rfl rfl ⟨Nat.le_of_ble_eq_true rfl, Nat.le_of_ble_eq_true rfl⟩ rfl hl.1 rfl (Nat.le_of_ble_eq_true rfl) dX7_go_50 ⟨Nat.le_of_ble_eq_true rfl, Nat.le_of_ble_eq_true rfl⟩ (fun H locs w => ?_)
            refine lv_istore_n (lv' := [(3, .int r_24), (4, .int x_21), (0, .ref (ad 8)), (1, .ref (ad 5))]) hx hb dX7_go_53 rfl hl (by decide) rfl (fun ls hl => ?_)
            refine lv_goto (tgt := 5) hx hb dX7_go_54 (by decide) ?_
            exact ih r_24 x_21 fi ar_23 H locs ls w (lv_sub hl [2, 3, 0, 1] rfl) hf
  unfold f_X7_go at hf
  refine (show ∀ (H : Heap) (locs : List Loc), Wd (EC D ca ak av) A s (wC ad ca fi fl ar) H locs → W p l e ({ frames := 2, cells := 0, slots := 0, locals := 42 } : Room) s m args below meth c H locs 0 0 (MQ below (Qv (EC D ca ak av) A (wC ad ca fi0 fl ar0)) args s 0 0 A) (F0 m 0 ls []) from ?_) s.heap [] w
  intro H locs w
  refine lv_iload_n hx hb dX7_go_0 rfl (lv_at hl 2 rfl) ?_
  refine lv_istore_n (lv' := [(3, .int v2), (0, .ref (ad 8)), (1, .ref (ad 5)), (2, .int v2)]) hx hb dX7_go_1 rfl hl (by decide) rfl (fun ls hl => ?_)
  refine lv_iconst (v := 0) hx hb dX7_go_2 (by decide) ?_
  refine lv_istore (lv' := [(4, .int 0), (3, .int v2), (0, .ref (ad 8)), (1, .ref (ad 5)), (2, .int v2)]) hx hb dX7_go_3 hl (by decide) rfl (fun ls hl => ?_)
  exact J5  5000 v2 0 fi ar H locs ls w (lv_sub hl [2, 3, 1, 0] rfl) hf
def f_X7_rest (fi : Nat → Int32) : Int32 := if ((fi 29) = 1 : Prop) then ((fi 30)) else ((-1))
set_option maxHeartbeats 4000000 in
set_option maxRecDepth 100000 in
theorem c_X7_rest (l : Launch) (D : va_G) (ca : Nat → ClassId) (ak av ad : Nat → Nat) (fi : Nat → Int32) (fl : Nat → Int64) (ar : Nat → Nat → Int32) {r0 : Int32} (hf : f_X7_rest fi = r0) : MtI l yX7_rest cX7_rest 1 { frames := 0, cells := 0, slots := 0, locals := 0 } (EC D ca ak av) [.ref (ad 8)] (wC ad ca fi fl ar) (wC ad ca fi fl ar) r0 := by
  refine MtI.of (own := RX7) (by decide +kernel) rfl (Nat.le_of_ble_eq_true rfl) ?_
  intro p e s m args below meth c A B hr hk w ls hl
  have hx := B.1.1
  have hb := B.1.2.1
  have hown := B.1.2.2.2.1
  have hts := B.1.2.2.2.2
  have hl : lv_has ls 1 [(0, .ref (ad 8))] := hl
  unfold f_X7_rest at hf
  refine (show ∀ (H : Heap) (locs : List Loc), Wd (EC D ca ak av) A s (wC ad ca fi fl ar) H locs → W p l e ({ frames := 0, cells := 0, slots := 0, locals := 0 } : Room) s m args below meth c H locs 0 0 (MQ below (Qi (EC D ca ak av) A (wC ad ca fi fl ar) r0) args s 0 0 A) (F0 m 0 ls []) from ?_) s.heap [] w
  intro H locs w
  refine lv_aload_n hx hb dX7_rest_0 rfl (lv_at hl 0 rfl) ?_
  refine gfC_8_3 B w kt1_165 dX7_rest_1 ?_
  refine lv_iconst (v := 1) hx hb dX7_rest_4 (by decide) ?_
  refine lv_icmp_ne (x := (fi 29)) (y := 1) (tgt := 15) hx hb dX7_rest_5 (by decide) (fun c_1 => ?_) (fun c_1 => ?_)
  · have hf := if_f hf c_1
    refine lv_iconst (v := (-1)) hx hb dX7_rest_15 (by decide) ?_
    have hf : (-1) = r0 := hf
    subst hf
    exact retI B hr hk w dX7_rest_16
  · have hf := if_t hf c_1
    refine lv_aload_n hx hb dX7_rest_8 rfl (lv_at hl 0 rfl) ?_
    refine gfC_8_4 B w kt1_167 dX7_rest_9 ?_
    refine lv_goto (tgt := 16) hx hb dX7_rest_12 (by decide) ?_
    have hf : (fi 30) = r0 := hf
    subst hf
    exact retI B hr hk w dX7_rest_16
def f_X2_verdict_85  (k50 : Int32 → Int32 → (Nat → Int32) → (Nat → Int64) → (Nat → Nat → Int32) → Option (Int32 × (Nat → Int32) × (Nat → Int64) × (Nat → Nat → Int32))) (v3 : Int32) (v4 : Int32) (fi : Nat → Int32) (fl : Nat → Int64) (ar : Nat → Nat → Int32) : Option (Int32 × (Nat → Int32) × (Nat → Int64) × (Nat → Nat → Int32)) := bindv (v4 + 1 : Int32) (fun x_1 => k50 v3 x_1 fi fl ar)
def f_X2_verdict_50   : Nat → (Int32) → (Int32) → (Nat → Int32) → (Nat → Int64) → (Nat → Nat → Int32) → Option (Int32 × (Nat → Int32) × (Nat → Int64) × (Nat → Nat → Int32))
  | 0, _, _, _, _, _ => none
  | n + 1, v3, v4, fi, fl, ar => if (16 ≤ v4 : Prop) then (some (1, fi, fl, ar)) else (if (v4 = (fi 22) : Prop) then (f_X2_verdict_85 (f_X2_verdict_50 n) v3 v4 fi fl ar) else (bind2 (f_X2_compare fi fl ar v4 v3) (fun r_4 fl_5 => if (r_4 ≤ 0 : Prop) then (f_X2_verdict_85 (f_X2_verdict_50 n) v3 v4 fi fl_5 ar) else (some (((-2) - v4), fi, fl_5, ar)))))
def f_X2_verdict (fi : Nat → Int32) (fl : Nat → Int64) (ar : Nat → Nat → Int32) (v1 : Int32) (v2 : Int32) : Option (Int32 × (Nat → Int32) × (Nat → Int64) × (Nat → Nat → Int32)) := bind2 (f_X1_live fi ar v1 v2) (fun fi_8 ar_9 => bind2 (f_X7_go fi_8 ar_9 500) (fun fi_11 ar_12 => bindv (f_X7_rest fi_11) (fun r_14 => if (r_14 = (-1) : Prop) then (some (0, fi_11, fl, ar_12)) else (bind1 (f_X2_measure fi_11 fl ar_12 r_14) (fun fl_17 => f_X2_verdict_50  5000 r_14 0 fi_11 fl_17 ar_12)))))
set_option maxHeartbeats 4000000 in
set_option maxRecDepth 100000 in
theorem c_X2_verdict (l : Launch) (D : va_G) (ca : Nat → ClassId) (ak av ad : Nat → Nat) (fi : Nat → Int32) (fl : Nat → Int64) (ar : Nat → Nat → Int32) (v1 : Int32) (v2 : Int32) {r0 : Int32} {fi0 : Nat → Int32} {fl0 : Nat → Int64} {ar0 : Nat → Nat → Int32} (hf : f_X2_verdict fi fl ar v1 v2 = some (r0, fi0, fl0, ar0)) : MtI l yX2_verdict cX2_verdict 5 { frames := 4, cells := 0, slots := 0, locals := 96 } (EC D ca ak av) [.ref (ad 12), .int v1, .int v2] (wC ad ca fi fl ar) (wC ad ca fi0 fl0 ar0) r0 := by
  refine MtI.of (own := RX2) (by decide +kernel) rfl (Nat.le_of_ble_eq_true rfl) ?_
  intro p e s m args below meth c A B hr hk w ls hl
  have hx := B.1.1
  have hb := B.1.2.1
  have hown := B.1.2.2.2.1
  have hts := B.1.2.2.2.2
  have hl : lv_has ls 5 [(0, .ref (ad 12)), (1, .int v1), (2, .int v2)] := hl
  have J85 : ∀ (k50 : Int32 → Int32 → (Nat → Int32) → (Nat → Int64) → (Nat → Nat → Int32) → Option (Int32 × (Nat → Int32) × (Nat → Int64) × (Nat → Nat → Int32))) (hk50 : ∀ (v3 : Int32) (v4 : Int32) (fi : Nat → Int32) (fl : Nat → Int64) (ar : Nat → Nat → Int32) (H : Heap) (locs : List Loc) (ls : Array Slot), Wd (EC D ca ak av) A s (wC ad ca fi fl ar) H locs → lv_has ls 5 [(0, .ref (ad 12)), (3, .int v3), (4, .int v4)] → k50 v3 v4 fi fl ar = some (r0, fi0, fl0, ar0) → W p l e ({ frames := 4, cells := 0, slots := 0, locals := 96 } : Room) s m args below meth c H locs 0 0 (MQ below (Qi (EC D ca ak av) A (wC ad ca fi0 fl0 ar0) r0) args s 0 0 A) (F0 m 50 ls [])) (v3 : Int32) (v4 : Int32) (fi : Nat → Int32) (fl : Nat → Int64) (ar : Nat → Nat → Int32) (H : Heap) (locs : List Loc) (ls : Array Slot), Wd (EC D ca ak av) A s (wC ad ca fi fl ar) H locs → lv_has ls 5 [(0, .ref (ad 12)), (3, .int v3), (4, .int v4)] → f_X2_verdict_85 k50 v3 v4 fi fl ar = some (r0, fi0, fl0, ar0) → W p l e ({ frames := 4, cells := 0, slots := 0, locals := 96 } : Room) s m args below meth c H locs 0 0 (MQ below (Qi (EC D ca ak av) A (wC ad ca fi0 fl0 ar0) r0) args s 0 0 A) (F0 m 85 ls []) := by
    intro k50 hk50 v3 v4 fi fl ar H locs ls w hl hf
    unfold f_X2_verdict_85 at hf
    obtain ⟨x_1, ex_1⟩ : ∃ y : Int32, y = v4 + 1 := ⟨_, rfl⟩
    have hf := bindv_eq hf x_1 ex_1
    refine lv_iinc (v := x_1) (lv' := [(4, .int x_1), (0, .ref (ad 12)), (3, .int v3)]) hx hb dX2_verdict_85 hl (k := 2) rfl (by rw [ex_1]; rfl) (by decide) rfl (fun ls hl => ?_)
    refine lv_goto (tgt := 50) hx hb dX2_verdict_88 (by decide) ?_
    exact hk50 v3 x_1 fi fl ar H locs ls w (lv_sub hl [1, 2, 0] rfl) hf
  have J50 : ∀ (n : Nat) (v3 : Int32) (v4 : Int32) (fi : Nat → Int32) (fl : Nat → Int64) (ar : Nat → Nat → Int32) (H : Heap) (locs : List Loc) (ls : Array Slot), Wd (EC D ca ak av) A s (wC ad ca fi fl ar) H locs → lv_has ls 5 [(0, .ref (ad 12)), (3, .int v3), (4, .int v4)] → f_X2_verdict_50  n v3 v4 fi fl ar = some (r0, fi0, fl0, ar0) → W p l e ({ frames := 4, cells := 0, slots := 0, locals := 96 } : Room) s m args below meth c H locs 0 0 (MQ below (Qi (EC D ca ak av) A (wC ad ca fi0 fl0 ar0) r0) args s 0 0 A) (F0 m 50 ls []) := by
    intro  n
    induction n with
    | zero =>
      intro v3 v4 fi fl ar H locs ls w hl hf
      cases hf
    | succ n ih =>
      intro v3 v4 fi fl ar H locs ls w hl hf
      rw [f_X2_verdict_50] at hf
      refine lv_iload hx hb dX2_verdict_50 (lv_at hl 2 rfl) ?_
      refine lv_bipush (v := 16) hx hb dX2_verdict_52 (by decide) ?_
      refine lv_icmp_ge (x := v4) (y := 16) (tgt := 91) hx hb dX2_verdict_54 (by decide) (fun c_2 => ?_) (fun c_2 => ?_)
      · have hf := if_t hf c_2
        refine lv_iconst (v := 1) hx hb dX2_verdict_91 (by decide) ?_
        have hf : some (1, fi, fl, ar) = some (r0, fi0, fl0, ar0) := hf
        obtain ⟨q0, q1, q2, q3⟩ := so4 hf
        subst q0
        subst q1
        subst q2
        subst q3
        exact retI B hr hk w dX2_verdict_92
      · have hf := if_f hf c_2
        refine lv_iload hx hb dX2_verdict_57 (lv_at hl 2 rfl) ?_
        refine lv_aload_n hx hb dX2_verdict_59 rfl (lv_at hl 0 rfl) ?_
        refine gfC_12_1 B w kt1_214 dX2_verdict_60 ?_
        refine gfC_5_2 B w kt1_128 dX2_verdict_63 ?_
        refine lv_icmp_eq (x := v4) (y := (fi 22)) (tgt := 85) hx hb dX2_verdict_66 (by decide) (fun c_3 => ?_) (fun c_3 => ?_)
        · have hf := if_t hf c_3
          exact J85 _ ih v3 v4 fi fl ar H locs ls w (lv_sub hl [0, 1, 2] rfl) hf
        · have hf := if_f hf c_3
          refine lv_aload_n hx hb dX2_verdict_69 rfl (lv_at hl 0 rfl) ?_
          refine lv_iload hx hb dX2_verdict_70 (lv_at hl 2 rfl) ?_
          refine lv_iload_n hx hb dX2_verdict_72 rfl (lv_at hl 1 rfl) ?_
          obtain ⟨r_4, fl_5, er_6, hf⟩ := bind2_eq hf
          refine callVI (As := [.int v4, .int v3]) (rest := []) B w (c_X2_compare l D ca ak av ad fi fl ar v4 v3 er_6) (gV kt3_98 kt3_80 kt3_81 kt1_7 kt3_82) hdV_X2_compare 12 rfl rfl rfl rfl ⟨Nat.le_of_ble_eq_true rfl, Nat.le_of_ble_eq_true rfl⟩ rfl hl.1 rfl (Nat.le_of_ble_eq_true rfl) dX2_verdict_73 ⟨Nat.le_of_ble_eq_true rfl, Nat.le_of_ble_eq_true rfl⟩ (fun H locs w => ?_)
          refine lv_if_le (x := r_4) (tgt := 85) hx hb dX2_verdict_76 (by decide) (fun c_7 => ?_) (fun c_7 => ?_)
          · have hf := if_t hf c_7
            exact J85 _ ih v3 v4 fi fl_5 ar H locs ls w (lv_sub hl [0, 1, 2] rfl) hf
          · have hf := if_f hf c_7
            refine lv_bipush (v := (-2)) hx hb dX2_verdict_79 (by decide) ?_
            refine lv_iload hx hb dX2_verdict_81 (lv_at hl 2 rfl) ?_
            refine lv_isub (x := (-2)) (y := v4) hx hb dX2_verdict_83 ?_
            have hf : some (((-2) - v4), fi, fl_5, ar) = some (r0, fi0, fl0, ar0) := hf
            obtain ⟨q0, q1, q2, q3⟩ := so4 hf
            subst q0
            subst q1
            subst q2
            subst q3
            exact retI B hr hk w dX2_verdict_84
  unfold f_X2_verdict at hf
  refine (show ∀ (H : Heap) (locs : List Loc), Wd (EC D ca ak av) A s (wC ad ca fi fl ar) H locs → W p l e ({ frames := 4, cells := 0, slots := 0, locals := 96 } : Room) s m args below meth c H locs 0 0 (MQ below (Qi (EC D ca ak av) A (wC ad ca fi0 fl0 ar0) r0) args s 0 0 A) (F0 m 0 ls []) from ?_) s.heap [] w
  intro H locs w
  refine lv_aload_n hx hb dX2_verdict_0 rfl (lv_at hl 0 rfl) ?_
  refine gfC_12_1 B w kt1_214 dX2_verdict_1 ?_
  refine lv_aload_n hx hb dX2_verdict_4 rfl (lv_at hl 0 rfl) ?_
  refine gfC_12_0 B w kt1_212 dX2_verdict_5 ?_
  refine lv_iload_n hx hb dX2_verdict_8 rfl (lv_at hl 1 rfl) ?_
  refine lv_iload_n hx hb dX2_verdict_9 rfl (lv_at hl 2 rfl) ?_
  obtain ⟨fi_8, ar_9, er_10, hf⟩ := bind2_eq hf
  refine callVV (As := [.ref (ad 1), .int v1, .int v2]) (rest := []) B w (c_X1_live l D ca ak av ad fi fl ar v1 v2 er_10) (gV kt3_94 kt2_233 kt2_234 kt1_4 kt2_235) hdV_X1_live 5 rfl rfl rfl rfl ⟨Nat.le_of_ble_eq_true rfl, Nat.le_of_ble_eq_true rfl⟩ rfl hl.1 rfl (Nat.le_of_ble_eq_true rfl) dX2_verdict_10 ⟨Nat.le_of_ble_eq_true rfl, Nat.le_of_ble_eq_true rfl⟩ (fun H locs w => ?_)
  refine lv_aload_n hx hb dX2_verdict_13 rfl (lv_at hl 0 rfl) ?_
  refine gfC_12_2 B w kt1_215 dX2_verdict_14 ?_
  refine lv_aload_n hx hb dX2_verdict_17 rfl (lv_at hl 0 rfl) ?_
  refine gfC_12_1 B w kt1_214 dX2_verdict_18 ?_
  refine lv_sipush (v := 500) hx hb dX2_verdict_21 (by decide) ?_
  obtain ⟨fi_11, ar_12, er_13, hf⟩ := bind2_eq hf
  refine callVV (As := [.ref (ad 5), .int 500]) (rest := []) B w (c_X7_go l D ca ak av ad fi_8 fl ar_9 500 er_13) (gV kt3_95 kt3_9 kt3_10 kt1_5 kt3_11) hdV_X7_go 8 rfl rfl rfl rfl ⟨Nat.le_of_ble_eq_true rfl, Nat.le_of_ble_eq_true rfl⟩ rfl hl.1 rfl (Nat.le_of_ble_eq_true rfl) dX2_verdict_24 ⟨Nat.le_of_ble_eq_true rfl, Nat.le_of_ble_eq_true rfl⟩ (fun H locs w => ?_)
  refine lv_aload_n hx hb dX2_verdict_27 rfl (lv_at hl 0 rfl) ?_
  refine gfC_12_2 B w kt1_215 dX2_verdict_28 ?_
  obtain ⟨r_14, er_15⟩ : ∃ y, f_X7_rest fi_11 = y := ⟨_, rfl⟩
  have hf := bindv_eq hf r_14 er_15.symm
  refine callVI (As := []) (rest := []) B w (c_X7_rest l D ca ak av ad fi_11 fl ar_12  er_15) (gV kt3_96 kt3_15 kt3_16 kt1_5 kt3_17) hdV_X7_rest 8 rfl rfl rfl rfl ⟨Nat.le_of_ble_eq_true rfl, Nat.le_of_ble_eq_true rfl⟩ rfl hl.1 rfl (Nat.le_of_ble_eq_true rfl) dX2_verdict_31 ⟨Nat.le_of_ble_eq_true rfl, Nat.le_of_ble_eq_true rfl⟩ (fun H locs w => ?_)
  refine lv_istore_n (lv' := [(3, .int r_14), (0, .ref (ad 12)), (1, .int v1), (2, .int v2)]) hx hb dX2_verdict_34 rfl hl (by decide) rfl (fun ls hl => ?_)
  refine lv_iload_n hx hb dX2_verdict_35 rfl (lv_at hl 0 rfl) ?_
  refine lv_iconst (v := (-1)) hx hb dX2_verdict_36 (by decide) ?_
  refine lv_icmp_ne (x := r_14) (y := (-1)) (tgt := 42) hx hb dX2_verdict_37 (by decide) (fun c_16 => ?_) (fun c_16 => ?_)
  · have hf := if_f hf c_16
    refine lv_aload_n hx hb dX2_verdict_42 rfl (lv_at hl 1 rfl) ?_
    refine lv_iload_n hx hb dX2_verdict_43 rfl (lv_at hl 0 rfl) ?_
    obtain ⟨fl_17, er_18, hf⟩ := bind1_eq hf
    refine callVV (As := [.int r_14]) (rest := []) B w (c_X2_measure l D ca ak av ad fi_11 fl ar_12 r_14 er_18) (gV kt3_97 kt3_75 kt3_76 kt1_7 kt3_77) hdV_X2_measure 12 rfl rfl rfl rfl ⟨Nat.le_of_ble_eq_true rfl, Nat.le_of_ble_eq_true rfl⟩ rfl hl.1 rfl (Nat.le_of_ble_eq_true rfl) dX2_verdict_44 ⟨Nat.le_of_ble_eq_true rfl, Nat.le_of_ble_eq_true rfl⟩ (fun H locs w => ?_)
    refine lv_iconst (v := 0) hx hb dX2_verdict_47 (by decide) ?_
    refine lv_istore (lv' := [(4, .int 0), (3, .int r_14), (0, .ref (ad 12)), (1, .int v1), (2, .int v2)]) hx hb dX2_verdict_48 hl (by decide) rfl (fun ls hl => ?_)
    exact J50  5000 r_14 0 fi_11 fl_17 ar_12 H locs ls w (lv_sub hl [2, 1, 0] rfl) hf
  · have hf := if_t hf c_16
    refine lv_iconst (v := 0) hx hb dX2_verdict_40 (by decide) ?_
    have hf : some (0, fi_11, fl, ar_12) = some (r0, fi0, fl0, ar0) := hf
    obtain ⟨q0, q1, q2, q3⟩ := so4 hf
    subst q0
    subst q1
    subst q2
    subst q3
    exact retI B hr hk w dX2_verdict_41
def f_X2_aidAtRest (fi : Nat → Int32) : Int32 := bindv (f_X7_rest fi) (fun r_1 => bindv (f_X1_aid fi r_1) (fun r_3 => r_3))
set_option maxHeartbeats 4000000 in
set_option maxRecDepth 100000 in
theorem c_X2_aidAtRest (l : Launch) (D : va_G) (ca : Nat → ClassId) (ak av ad : Nat → Nat) (fi : Nat → Int32) (fl : Nat → Int64) (ar : Nat → Nat → Int32) {r0 : Int32} (hf : f_X2_aidAtRest fi = r0) : MtI l yX2_aidAtRest cX2_aidAtRest 1 { frames := 2, cells := 0, slots := 0, locals := 44 } (EC D ca ak av) [.ref (ad 12)] (wC ad ca fi fl ar) (wC ad ca fi fl ar) r0 := by
  refine MtI.of (own := RX2) (by decide +kernel) rfl (Nat.le_of_ble_eq_true rfl) ?_
  intro p e s m args below meth c A B hr hk w ls hl
  have hx := B.1.1
  have hb := B.1.2.1
  have hown := B.1.2.2.2.1
  have hts := B.1.2.2.2.2
  have hl : lv_has ls 1 [(0, .ref (ad 12))] := hl
  unfold f_X2_aidAtRest at hf
  refine (show ∀ (H : Heap) (locs : List Loc), Wd (EC D ca ak av) A s (wC ad ca fi fl ar) H locs → W p l e ({ frames := 2, cells := 0, slots := 0, locals := 44 } : Room) s m args below meth c H locs 0 0 (MQ below (Qi (EC D ca ak av) A (wC ad ca fi fl ar) r0) args s 0 0 A) (F0 m 0 ls []) from ?_) s.heap [] w
  intro H locs w
  refine lv_aload_n hx hb dX2_aidAtRest_0 rfl (lv_at hl 0 rfl) ?_
  refine gfC_12_1 B w kt1_214 dX2_aidAtRest_1 ?_
  refine lv_aload_n hx hb dX2_aidAtRest_4 rfl (lv_at hl 0 rfl) ?_
  refine gfC_12_2 B w kt1_215 dX2_aidAtRest_5 ?_
  obtain ⟨r_1, er_2⟩ : ∃ y, f_X7_rest fi = y := ⟨_, rfl⟩
  have hf := bindv_eq hf r_1 er_2.symm
  refine callVI (As := []) (rest := [.ref (ad 5)]) B w (c_X7_rest l D ca ak av ad fi fl ar  er_2) (gV kt3_96 kt3_15 kt3_16 kt1_5 kt3_17) hdV_X7_rest 8 rfl rfl rfl rfl ⟨Nat.le_of_ble_eq_true rfl, Nat.le_of_ble_eq_true rfl⟩ rfl hl.1 rfl (Nat.le_of_ble_eq_true rfl) dX2_aidAtRest_8 ⟨Nat.le_of_ble_eq_true rfl, Nat.le_of_ble_eq_true rfl⟩ (fun H locs w => ?_)
  obtain ⟨r_3, er_4⟩ : ∃ y, f_X1_aid fi r_1 = y := ⟨_, rfl⟩
  have hf := bindv_eq hf r_3 er_4.symm
  refine callVI (As := [.int r_1]) (rest := []) B w (c_X1_aid l D ca ak av ad fi fl ar r_1 er_4) (gV kt3_112 kt3_23 kt3_24 kt1_4 kt3_25) hdV_X1_aid 5 rfl rfl rfl rfl ⟨Nat.le_of_ble_eq_true rfl, Nat.le_of_ble_eq_true rfl⟩ rfl hl.1 rfl (Nat.le_of_ble_eq_true rfl) dX2_aidAtRest_11 ⟨Nat.le_of_ble_eq_true rfl, Nat.le_of_ble_eq_true rfl⟩ (fun H locs w => ?_)
  have hf : r_3 = r0 := hf
  subst hf
  exact retI B hr hk w dX2_aidAtRest_14
def f_X2_greatestEye_2   : Nat → (Int32) → (Int32) → (Nat → Int32) → (Nat → Int64) → (Nat → Nat → Int32) → Option (Int32 × (Nat → Int32) × (Nat → Int64) × (Nat → Nat → Int32))
  | 0, _, _, _, _, _ => none
  | n + 1, v1, v2, fi, fl, ar => if (50 < v2 : Prop) then (some ((v2 - 1), fi, fl, ar)) else (bind4 (f_X2_verdict fi fl ar v1 v2) (fun r_2 fi_3 fl_4 ar_5 => if (r_2 = 1 : Prop) then (bindv (v2 + 1 : Int32) (fun x_8 => (f_X2_greatestEye_2 n) v1 x_8 fi_3 fl_4 ar_5)) else (some ((v2 - 1), fi_3, fl_4, ar_5))))
def f_X2_greatestEye (fi : Nat → Int32) (fl : Nat → Int64) (ar : Nat → Nat → Int32) (v1 : Int32) : Option (Int32 × (Nat → Int32) × (Nat → Int64) × (Nat → Nat → Int32)) := f_X2_greatestEye_2  5000 v1 0 fi fl ar
set_option maxHeartbeats 4000000 in
set_option maxRecDepth 100000 in
theorem c_X2_greatestEye (l : Launch) (D : va_G) (ca : Nat → ClassId) (ak av ad : Nat → Nat) (fi : Nat → Int32) (fl : Nat → Int64) (ar : Nat → Nat → Int32) (v1 : Int32) {r0 : Int32} {fi0 : Nat → Int32} {fl0 : Nat → Int64} {ar0 : Nat → Nat → Int32} (hf : f_X2_greatestEye fi fl ar v1 = some (r0, fi0, fl0, ar0)) : MtI l yX2_greatestEye cX2_greatestEye 3 { frames := 5, cells := 0, slots := 0, locals := 120 } (EC D ca ak av) [.ref (ad 12), .int v1] (wC ad ca fi fl ar) (wC ad ca fi0 fl0 ar0) r0 := by
  refine MtI.of (own := RX2) (by decide +kernel) rfl (Nat.le_of_ble_eq_true rfl) ?_
  intro p e s m args below meth c A B hr hk w ls hl
  have hx := B.1.1
  have hb := B.1.2.1
  have hown := B.1.2.2.2.1
  have hts := B.1.2.2.2.2
  have hl : lv_has ls 3 [(0, .ref (ad 12)), (1, .int v1)] := hl
  have J2 : ∀ (n : Nat) (v1 : Int32) (v2 : Int32) (fi : Nat → Int32) (fl : Nat → Int64) (ar : Nat → Nat → Int32) (H : Heap) (locs : List Loc) (ls : Array Slot), Wd (EC D ca ak av) A s (wC ad ca fi fl ar) H locs → lv_has ls 3 [(0, .ref (ad 12)), (1, .int v1), (2, .int v2)] → f_X2_greatestEye_2  n v1 v2 fi fl ar = some (r0, fi0, fl0, ar0) → W p l e ({ frames := 5, cells := 0, slots := 0, locals := 120 } : Room) s m args below meth c H locs 0 0 (MQ below (Qi (EC D ca ak av) A (wC ad ca fi0 fl0 ar0) r0) args s 0 0 A) (F0 m 2 ls []) := by
    intro  n
    induction n with
    | zero =>
      intro v1 v2 fi fl ar H locs ls w hl hf
      cases hf
    | succ n ih =>
      intro v1 v2 fi fl ar H locs ls w hl hf
      rw [f_X2_greatestEye_2] at hf
      refine lv_iload_n hx hb dX2_greatestEye_2 rfl (lv_at hl 2 rfl) ?_
      refine lv_bipush (v := 50) hx hb dX2_greatestEye_3 (by decide) ?_
      refine lv_icmp_gt (x := v2) (y := 50) (tgt := 24) hx hb dX2_greatestEye_5 (by decide) (fun c_1 => ?_) (fun c_1 => ?_)
      · have hf := if_t hf c_1
        refine lv_iload_n hx hb dX2_greatestEye_24 rfl (lv_at hl 2 rfl) ?_
        refine lv_iconst (v := 1) hx hb dX2_greatestEye_25 (by decide) ?_
        refine lv_isub (x := v2) (y := 1) hx hb dX2_greatestEye_26 ?_
        have hf : some ((v2 - 1), fi, fl, ar) = some (r0, fi0, fl0, ar0) := hf
        obtain ⟨q0, q1, q2, q3⟩ := so4 hf
        subst q0
        subst q1
        subst q2
        subst q3
        exact retI B hr hk w dX2_greatestEye_27
      · have hf := if_f hf c_1
        refine lv_aload_n hx hb dX2_greatestEye_8 rfl (lv_at hl 0 rfl) ?_
        refine lv_iload_n hx hb dX2_greatestEye_9 rfl (lv_at hl 1 rfl) ?_
        refine lv_iload_n hx hb dX2_greatestEye_10 rfl (lv_at hl 2 rfl) ?_
        obtain ⟨r_2, fi_3, fl_4, ar_5, er_6, hf⟩ := bind4_eq hf
        refine callVI (As := [.int v1, .int v2]) (rest := []) B w (c_X2_verdict l D ca ak av ad fi fl ar v1 v2 er_6) (gV kt3_150 kt3_91 kt3_92 kt1_7 kt3_93) hdV_X2_verdict 12 rfl rfl rfl rfl ⟨Nat.le_of_ble_eq_true rfl, Nat.le_of_ble_eq_true rfl⟩ rfl hl.1 rfl (Nat.le_of_ble_eq_true rfl) dX2_greatestEye_11 ⟨Nat.le_of_ble_eq_true rfl, Nat.le_of_ble_eq_true rfl⟩ (fun H locs w => ?_)
        refine lv_iconst (v := 1) hx hb dX2_greatestEye_14 (by decide) ?_
        refine lv_icmp_ne (x := r_2) (y := 1) (tgt := 24) hx hb dX2_greatestEye_15 (by decide) (fun c_7 => ?_) (fun c_7 => ?_)
        · have hf := if_f hf c_7
          refine lv_iload_n hx hb dX2_greatestEye_24 rfl (lv_at hl 2 rfl) ?_
          refine lv_iconst (v := 1) hx hb dX2_greatestEye_25 (by decide) ?_
          refine lv_isub (x := v2) (y := 1) hx hb dX2_greatestEye_26 ?_
          have hf : some ((v2 - 1), fi_3, fl_4, ar_5) = some (r0, fi0, fl0, ar0) := hf
          obtain ⟨q0, q1, q2, q3⟩ := so4 hf
          subst q0
          subst q1
          subst q2
          subst q3
          exact retI B hr hk w dX2_greatestEye_27
        · have hf := if_t hf c_7
          obtain ⟨x_8, ex_8⟩ : ∃ y : Int32, y = v2 + 1 := ⟨_, rfl⟩
          have hf := bindv_eq hf x_8 ex_8
          refine lv_iinc (v := x_8) (lv' := [(2, .int x_8), (0, .ref (ad 12)), (1, .int v1)]) hx hb dX2_greatestEye_18 hl (k := 2) rfl (by rw [ex_8]; rfl) (by decide) rfl (fun ls hl => ?_)
          refine lv_goto (tgt := 2) hx hb dX2_greatestEye_21 (by decide) ?_
          exact ih v1 x_8 fi_3 fl_4 ar_5 H locs ls w (lv_sub hl [1, 2, 0] rfl) hf
  unfold f_X2_greatestEye at hf
  refine (show ∀ (H : Heap) (locs : List Loc), Wd (EC D ca ak av) A s (wC ad ca fi fl ar) H locs → W p l e ({ frames := 5, cells := 0, slots := 0, locals := 120 } : Room) s m args below meth c H locs 0 0 (MQ below (Qi (EC D ca ak av) A (wC ad ca fi0 fl0 ar0) r0) args s 0 0 A) (F0 m 0 ls []) from ?_) s.heap [] w
  intro H locs w
  refine lv_iconst (v := 0) hx hb dX2_greatestEye_0 (by decide) ?_
  refine lv_istore_n (lv' := [(2, .int 0), (0, .ref (ad 12)), (1, .int v1)]) hx hb dX2_greatestEye_1 rfl hl (by decide) rfl (fun ls hl => ?_)
  exact J2  5000 v1 0 fi fl ar H locs ls w (lv_sub hl [1, 2, 0] rfl) hf
