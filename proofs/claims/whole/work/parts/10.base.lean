def f_X8_bit (v0 : Int32) (v1 : Int32) : Int32 := ((v0 >>> (v1 &&& 31)) &&& 1)
set_option maxHeartbeats 4000000 in
set_option maxRecDepth 100000 in
theorem c_X8_bit (l : Launch) (E : VE) (v0 : Int32) (v1 : Int32) {r0 : Int32} (hf : f_X8_bit v0 v1 = r0) : MtI l yX8_bit cX8_bit 2 { frames := 0, cells := 0, slots := 0, locals := 0 } E [.int v0, .int v1] [] [] r0 := by
  refine MtI.of (own := RX8) (by decide +kernel) rfl (Nat.le_of_ble_eq_true rfl) ?_
  intro p e s m args below meth c A B hr hk w ls hl
  have hx := B.1.1
  have hb := B.1.2.1
  have hown := B.1.2.2.2.1
  have hts := B.1.2.2.2.2
  have hl : lv_has ls 2 [(0, .int v0), (1, .int v1)] := hl
  unfold f_X8_bit at hf
  refine (show ∀ (H : Heap) (locs : List Loc), Wd E A s [] H locs → W p l e ({ frames := 0, cells := 0, slots := 0, locals := 0 } : Room) s m args below meth c H locs 0 0 (MQ below (Qi E A [] r0) args s 0 0 A) (F0 m 0 ls []) from ?_) s.heap [] w
  intro H locs w
  refine lv_iload_n hx hb dX8_bit_0 rfl (lv_at hl 0 rfl) ?_
  refine lv_iload_n hx hb dX8_bit_1 rfl (lv_at hl 1 rfl) ?_
  refine lv_ishr (x := v0) (y := v1) hx hb dX8_bit_2 ?_
  refine lv_iconst (v := 1) hx hb dX8_bit_3 (by decide) ?_
  refine lv_iand (x := (v0 >>> (v1 &&& 31))) (y := 1) hx hb dX8_bit_4 ?_
  have hf : ((v0 >>> (v1 &&& 31)) &&& 1) = r0 := hf
  subst hf
  exact retI B hr hk w dX8_bit_5
def f_J9_floorDiv_f86c9 (v0 : Int64) (v2 : Int64) : Option (Int64) := dvL v2 (bindv ((v0 / v2) : Int64) (fun x_2 => if (0 ≤ (lg_cmp (v0 ^^^ v2) 0) : Prop) then (some x_2) else (if ((lg_cmp (x_2 * v2) v0) = 0 : Prop) then (some x_2) else (some (x_2 - 1)))))
set_option maxHeartbeats 4000000 in
set_option maxRecDepth 100000 in
theorem c_J9_floorDiv_f86c9 (l : Launch) (E : VE) (v0 : Int64) (v2 : Int64) {r0 : Int64} (hf : f_J9_floorDiv_f86c9 v0 v2 = some r0) : MtL l yJ9_floorDiv_f86c9 cJ9_floorDiv_f86c9 6 { frames := 0, cells := 0, slots := 0, locals := 0 } E [.long v0, .long v2] [] [] r0 := by
  refine MtL.of (own := RJ9) (by decide +kernel) rfl (Nat.le_of_ble_eq_true rfl) ?_
  intro p e s m args below meth c A B hr hk w ls hl
  have hx := B.1.1
  have hb := B.1.2.1
  have hown := B.1.2.2.2.1
  have hts := B.1.2.2.2.2
  have hl : lv_has ls 6 [(0, .long v0), (2, .long v2)] := hl
  unfold f_J9_floorDiv_f86c9 at hf
  refine (show ∀ (H : Heap) (locs : List Loc), Wd E A s [] H locs → W p l e ({ frames := 0, cells := 0, slots := 0, locals := 0 } : Room) s m args below meth c H locs 0 0 (MQ below (Ql E A [] r0) args s 0 0 A) (F0 m 0 ls []) from ?_) s.heap [] w
  intro H locs w
  refine lv_lload_n hx hb dJ9_floorDiv_f86c9_0 rfl (lv_at hl 0 rfl) ?_
  refine lv_lload_n hx hb dJ9_floorDiv_f86c9_1 rfl (lv_at hl 1 rfl) ?_
  obtain ⟨hd_1, hf⟩ := dvL_eq hf
  refine lv_ldiv (x := v0) (y := v2) hx hb dJ9_floorDiv_f86c9_2 hd_1 ?_
  refine lv_topl (fun x_2 ex_2 => ?_)
  have hf := bindv_eq hf x_2 ex_2
  refine lv_lstore (lv' := [(4, .long x_2), (0, .long v0), (2, .long v2)]) hx hb dJ9_floorDiv_f86c9_3 hl (by decide) rfl (fun ls hl => ?_)
  refine lv_lload_n hx hb dJ9_floorDiv_f86c9_5 rfl (lv_at hl 1 rfl) ?_
  refine lv_lload_n hx hb dJ9_floorDiv_f86c9_6 rfl (lv_at hl 2 rfl) ?_
  refine lv_lxor (x := v0) (y := v2) hx hb dJ9_floorDiv_f86c9_7 ?_
  refine lv_lconst (v := 0) hx hb dJ9_floorDiv_f86c9_8 (by decide) ?_
  refine W.lcmp hx hb dJ9_floorDiv_f86c9_9 ?_
  refine lv_if_ge (x := (lg_cmp (v0 ^^^ v2) 0)) (tgt := 27) hx hb dJ9_floorDiv_f86c9_10 (by decide) (fun c_3 => ?_) (fun c_3 => ?_)
  · have hf := if_t hf c_3
    refine lv_lload hx hb dJ9_floorDiv_f86c9_27 (lv_at hl 0 rfl) ?_
    have hf : some x_2 = some r0 := hf
    have q0 := so1 hf
    subst q0
    exact retL B hr hk w dJ9_floorDiv_f86c9_29
  · have hf := if_f hf c_3
    refine lv_lload hx hb dJ9_floorDiv_f86c9_13 (lv_at hl 0 rfl) ?_
    refine lv_lload_n hx hb dJ9_floorDiv_f86c9_15 rfl (lv_at hl 2 rfl) ?_
    refine lv_lmul (x := x_2) (y := v2) hx hb dJ9_floorDiv_f86c9_16 ?_
    refine lv_lload_n hx hb dJ9_floorDiv_f86c9_17 rfl (lv_at hl 1 rfl) ?_
    refine W.lcmp hx hb dJ9_floorDiv_f86c9_18 ?_
    refine lv_if_eq (x := (lg_cmp (x_2 * v2) v0)) (tgt := 27) hx hb dJ9_floorDiv_f86c9_19 (by decide) (fun c_4 => ?_) (fun c_4 => ?_)
    · have hf := if_t hf c_4
      refine lv_lload hx hb dJ9_floorDiv_f86c9_27 (lv_at hl 0 rfl) ?_
      have hf : some x_2 = some r0 := hf
      have q0 := so1 hf
      subst q0
      exact retL B hr hk w dJ9_floorDiv_f86c9_29
    · have hf := if_f hf c_4
      refine lv_lload hx hb dJ9_floorDiv_f86c9_22 (lv_at hl 0 rfl) ?_
      refine lv_lconst (v := 1) hx hb dJ9_floorDiv_f86c9_24 (by decide) ?_
      refine lv_lsub (x := x_2) (y := 1) hx hb dJ9_floorDiv_f86c9_25 ?_
      have hf : some (x_2 - 1) = some r0 := hf
      have q0 := so1 hf
      subst q0
      exact retL B hr hk w dJ9_floorDiv_f86c9_26
def f_X8_wayOf (v0 : Int32) : Int32 := (v0 &&& 15)
set_option maxHeartbeats 4000000 in
set_option maxRecDepth 100000 in
theorem c_X8_wayOf (l : Launch) (E : VE) (v0 : Int32) {r0 : Int32} (hf : f_X8_wayOf v0 = r0) : MtI l yX8_wayOf cX8_wayOf 1 { frames := 0, cells := 0, slots := 0, locals := 0 } E [.int v0] [] [] r0 := by
  refine MtI.of (own := RX8) (by decide +kernel) rfl (Nat.le_of_ble_eq_true rfl) ?_
  intro p e s m args below meth c A B hr hk w ls hl
  have hx := B.1.1
  have hb := B.1.2.1
  have hown := B.1.2.2.2.1
  have hts := B.1.2.2.2.2
  have hl : lv_has ls 1 [(0, .int v0)] := hl
  unfold f_X8_wayOf at hf
  refine (show ∀ (H : Heap) (locs : List Loc), Wd E A s [] H locs → W p l e ({ frames := 0, cells := 0, slots := 0, locals := 0 } : Room) s m args below meth c H locs 0 0 (MQ below (Qi E A [] r0) args s 0 0 A) (F0 m 0 ls []) from ?_) s.heap [] w
  intro H locs w
  refine lv_iload_n hx hb dX8_wayOf_0 rfl (lv_at hl 0 rfl) ?_
  refine lv_bipush (v := 15) hx hb dX8_wayOf_1 (by decide) ?_
  refine lv_iand (x := v0) (y := 15) hx hb dX8_wayOf_3 ?_
  have hf : (v0 &&& 15) = r0 := hf
  subst hf
  exact retI B hr hk w dX8_wayOf_4
def f_X8_namingOf (v0 : Int32) : Int32 := (v0 >>> ((4 : Int32) &&& 31))
set_option maxHeartbeats 4000000 in
set_option maxRecDepth 100000 in
theorem c_X8_namingOf (l : Launch) (E : VE) (v0 : Int32) {r0 : Int32} (hf : f_X8_namingOf v0 = r0) : MtI l yX8_namingOf cX8_namingOf 1 { frames := 0, cells := 0, slots := 0, locals := 0 } E [.int v0] [] [] r0 := by
  refine MtI.of (own := RX8) (by decide +kernel) rfl (Nat.le_of_ble_eq_true rfl) ?_
  intro p e s m args below meth c A B hr hk w ls hl
  have hx := B.1.1
  have hb := B.1.2.1
  have hown := B.1.2.2.2.1
  have hts := B.1.2.2.2.2
  have hl : lv_has ls 1 [(0, .int v0)] := hl
  unfold f_X8_namingOf at hf
  refine (show ∀ (H : Heap) (locs : List Loc), Wd E A s [] H locs → W p l e ({ frames := 0, cells := 0, slots := 0, locals := 0 } : Room) s m args below meth c H locs 0 0 (MQ below (Qi E A [] r0) args s 0 0 A) (F0 m 0 ls []) from ?_) s.heap [] w
  intro H locs w
  refine lv_iload_n hx hb dX8_namingOf_0 rfl (lv_at hl 0 rfl) ?_
  refine lv_iconst (v := 4) hx hb dX8_namingOf_1 (by decide) ?_
  refine lv_ishr (x := v0) (y := 4) hx hb dX8_namingOf_2 ?_
  have hf : (v0 >>> ((4 : Int32) &&& 31)) = r0 := hf
  subst hf
  exact retI B hr hk w dX8_namingOf_3
def f_J13_compare_74951 (v0 : Int64) (v2 : Int64) : Int32 := if (0 ≤ (lg_cmp v0 v2) : Prop) then (if ((lg_cmp v0 v2) = 0 : Prop) then (0) else (1)) else ((-1))
set_option maxHeartbeats 4000000 in
set_option maxRecDepth 100000 in
theorem c_J13_compare_74951 (l : Launch) (E : VE) (v0 : Int64) (v2 : Int64) {r0 : Int32} (hf : f_J13_compare_74951 v0 v2 = r0) : MtI l yJ13_compare_74951 cJ13_compare_74951 4 { frames := 0, cells := 0, slots := 0, locals := 0 } E [.long v0, .long v2] [] [] r0 := by
  refine MtI.of (own := RJ13) (by decide +kernel) rfl (Nat.le_of_ble_eq_true rfl) ?_
  intro p e s m args below meth c A B hr hk w ls hl
  have hx := B.1.1
  have hb := B.1.2.1
  have hown := B.1.2.2.2.1
  have hts := B.1.2.2.2.2
  have hl : lv_has ls 4 [(0, .long v0), (2, .long v2)] := hl
  unfold f_J13_compare_74951 at hf
  refine (show ∀ (H : Heap) (locs : List Loc), Wd E A s [] H locs → W p l e ({ frames := 0, cells := 0, slots := 0, locals := 0 } : Room) s m args below meth c H locs 0 0 (MQ below (Qi E A [] r0) args s 0 0 A) (F0 m 0 ls []) from ?_) s.heap [] w
  intro H locs w
  refine lv_lload_n hx hb dJ13_compare_74951_0 rfl (lv_at hl 0 rfl) ?_
  refine lv_lload_n hx hb dJ13_compare_74951_1 rfl (lv_at hl 1 rfl) ?_
  refine W.lcmp hx hb dJ13_compare_74951_2 ?_
  refine lv_if_ge (x := (lg_cmp v0 v2)) (tgt := 10) hx hb dJ13_compare_74951_3 (by decide) (fun c_1 => ?_) (fun c_1 => ?_)
  · have hf := if_t hf c_1
    refine lv_lload_n hx hb dJ13_compare_74951_10 rfl (lv_at hl 0 rfl) ?_
    refine lv_lload_n hx hb dJ13_compare_74951_11 rfl (lv_at hl 1 rfl) ?_
    refine W.lcmp hx hb dJ13_compare_74951_12 ?_
    refine lv_if_ne (x := (lg_cmp v0 v2)) (tgt := 20) hx hb dJ13_compare_74951_13 (by decide) (fun c_2 => ?_) (fun c_2 => ?_)
    · have hf := if_f hf c_2
      refine lv_iconst (v := 1) hx hb dJ13_compare_74951_20 (by decide) ?_
      have hf : 1 = r0 := hf
      subst hf
      exact retI B hr hk w dJ13_compare_74951_21
    · have hf := if_t hf c_2
      refine lv_iconst (v := 0) hx hb dJ13_compare_74951_16 (by decide) ?_
      refine lv_goto (tgt := 21) hx hb dJ13_compare_74951_17 (by decide) ?_
      have hf : 0 = r0 := hf
      subst hf
      exact retI B hr hk w dJ13_compare_74951_21
  · have hf := if_f hf c_1
    refine lv_iconst (v := (-1)) hx hb dJ13_compare_74951_6 (by decide) ?_
    refine lv_goto (tgt := 21) hx hb dJ13_compare_74951_7 (by decide) ?_
    have hf : (-1) = r0 := hf
    subst hf
    exact retI B hr hk w dJ13_compare_74951_21
def f_X8_within (v0 : Int32) (v1 : Int32) (v2 : Int32) : Int32 := if (v0 < v1 : Prop) then (0) else (if (v2 < v0 : Prop) then (0) else (1))
set_option maxHeartbeats 4000000 in
set_option maxRecDepth 100000 in
theorem c_X8_within (l : Launch) (E : VE) (v0 : Int32) (v1 : Int32) (v2 : Int32) {r0 : Int32} (hf : f_X8_within v0 v1 v2 = r0) : MtZ l yX8_within cX8_within 3 { frames := 0, cells := 0, slots := 0, locals := 0 } E [.int v0, .int v1, .int v2] [] [] r0 := by
  refine MtZ.of (own := RX8) (by decide +kernel) rfl (Nat.le_of_ble_eq_true rfl) ?_
  intro p e s m args below meth c A B hr hk w ls hl
  have hx := B.1.1
  have hb := B.1.2.1
  have hown := B.1.2.2.2.1
  have hts := B.1.2.2.2.2
  have hl : lv_has ls 3 [(0, .int v0), (1, .int v1), (2, .int v2)] := hl
  unfold f_X8_within at hf
  refine (show ∀ (H : Heap) (locs : List Loc), Wd E A s [] H locs → W p l e ({ frames := 0, cells := 0, slots := 0, locals := 0 } : Room) s m args below meth c H locs 0 0 (MQ below (Qz E A [] r0) args s 0 0 A) (F0 m 0 ls []) from ?_) s.heap [] w
  intro H locs w
  refine lv_iload_n hx hb dX8_within_0 rfl (lv_at hl 0 rfl) ?_
  refine lv_iload_n hx hb dX8_within_1 rfl (lv_at hl 1 rfl) ?_
  refine lv_icmp_lt (x := v0) (y := v1) (tgt := 14) hx hb dX8_within_2 (by decide) (fun c_1 => ?_) (fun c_1 => ?_)
  · have hf := if_t hf c_1
    refine lv_iconst (v := 0) hx hb dX8_within_14 (by decide) ?_
    have hf : 0 = r0 := hf
    subst hf
    exact retZ B hr hk w rfl dX8_within_15
  · have hf := if_f hf c_1
    refine lv_iload_n hx hb dX8_within_5 rfl (lv_at hl 0 rfl) ?_
    refine lv_iload_n hx hb dX8_within_6 rfl (lv_at hl 2 rfl) ?_
    refine lv_icmp_gt (x := v0) (y := v2) (tgt := 14) hx hb dX8_within_7 (by decide) (fun c_2 => ?_) (fun c_2 => ?_)
    · have hf := if_t hf c_2
      refine lv_iconst (v := 0) hx hb dX8_within_14 (by decide) ?_
      have hf : 0 = r0 := hf
      subst hf
      exact retZ B hr hk w rfl dX8_within_15
    · have hf := if_f hf c_2
      refine lv_iconst (v := 1) hx hb dX8_within_10 (by decide) ?_
      refine lv_goto (tgt := 15) hx hb dX8_within_11 (by decide) ?_
      have hf : 1 = r0 := hf
      subst hf
      exact retZ B hr hk w rfl dX8_within_15
def f_X8_isShare (v0 : Int32) : Int32 := bindv (f_X8_within v0 0 1000) (fun r_1 => r_1)
set_option maxHeartbeats 4000000 in
set_option maxRecDepth 100000 in
theorem c_X8_isShare (l : Launch) (E : VE) (v0 : Int32) {r0 : Int32} (hf : f_X8_isShare v0 = r0) : MtZ l yX8_isShare cX8_isShare 1 { frames := 1, cells := 0, slots := 0, locals := 22 } E [.int v0] [] [] r0 := by
  refine MtZ.of (own := RX8) (by decide +kernel) rfl (Nat.le_of_ble_eq_true rfl) ?_
  intro p e s m args below meth c A B hr hk w ls hl
  have hx := B.1.1
  have hb := B.1.2.1
  have hown := B.1.2.2.2.1
  have hts := B.1.2.2.2.2
  have hl : lv_has ls 1 [(0, .int v0)] := hl
  unfold f_X8_isShare at hf
  refine (show ∀ (H : Heap) (locs : List Loc), Wd E A s [] H locs → W p l e ({ frames := 1, cells := 0, slots := 0, locals := 22 } : Room) s m args below meth c H locs 0 0 (MQ below (Qz E A [] r0) args s 0 0 A) (F0 m 0 ls []) from ?_) s.heap [] w
  intro H locs w
  refine lv_iload_n hx hb dX8_isShare_0 rfl (lv_at hl 0 rfl) ?_
  refine lv_iconst (v := 0) hx hb dX8_isShare_1 (by decide) ?_
  refine lv_sipush (v := 1000) hx hb dX8_isShare_2 (by decide) ?_
  obtain ⟨r_1, er_2⟩ : ∃ y, f_X8_within v0 0 1000 = y := ⟨_, rfl⟩
  have hf := bindv_eq hf r_1 er_2.symm
  refine callSZ (As := [.int v0, .int 0, .int 1000]) (rest := []) B w (c_X8_within l _ v0 0 1000 er_2) (gS kt2_72 kt2_73 kt1_1 kt2_74) hdS_X8_within rfl rfl ⟨Nat.le_of_ble_eq_true rfl, Nat.le_of_ble_eq_true rfl⟩ rfl hl.1 rfl (Nat.le_of_ble_eq_true rfl) dX8_isShare_5 ⟨Nat.le_of_ble_eq_true rfl, Nat.le_of_ble_eq_true rfl⟩ (fun H locs w hzr_1 => ?_)
  have hf : r_1 = r0 := hf
  subst hf
  exact retZ B hr hk w hzr_1 dX8_isShare_8
def f_J6_bitCount_0f7a4 (v0 : Int32) : Int32 := bindv ((v0 - (((Int32.toUInt32 v0 >>> (Int32.toUInt32 1 &&& Int32.toUInt32 31)).toInt32) &&& 1431655765)) : Int32) (fun x_1 => bindv (((x_1 &&& 858993459) + (((Int32.toUInt32 x_1 >>> (Int32.toUInt32 2 &&& Int32.toUInt32 31)).toInt32) &&& 858993459)) : Int32) (fun x_2 => bindv (((x_2 + ((Int32.toUInt32 x_2 >>> (Int32.toUInt32 4 &&& Int32.toUInt32 31)).toInt32)) &&& 252645135) : Int32) (fun x_3 => bindv ((x_3 + ((Int32.toUInt32 x_3 >>> (Int32.toUInt32 8 &&& Int32.toUInt32 31)).toInt32)) : Int32) (fun x_4 => bindv ((x_4 + ((Int32.toUInt32 x_4 >>> (Int32.toUInt32 16 &&& Int32.toUInt32 31)).toInt32)) : Int32) (fun x_5 => (x_5 &&& 63))))))
set_option maxHeartbeats 4000000 in
set_option maxRecDepth 100000 in
theorem c_J6_bitCount_0f7a4 (l : Launch) (E : VE) (v0 : Int32) {r0 : Int32} (hf : f_J6_bitCount_0f7a4 v0 = r0) : MtI l yJ6_bitCount_0f7a4 cJ6_bitCount_0f7a4 1 { frames := 0, cells := 0, slots := 0, locals := 0 } E [.int v0] [] [] r0 := by
  refine MtI.of (own := RJ6) (by decide +kernel) rfl (Nat.le_of_ble_eq_true rfl) ?_
  intro p e s m args below meth c A B hr hk w ls hl
  have hx := B.1.1
  have hb := B.1.2.1
  have hown := B.1.2.2.2.1
  have hts := B.1.2.2.2.2
  have hl : lv_has ls 1 [(0, .int v0)] := hl
  unfold f_J6_bitCount_0f7a4 at hf
  refine (show ∀ (H : Heap) (locs : List Loc), Wd E A s [] H locs → W p l e ({ frames := 0, cells := 0, slots := 0, locals := 0 } : Room) s m args below meth c H locs 0 0 (MQ below (Qi E A [] r0) args s 0 0 A) (F0 m 0 ls []) from ?_) s.heap [] w
  intro H locs w
  refine lv_iload_n hx hb dJ6_bitCount_0f7a4_0 rfl (lv_at hl 0 rfl) ?_
  refine lv_iload_n hx hb dJ6_bitCount_0f7a4_1 rfl (lv_at hl 0 rfl) ?_
  refine lv_iconst (v := 1) hx hb dJ6_bitCount_0f7a4_2 (by decide) ?_
  refine lv_iushr hx hb dJ6_bitCount_0f7a4_3 rfl ?_
  refine lv_ldcw (own := RJ6) (v := 1431655765) hx hb hown (hts _ kt2_30) dJ6_bitCount_0f7a4_4 ?_
  refine lv_iand (x := ((Int32.toUInt32 v0 >>> (Int32.toUInt32 1 &&& Int32.toUInt32 31)).toInt32)) (y := 1431655765) hx hb dJ6_bitCount_0f7a4_7 ?_
  refine lv_isub (x := v0) (y := (((Int32.toUInt32 v0 >>> (Int32.toUInt32 1 &&& Int32.toUInt32 31)).toInt32) &&& 1431655765)) hx hb dJ6_bitCount_0f7a4_8 ?_
  refine lv_topi (fun x_1 ex_1 => ?_)
  have hf := bindv_eq hf x_1 ex_1
  refine lv_istore_n (lv' := [(0, .int x_1)]) hx hb dJ6_bitCount_0f7a4_9 rfl hl (by decide) rfl (fun ls hl => ?_)
  refine lv_iload_n hx hb dJ6_bitCount_0f7a4_10 rfl (lv_at hl 0 rfl) ?_
  refine lv_ldcw (own := RJ6) (v := 858993459) hx hb hown (hts _ kt2_31) dJ6_bitCount_0f7a4_11 ?_
  refine lv_iand (x := x_1) (y := 858993459) hx hb dJ6_bitCount_0f7a4_14 ?_
  refine lv_iload_n hx hb dJ6_bitCount_0f7a4_15 rfl (lv_at hl 0 rfl) ?_
  refine lv_iconst (v := 2) hx hb dJ6_bitCount_0f7a4_16 (by decide) ?_
  refine lv_iushr hx hb dJ6_bitCount_0f7a4_17 rfl ?_
  refine lv_ldcw (own := RJ6) (v := 858993459) hx hb hown (hts _ kt2_31) dJ6_bitCount_0f7a4_18 ?_
  refine lv_iand (x := ((Int32.toUInt32 x_1 >>> (Int32.toUInt32 2 &&& Int32.toUInt32 31)).toInt32)) (y := 858993459) hx hb dJ6_bitCount_0f7a4_21 ?_
  refine lv_iadd (x := (x_1 &&& 858993459)) (y := (((Int32.toUInt32 x_1 >>> (Int32.toUInt32 2 &&& Int32.toUInt32 31)).toInt32) &&& 858993459)) hx hb dJ6_bitCount_0f7a4_22 ?_
  refine lv_topi (fun x_2 ex_2 => ?_)
  have hf := bindv_eq hf x_2 ex_2
  refine lv_istore_n (lv' := [(0, .int x_2)]) hx hb dJ6_bitCount_0f7a4_23 rfl hl (by decide) rfl (fun ls hl => ?_)
  refine lv_iload_n hx hb dJ6_bitCount_0f7a4_24 rfl (lv_at hl 0 rfl) ?_
  refine lv_iload_n hx hb dJ6_bitCount_0f7a4_25 rfl (lv_at hl 0 rfl) ?_
  refine lv_iconst (v := 4) hx hb dJ6_bitCount_0f7a4_26 (by decide) ?_
  refine lv_iushr hx hb dJ6_bitCount_0f7a4_27 rfl ?_
  refine lv_iadd (x := x_2) (y := ((Int32.toUInt32 x_2 >>> (Int32.toUInt32 4 &&& Int32.toUInt32 31)).toInt32)) hx hb dJ6_bitCount_0f7a4_28 ?_
  refine lv_ldcw (own := RJ6) (v := 252645135) hx hb hown (hts _ kt2_32) dJ6_bitCount_0f7a4_29 ?_
  refine lv_iand (x := (x_2 + ((Int32.toUInt32 x_2 >>> (Int32.toUInt32 4 &&& Int32.toUInt32 31)).toInt32))) (y := 252645135) hx hb dJ6_bitCount_0f7a4_32 ?_
  refine lv_topi (fun x_3 ex_3 => ?_)
  have hf := bindv_eq hf x_3 ex_3
  refine lv_istore_n (lv' := [(0, .int x_3)]) hx hb dJ6_bitCount_0f7a4_33 rfl hl (by decide) rfl (fun ls hl => ?_)
  refine lv_iload_n hx hb dJ6_bitCount_0f7a4_34 rfl (lv_at hl 0 rfl) ?_
  refine lv_iload_n hx hb dJ6_bitCount_0f7a4_35 rfl (lv_at hl 0 rfl) ?_
  refine lv_bipush (v := 8) hx hb dJ6_bitCount_0f7a4_36 (by decide) ?_
  refine lv_iushr hx hb dJ6_bitCount_0f7a4_38 rfl ?_
  refine lv_iadd (x := x_3) (y := ((Int32.toUInt32 x_3 >>> (Int32.toUInt32 8 &&& Int32.toUInt32 31)).toInt32)) hx hb dJ6_bitCount_0f7a4_39 ?_
  refine lv_topi (fun x_4 ex_4 => ?_)
  have hf := bindv_eq hf x_4 ex_4
  refine lv_istore_n (lv' := [(0, .int x_4)]) hx hb dJ6_bitCount_0f7a4_40 rfl hl (by decide) rfl (fun ls hl => ?_)
  refine lv_iload_n hx hb dJ6_bitCount_0f7a4_41 rfl (lv_at hl 0 rfl) ?_
  refine lv_iload_n hx hb dJ6_bitCount_0f7a4_42 rfl (lv_at hl 0 rfl) ?_
  refine lv_bipush (v := 16) hx hb dJ6_bitCount_0f7a4_43 (by decide) ?_
  refine lv_iushr hx hb dJ6_bitCount_0f7a4_45 rfl ?_
  refine lv_iadd (x := x_4) (y := ((Int32.toUInt32 x_4 >>> (Int32.toUInt32 16 &&& Int32.toUInt32 31)).toInt32)) hx hb dJ6_bitCount_0f7a4_46 ?_
  refine lv_topi (fun x_5 ex_5 => ?_)
  have hf := bindv_eq hf x_5 ex_5
  refine lv_istore_n (lv' := [(0, .int x_5)]) hx hb dJ6_bitCount_0f7a4_47 rfl hl (by decide) rfl (fun ls hl => ?_)
  refine lv_iload_n hx hb dJ6_bitCount_0f7a4_48 rfl (lv_at hl 0 rfl) ?_
  refine lv_bipush (v := 63) hx hb dJ6_bitCount_0f7a4_49 (by decide) ?_
  refine lv_iand (x := x_5) (y := 63) hx hb dJ6_bitCount_0f7a4_51 ?_
  have hf : (x_5 &&& 63) = r0 := hf
  subst hf
  exact retI B hr hk w dJ6_bitCount_0f7a4_52
def f_J9_max_7cf53 (v0 : Int32) (v1 : Int32) : Int32 := if (v0 < v1 : Prop) then (v1) else (v0)
set_option maxHeartbeats 4000000 in
set_option maxRecDepth 100000 in
theorem c_J9_max_7cf53 (l : Launch) (E : VE) (v0 : Int32) (v1 : Int32) {r0 : Int32} (hf : f_J9_max_7cf53 v0 v1 = r0) : MtI l yJ9_max_7cf53 cJ9_max_7cf53 2 { frames := 0, cells := 0, slots := 0, locals := 0 } E [.int v0, .int v1] [] [] r0 := by
  refine MtI.of (own := RJ9) (by decide +kernel) rfl (Nat.le_of_ble_eq_true rfl) ?_
  intro p e s m args below meth c A B hr hk w ls hl
  have hx := B.1.1
  have hb := B.1.2.1
  have hown := B.1.2.2.2.1
  have hts := B.1.2.2.2.2
  have hl : lv_has ls 2 [(0, .int v0), (1, .int v1)] := hl
  unfold f_J9_max_7cf53 at hf
  refine (show ∀ (H : Heap) (locs : List Loc), Wd E A s [] H locs → W p l e ({ frames := 0, cells := 0, slots := 0, locals := 0 } : Room) s m args below meth c H locs 0 0 (MQ below (Qi E A [] r0) args s 0 0 A) (F0 m 0 ls []) from ?_) s.heap [] w
  intro H locs w
  refine lv_iload_n hx hb dJ9_max_7cf53_0 rfl (lv_at hl 0 rfl) ?_
  refine lv_iload_n hx hb dJ9_max_7cf53_1 rfl (lv_at hl 1 rfl) ?_
  refine lv_icmp_lt (x := v0) (y := v1) (tgt := 9) hx hb dJ9_max_7cf53_2 (by decide) (fun c_1 => ?_) (fun c_1 => ?_)
  · have hf := if_t hf c_1
    refine lv_iload_n hx hb dJ9_max_7cf53_9 rfl (lv_at hl 1 rfl) ?_
    have hf : v1 = r0 := hf
    subst hf
    exact retI B hr hk w dJ9_max_7cf53_10
  · have hf := if_f hf c_1
    refine lv_iload_n hx hb dJ9_max_7cf53_5 rfl (lv_at hl 0 rfl) ?_
    refine lv_goto (tgt := 10) hx hb dJ9_max_7cf53_6 (by decide) ?_
    have hf : v0 = r0 := hf
    subst hf
    exact retI B hr hk w dJ9_max_7cf53_10
def f_X8_hangs_2   : Nat → (Int32) → (Int32) → (Int32) → (Int32) → Option (Int32)
  | 0, _, _, _, _ => none
  | n + 1, v0, v1, v2, v3 => if (v1 ≤ v3 : Prop) then (some 0) else (bindv (f_X8_bit v0 v3) (fun r_2 => bindv (f_X8_bit v0 (v3 ^^^ v2)) (fun r_4 => if (r_2 = r_4 : Prop) then (bindv (v3 + 1 : Int32) (fun x_7 => (f_X8_hangs_2 n) v0 v1 v2 x_7)) else (some 1))))
def f_X8_hangs (v0 : Int32) (v1 : Int32) (v2 : Int32) : Option (Int32) := f_X8_hangs_2  5000 v0 v1 v2 0
set_option maxHeartbeats 4000000 in
set_option maxRecDepth 100000 in
theorem c_X8_hangs (l : Launch) (E : VE) (v0 : Int32) (v1 : Int32) (v2 : Int32) {r0 : Int32} (hf : f_X8_hangs v0 v1 v2 = some r0) : MtI l yX8_hangs cX8_hangs 4 { frames := 1, cells := 0, slots := 0, locals := 21 } E [.int v0, .int v1, .int v2] [] [] r0 := by
  refine MtI.of (own := RX8) (by decide +kernel) rfl (Nat.le_of_ble_eq_true rfl) ?_
  intro p e s m args below meth c A B hr hk w ls hl
  have hx := B.1.1
  have hb := B.1.2.1
  have hown := B.1.2.2.2.1
  have hts := B.1.2.2.2.2
  have hl : lv_has ls 4 [(0, .int v0), (1, .int v1), (2, .int v2)] := hl
  have J2 : ∀ (n : Nat) (v0 : Int32) (v1 : Int32) (v2 : Int32) (v3 : Int32) (H : Heap) (locs : List Loc) (ls : Array Slot), Wd E A s [] H locs → lv_has ls 4 [(0, .int v0), (1, .int v1), (2, .int v2), (3, .int v3)] → f_X8_hangs_2  n v0 v1 v2 v3 = some r0 → W p l e ({ frames := 1, cells := 0, slots := 0, locals := 21 } : Room) s m args below meth c H locs 0 0 (MQ below (Qi E A [] r0) args s 0 0 A) (F0 m 2 ls []) := by
    intro  n
    induction n with
    | zero =>
      intro v0 v1 v2 v3 H locs ls w hl hf
      cases hf
    | succ n ih =>
      intro v0 v1 v2 v3 H locs ls w hl hf
      rw [f_X8_hangs_2] at hf
      refine lv_iload_n hx hb dX8_hangs_2 rfl (lv_at hl 3 rfl) ?_
      refine lv_iload_n hx hb dX8_hangs_3 rfl (lv_at hl 1 rfl) ?_
      refine lv_icmp_ge (x := v3) (y := v1) (tgt := 30) hx hb dX8_hangs_4 (by decide) (fun c_1 => ?_) (fun c_1 => ?_)
      · have hf := if_t hf c_1
        refine lv_iconst (v := 0) hx hb dX8_hangs_30 (by decide) ?_
        have hf : some 0 = some r0 := hf
        have q0 := so1 hf
        subst q0
        exact retI B hr hk w dX8_hangs_31
      · have hf := if_f hf c_1
        refine lv_iload_n hx hb dX8_hangs_7 rfl (lv_at hl 0 rfl) ?_
        refine lv_iload_n hx hb dX8_hangs_8 rfl (lv_at hl 3 rfl) ?_
        obtain ⟨r_2, er_3⟩ : ∃ y, f_X8_bit v0 v3 = y := ⟨_, rfl⟩
        have hf := bindv_eq hf r_2 er_3.symm
        refine callSI (As := [.int v0, .int v3]) (rest := []) B w (c_X8_bit l _ v0 v3 er_3) (gS kt2_221 kt2_165 kt1_1 kt2_166) hdS_X8_bit rfl rfl ⟨Nat.le_of_ble_eq_true rfl, Nat.le_of_ble_eq_true rfl⟩ rfl hl.1 rfl (Nat.le_of_ble_eq_true rfl) dX8_hangs_9 ⟨Nat.le_of_ble_eq_true rfl, Nat.le_of_ble_eq_true rfl⟩ (fun H locs w => ?_)
        refine lv_iload_n hx hb dX8_hangs_12 rfl (lv_at hl 0 rfl) ?_
        refine lv_iload_n hx hb dX8_hangs_13 rfl (lv_at hl 3 rfl) ?_
        refine lv_iload_n hx hb dX8_hangs_14 rfl (lv_at hl 2 rfl) ?_
        refine lv_ixor (x := v3) (y := v2) hx hb dX8_hangs_15 ?_
        obtain ⟨r_4, er_5⟩ : ∃ y, f_X8_bit v0 (v3 ^^^ v2) = y := ⟨_, rfl⟩
        have hf := bindv_eq hf r_4 er_5.symm
        refine callSI (As := [.int v0, .int (v3 ^^^ v2)]) (rest := [.int r_2]) B w (c_X8_bit l _ v0 (v3 ^^^ v2) er_5) (gS kt2_221 kt2_165 kt1_1 kt2_166) hdS_X8_bit rfl rfl ⟨Nat.le_of_ble_eq_true rfl, Nat.le_of_ble_eq_true rfl⟩ rfl hl.1 rfl (Nat.le_of_ble_eq_true rfl) dX8_hangs_16 ⟨Nat.le_of_ble_eq_true rfl, Nat.le_of_ble_eq_true rfl⟩ (fun H locs w => ?_)
        refine lv_icmp_eq (x := r_2) (y := r_4) (tgt := 24) hx hb dX8_hangs_19 (by decide) (fun c_6 => ?_) (fun c_6 => ?_)
        · have hf := if_t hf c_6
          obtain ⟨x_7, ex_7⟩ : ∃ y : Int32, y = v3 + 1 := ⟨_, rfl⟩
          have hf := bindv_eq hf x_7 ex_7
          refine lv_iinc (v := x_7) (lv' := [(3, .int x_7), (0, .int v0), (1, .int v1), (2, .int v2)]) hx hb dX8_hangs_24 hl (k := 3) rfl (by rw [ex_7]; rfl) (by decide) rfl (fun ls hl => ?_)
          refine lv_goto (tgt := 2) hx hb dX8_hangs_27 (by decide) ?_
          exact ih v0 v1 v2 x_7 H locs ls w (lv_sub hl [1, 2, 3, 0] rfl) hf
        · have hf := if_f hf c_6
          refine lv_iconst (v := 1) hx hb dX8_hangs_22 (by decide) ?_
          have hf : some 1 = some r0 := hf
          have q0 := so1 hf
          subst q0
          exact retI B hr hk w dX8_hangs_23
  unfold f_X8_hangs at hf
  refine (show ∀ (H : Heap) (locs : List Loc), Wd E A s [] H locs → W p l e ({ frames := 1, cells := 0, slots := 0, locals := 21 } : Room) s m args below meth c H locs 0 0 (MQ below (Qi E A [] r0) args s 0 0 A) (F0 m 0 ls []) from ?_) s.heap [] w
  intro H locs w
  refine lv_iconst (v := 0) hx hb dX8_hangs_0 (by decide) ?_
  refine lv_istore_n (lv' := [(3, .int 0), (0, .int v0), (1, .int v1), (2, .int v2)]) hx hb dX8_hangs_1 rfl hl (by decide) rfl (fun ls hl => ?_)
  exact J2  5000 v0 v1 v2 0 H locs ls w (lv_sub hl [1, 2, 3, 0] rfl) hf
def f_X8_plainness (v0 : Int32) : Option (Int32) := bindv (f_X8_wayOf v0) (fun r_1 => bindv (f_X8_namingOf v0) (fun r_3 => bind1 (f_X8_hangs r_1 4 2) (fun r_5 => bind1 (f_X8_hangs r_1 4 1) (fun r_7 => bind1 (f_X8_hangs r_3 8 4) (fun r_9 => bind1 (f_X8_hangs r_3 8 2) (fun r_11 => bind1 (f_X8_hangs r_3 8 1) (fun r_13 => some ((((r_5 + r_7) + r_9) + r_11) + r_13))))))))
set_option maxHeartbeats 4000000 in
set_option maxRecDepth 100000 in
theorem c_X8_plainness (l : Launch) (E : VE) (v0 : Int32) {r0 : Int32} (hf : f_X8_plainness v0 = some r0) : MtI l yX8_plainness cX8_plainness 3 { frames := 2, cells := 0, slots := 0, locals := 44 } E [.int v0] [] [] r0 := by
  refine MtI.of (own := RX8) (by decide +kernel) rfl (Nat.le_of_ble_eq_true rfl) ?_
  intro p e s m args below meth c A B hr hk w ls hl
  have hx := B.1.1
  have hb := B.1.2.1
  have hown := B.1.2.2.2.1
  have hts := B.1.2.2.2.2
  have hl : lv_has ls 3 [(0, .int v0)] := hl
  unfold f_X8_plainness at hf
  refine (show ∀ (H : Heap) (locs : List Loc), Wd E A s [] H locs → W p l e ({ frames := 2, cells := 0, slots := 0, locals := 44 } : Room) s m args below meth c H locs 0 0 (MQ below (Qi E A [] r0) args s 0 0 A) (F0 m 0 ls []) from ?_) s.heap [] w
  intro H locs w
  refine lv_iload_n hx hb dX8_plainness_0 rfl (lv_at hl 0 rfl) ?_
  obtain ⟨r_1, er_2⟩ : ∃ y, f_X8_wayOf v0 = y := ⟨_, rfl⟩
  have hf := bindv_eq hf r_1 er_2.symm
  refine callSI (As := [.int v0]) (rest := []) B w (c_X8_wayOf l _ v0 er_2) (gS kt2_218 kt2_219 kt1_1 kt2_220) hdS_X8_wayOf rfl rfl ⟨Nat.le_of_ble_eq_true rfl, Nat.le_of_ble_eq_true rfl⟩ rfl hl.1 rfl (Nat.le_of_ble_eq_true rfl) dX8_plainness_1 ⟨Nat.le_of_ble_eq_true rfl, Nat.le_of_ble_eq_true rfl⟩ (fun H locs w => ?_)
  refine lv_istore_n (lv' := [(1, .int r_1), (0, .int v0)]) hx hb dX8_plainness_4 rfl hl (by decide) rfl (fun ls hl => ?_)
  refine lv_iload_n hx hb dX8_plainness_5 rfl (lv_at hl 1 rfl) ?_
  obtain ⟨r_3, er_4⟩ : ∃ y, f_X8_namingOf v0 = y := ⟨_, rfl⟩
  have hf := bindv_eq hf r_3 er_4.symm
  refine callSI (As := [.int v0]) (rest := []) B w (c_X8_namingOf l _ v0 er_4) (gS kt2_222 kt2_223 kt1_1 kt2_224) hdS_X8_namingOf rfl rfl ⟨Nat.le_of_ble_eq_true rfl, Nat.le_of_ble_eq_true rfl⟩ rfl hl.1 rfl (Nat.le_of_ble_eq_true rfl) dX8_plainness_6 ⟨Nat.le_of_ble_eq_true rfl, Nat.le_of_ble_eq_true rfl⟩ (fun H locs w => ?_)
  refine lv_istore_n (lv' := [(2, .int r_3), (1, .int r_1), (0, .int v0)]) hx hb dX8_plainness_9 rfl hl (by decide) rfl (fun ls hl => ?_)
  refine lv_iload_n hx hb dX8_plainness_10 rfl (lv_at hl 1 rfl) ?_
  refine lv_iconst (v := 4) hx hb dX8_plainness_11 (by decide) ?_
  refine lv_iconst (v := 2) hx hb dX8_plainness_12 (by decide) ?_
  obtain ⟨r_5, er_6, hf⟩ := bind1_eq hf
  refine callSI (As := [.int r_1, .int 4, .int 2]) (rest := []) B w (c_X8_hangs l _ r_1 4 2 er_6) (gS kt3_139 kt3_140 kt1_1 kt3_141) hdS_X8_hangs rfl rfl ⟨Nat.le_of_ble_eq_true rfl, Nat.le_of_ble_eq_true rfl⟩ rfl hl.1 rfl (Nat.le_of_ble_eq_true rfl) dX8_plainness_13 ⟨Nat.le_of_ble_eq_true rfl, Nat.le_of_ble_eq_true rfl⟩ (fun H locs w => ?_)
  refine lv_iload_n hx hb dX8_plainness_16 rfl (lv_at hl 1 rfl) ?_
  refine lv_iconst (v := 4) hx hb dX8_plainness_17 (by decide) ?_
  refine lv_iconst (v := 1) hx hb dX8_plainness_18 (by decide) ?_
  obtain ⟨r_7, er_8, hf⟩ := bind1_eq hf
  refine callSI (As := [.int r_1, .int 4, .int 1]) (rest := [.int r_5]) B w (c_X8_hangs l _ r_1 4 1 er_8) (gS kt3_139 kt3_140 kt1_1 kt3_141) hdS_X8_hangs rfl rfl ⟨Nat.le_of_ble_eq_true rfl, Nat.le_of_ble_eq_true rfl⟩ rfl hl.1 rfl (Nat.le_of_ble_eq_true rfl) dX8_plainness_19 ⟨Nat.le_of_ble_eq_true rfl, Nat.le_of_ble_eq_true rfl⟩ (fun H locs w => ?_)
  refine lv_iadd (x := r_5) (y := r_7) hx hb dX8_plainness_22 ?_
  refine lv_iload_n hx hb dX8_plainness_23 rfl (lv_at hl 0 rfl) ?_
  refine lv_bipush (v := 8) hx hb dX8_plainness_24 (by decide) ?_
  refine lv_iconst (v := 4) hx hb dX8_plainness_26 (by decide) ?_
  obtain ⟨r_9, er_10, hf⟩ := bind1_eq hf
  refine callSI (As := [.int r_3, .int 8, .int 4]) (rest := [.int (r_5 + r_7)]) B w (c_X8_hangs l _ r_3 8 4 er_10) (gS kt3_139 kt3_140 kt1_1 kt3_141) hdS_X8_hangs rfl rfl ⟨Nat.le_of_ble_eq_true rfl, Nat.le_of_ble_eq_true rfl⟩ rfl hl.1 rfl (Nat.le_of_ble_eq_true rfl) dX8_plainness_27 ⟨Nat.le_of_ble_eq_true rfl, Nat.le_of_ble_eq_true rfl⟩ (fun H locs w => ?_)
  refine lv_iadd (x := (r_5 + r_7)) (y := r_9) hx hb dX8_plainness_30 ?_
  refine lv_iload_n hx hb dX8_plainness_31 rfl (lv_at hl 0 rfl) ?_
  refine lv_bipush (v := 8) hx hb dX8_plainness_32 (by decide) ?_
  refine lv_iconst (v := 2) hx hb dX8_plainness_34 (by decide) ?_
  obtain ⟨r_11, er_12, hf⟩ := bind1_eq hf
  refine callSI (As := [.int r_3, .int 8, .int 2]) (rest := [.int ((r_5 + r_7) + r_9)]) B w (c_X8_hangs l _ r_3 8 2 er_12) (gS kt3_139 kt3_140 kt1_1 kt3_141) hdS_X8_hangs rfl rfl ⟨Nat.le_of_ble_eq_true rfl, Nat.le_of_ble_eq_true rfl⟩ rfl hl.1 rfl (Nat.le_of_ble_eq_true rfl) dX8_plainness_35 ⟨Nat.le_of_ble_eq_true rfl, Nat.le_of_ble_eq_true rfl⟩ (fun H locs w => ?_)
  refine lv_iadd (x := ((r_5 + r_7) + r_9)) (y := r_11) hx hb dX8_plainness_38 ?_
  refine lv_iload_n hx hb dX8_plainness_39 rfl (lv_at hl 0 rfl) ?_
  refine lv_bipush (v := 8) hx hb dX8_plainness_40 (by decide) ?_
  refine lv_iconst (v := 1) hx hb dX8_plainness_42 (by decide) ?_
  obtain ⟨r_13, er_14, hf⟩ := bind1_eq hf
  refine callSI (As := [.int r_3, .int 8, .int 1]) (rest := [.int (((r_5 + r_7) + r_9) + r_11)]) B w (c_X8_hangs l _ r_3 8 1 er_14) (gS kt3_139 kt3_140 kt1_1 kt3_141) hdS_X8_hangs rfl rfl ⟨Nat.le_of_ble_eq_true rfl, Nat.le_of_ble_eq_true rfl⟩ rfl hl.1 rfl (Nat.le_of_ble_eq_true rfl) dX8_plainness_43 ⟨Nat.le_of_ble_eq_true rfl, Nat.le_of_ble_eq_true rfl⟩ (fun H locs w => ?_)
  refine lv_iadd (x := (((r_5 + r_7) + r_9) + r_11)) (y := r_13) hx hb dX8_plainness_46 ?_
  have hf : some ((((r_5 + r_7) + r_9) + r_11) + r_13) = some r0 := hf
  have q0 := so1 hf
  subst q0
  exact retI B hr hk w dX8_plainness_47
def f_X8_turnedAbout_34   : Nat → (Int32) → (Int32) → (Int32) → (Int32) → Option (Int32)
  | 0, _, _, _, _ => none
  | n + 1, v0, v1, v2, v3 => if (8 ≤ v3 : Prop) then (some ((16 * v2) + v1)) else (bindv (f_X8_namingOf v0) (fun r_2 => bindv (f_X8_bit r_2 (v3 ^^^ 6)) (fun r_4 => bindv ((v2 ||| ((1 - r_4) <<< (v3 &&& 31))) : Int32) (fun x_6 => bindv (v3 + 1 : Int32) (fun x_7 => (f_X8_turnedAbout_34 n) v0 v1 x_6 x_7)))))
def f_X8_turnedAbout_4   : Nat → (Int32) → (Int32) → (Int32) → Option (Int32)
  | 0, _, _, _ => none
  | n + 1, v0, v1, v2 => if (4 ≤ v2 : Prop) then (f_X8_turnedAbout_34  5000 v0 v1 0 0) else (bindv (f_X8_wayOf v0) (fun r_9 => bindv (f_X8_bit r_9 (v2 ^^^ 3)) (fun r_11 => bindv ((v1 ||| (r_11 <<< (v2 &&& 31))) : Int32) (fun x_13 => bindv (v2 + 1 : Int32) (fun x_14 => (f_X8_turnedAbout_4 n) v0 x_13 x_14)))))
def f_X8_turnedAbout (v0 : Int32) : Option (Int32) := f_X8_turnedAbout_4  5000 v0 0 0
set_option maxHeartbeats 4000000 in
set_option maxRecDepth 100000 in
theorem c_X8_turnedAbout (l : Launch) (E : VE) (v0 : Int32) {r0 : Int32} (hf : f_X8_turnedAbout v0 = some r0) : MtI l yX8_turnedAbout cX8_turnedAbout 4 { frames := 1, cells := 0, slots := 0, locals := 21 } E [.int v0] [] [] r0 := by
  refine MtI.of (own := RX8) (by decide +kernel) rfl (Nat.le_of_ble_eq_true rfl) ?_
  intro p e s m args below meth c A B hr hk w ls hl
  have hx := B.1.1
  have hb := B.1.2.1
  have hown := B.1.2.2.2.1
  have hts := B.1.2.2.2.2
  have hl : lv_has ls 4 [(0, .int v0)] := hl
  have J34 : ∀ (n : Nat) (v0 : Int32) (v1 : Int32) (v2 : Int32) (v3 : Int32) (H : Heap) (locs : List Loc) (ls : Array Slot), Wd E A s [] H locs → lv_has ls 4 [(0, .int v0), (1, .int v1), (2, .int v2), (3, .int v3)] → f_X8_turnedAbout_34  n v0 v1 v2 v3 = some r0 → W p l e ({ frames := 1, cells := 0, slots := 0, locals := 21 } : Room) s m args below meth c H locs 0 0 (MQ below (Qi E A [] r0) args s 0 0 A) (F0 m 34 ls []) := by
    intro  n
    induction n with
    | zero =>
      intro v0 v1 v2 v3 H locs ls w hl hf
      cases hf
    | succ n ih =>
      intro v0 v1 v2 v3 H locs ls w hl hf
      rw [f_X8_turnedAbout_34] at hf
      refine lv_iload_n hx hb dX8_turnedAbout_34 rfl (lv_at hl 3 rfl) ?_
      refine lv_bipush (v := 8) hx hb dX8_turnedAbout_35 (by decide) ?_
      refine lv_icmp_ge (x := v3) (y := 8) (tgt := 64) hx hb dX8_turnedAbout_37 (by decide) (fun c_1 => ?_) (fun c_1 => ?_)
      · have hf := if_t hf c_1
        refine lv_bipush (v := 16) hx hb dX8_turnedAbout_64 (by decide) ?_
        refine lv_iload_n hx hb dX8_turnedAbout_66 rfl (lv_at hl 2 rfl) ?_
        refine lv_imul (x := 16) (y := v2) hx hb dX8_turnedAbout_67 ?_
        refine lv_iload_n hx hb dX8_turnedAbout_68 rfl (lv_at hl 1 rfl) ?_
        refine lv_iadd (x := (16 * v2)) (y := v1) hx hb dX8_turnedAbout_69 ?_
        have hf : some ((16 * v2) + v1) = some r0 := hf
        have q0 := so1 hf
        subst q0
        exact retI B hr hk w dX8_turnedAbout_70
      · have hf := if_f hf c_1
        refine lv_iload_n hx hb dX8_turnedAbout_40 rfl (lv_at hl 2 rfl) ?_
        refine lv_iconst (v := 1) hx hb dX8_turnedAbout_41 (by decide) ?_
        refine lv_iload_n hx hb dX8_turnedAbout_42 rfl (lv_at hl 0 rfl) ?_
        obtain ⟨r_2, er_3⟩ : ∃ y, f_X8_namingOf v0 = y := ⟨_, rfl⟩
        have hf := bindv_eq hf r_2 er_3.symm
        refine callSI (As := [.int v0]) (rest := [.int 1, .int v2]) B w (c_X8_namingOf l _ v0 er_3) (gS kt2_222 kt2_223 kt1_1 kt2_224) hdS_X8_namingOf rfl rfl ⟨Nat.le_of_ble_eq_true rfl, Nat.le_of_ble_eq_true rfl⟩ rfl hl.1 rfl (Nat.le_of_ble_eq_true rfl) dX8_turnedAbout_43 ⟨Nat.le_of_ble_eq_true rfl, Nat.le_of_ble_eq_true rfl⟩ (fun H locs w => ?_)
        refine lv_iload_n hx hb dX8_turnedAbout_46 rfl (lv_at hl 3 rfl) ?_
        refine lv_bipush (v := 6) hx hb dX8_turnedAbout_47 (by decide) ?_
        refine lv_ixor (x := v3) (y := 6) hx hb dX8_turnedAbout_49 ?_
        obtain ⟨r_4, er_5⟩ : ∃ y, f_X8_bit r_2 (v3 ^^^ 6) = y := ⟨_, rfl⟩
        have hf := bindv_eq hf r_4 er_5.symm
        refine callSI (As := [.int r_2, .int (v3 ^^^ 6)]) (rest := [.int 1, .int v2]) B w (c_X8_bit l _ r_2 (v3 ^^^ 6) er_5) (gS kt2_221 kt2_165 kt1_1 kt2_166) hdS_X8_bit rfl rfl ⟨Nat.le_of_ble_eq_true rfl, Nat.le_of_ble_eq_true rfl⟩ rfl hl.1 rfl (Nat.le_of_ble_eq_true rfl) dX8_turnedAbout_50 ⟨Nat.le_of_ble_eq_true rfl, Nat.le_of_ble_eq_true rfl⟩ (fun H locs w => ?_)
        refine lv_isub (x := 1) (y := r_4) hx hb dX8_turnedAbout_53 ?_
        refine lv_iload_n hx hb dX8_turnedAbout_54 rfl (lv_at hl 3 rfl) ?_
        refine lv_ishl (x := (1 - r_4)) (y := v3) hx hb dX8_turnedAbout_55 ?_
        refine lv_ior (x := v2) (y := ((1 - r_4) <<< (v3 &&& 31))) hx hb dX8_turnedAbout_56 ?_
        refine lv_topi (fun x_6 ex_6 => ?_)
        have hf := bindv_eq hf x_6 ex_6
        refine lv_istore_n (lv' := [(2, .int x_6), (0, .int v0), (1, .int v1), (3, .int v3)]) hx hb dX8_turnedAbout_57 rfl hl (by decide) rfl (fun ls hl => ?_)
        obtain ⟨x_7, ex_7⟩ : ∃ y : Int32, y = v3 + 1 := ⟨_, rfl⟩
        have hf := bindv_eq hf x_7 ex_7
        refine lv_iinc (v := x_7) (lv' := [(3, .int x_7), (2, .int x_6), (0, .int v0), (1, .int v1)]) hx hb dX8_turnedAbout_58 hl (k := 3) rfl (by rw [ex_7]; rfl) (by decide) rfl (fun ls hl => ?_)
        refine lv_goto (tgt := 34) hx hb dX8_turnedAbout_61 (by decide) ?_
        exact ih v0 v1 x_6 x_7 H locs ls w (lv_sub hl [2, 3, 1, 0] rfl) hf
  have J4 : ∀ (n : Nat) (v0 : Int32) (v1 : Int32) (v2 : Int32) (H : Heap) (locs : List Loc) (ls : Array Slot), Wd E A s [] H locs → lv_has ls 4 [(0, .int v0), (1, .int v1), (2, .int v2)] → f_X8_turnedAbout_4  n v0 v1 v2 = some r0 → W p l e ({ frames := 1, cells := 0, slots := 0, locals := 21 } : Room) s m args below meth c H locs 0 0 (MQ below (Qi E A [] r0) args s 0 0 A) (F0 m 4 ls []) := by
    intro  n
    induction n with
    | zero =>
      intro v0 v1 v2 H locs ls w hl hf
      cases hf
    | succ n ih =>
      intro v0 v1 v2 H locs ls w hl hf
      rw [f_X8_turnedAbout_4] at hf
      refine lv_iload_n hx hb dX8_turnedAbout_4 rfl (lv_at hl 2 rfl) ?_
      refine lv_iconst (v := 4) hx hb dX8_turnedAbout_5 (by decide) ?_
      refine lv_icmp_ge (x := v2) (y := 4) (tgt := 30) hx hb dX8_turnedAbout_6 (by decide) (fun c_8 => ?_) (fun c_8 => ?_)
      · have hf := if_t hf c_8
        refine lv_iconst (v := 0) hx hb dX8_turnedAbout_30 (by decide) ?_
        refine lv_istore_n (lv' := [(2, .int 0), (0, .int v0), (1, .int v1)]) hx hb dX8_turnedAbout_31 rfl hl (by decide) rfl (fun ls hl => ?_)
        refine lv_iconst (v := 0) hx hb dX8_turnedAbout_32 (by decide) ?_
        refine lv_istore_n (lv' := [(3, .int 0), (2, .int 0), (0, .int v0), (1, .int v1)]) hx hb dX8_turnedAbout_33 rfl hl (by decide) rfl (fun ls hl => ?_)
        exact J34  5000 v0 v1 0 0 H locs ls w (lv_sub hl [2, 3, 1, 0] rfl) hf
      · have hf := if_f hf c_8
        refine lv_iload_n hx hb dX8_turnedAbout_9 rfl (lv_at hl 1 rfl) ?_
        refine lv_iload_n hx hb dX8_turnedAbout_10 rfl (lv_at hl 0 rfl) ?_
        obtain ⟨r_9, er_10⟩ : ∃ y, f_X8_wayOf v0 = y := ⟨_, rfl⟩
        have hf := bindv_eq hf r_9 er_10.symm
        refine callSI (As := [.int v0]) (rest := [.int v1]) B w (c_X8_wayOf l _ v0 er_10) (gS kt2_218 kt2_219 kt1_1 kt2_220) hdS_X8_wayOf rfl rfl ⟨Nat.le_of_ble_eq_true rfl, Nat.le_of_ble_eq_true rfl⟩ rfl hl.1 rfl (Nat.le_of_ble_eq_true rfl) dX8_turnedAbout_11 ⟨Nat.le_of_ble_eq_true rfl, Nat.le_of_ble_eq_true rfl⟩ (fun H locs w => ?_)
        refine lv_iload_n hx hb dX8_turnedAbout_14 rfl (lv_at hl 2 rfl) ?_
        refine lv_iconst (v := 3) hx hb dX8_turnedAbout_15 (by decide) ?_
        refine lv_ixor (x := v2) (y := 3) hx hb dX8_turnedAbout_16 ?_
        obtain ⟨r_11, er_12⟩ : ∃ y, f_X8_bit r_9 (v2 ^^^ 3) = y := ⟨_, rfl⟩
        have hf := bindv_eq hf r_11 er_12.symm
        refine callSI (As := [.int r_9, .int (v2 ^^^ 3)]) (rest := [.int v1]) B w (c_X8_bit l _ r_9 (v2 ^^^ 3) er_12) (gS kt2_221 kt2_165 kt1_1 kt2_166) hdS_X8_bit rfl rfl ⟨Nat.le_of_ble_eq_true rfl, Nat.le_of_ble_eq_true rfl⟩ rfl hl.1 rfl (Nat.le_of_ble_eq_true rfl) dX8_turnedAbout_17 ⟨Nat.le_of_ble_eq_true rfl, Nat.le_of_ble_eq_true rfl⟩ (fun H locs w => ?_)
        refine lv_iload_n hx hb dX8_turnedAbout_20 rfl (lv_at hl 2 rfl) ?_
        refine lv_ishl (x := r_11) (y := v2) hx hb dX8_turnedAbout_21 ?_
        refine lv_ior (x := v1) (y := (r_11 <<< (v2 &&& 31))) hx hb dX8_turnedAbout_22 ?_
        refine lv_topi (fun x_13 ex_13 => ?_)
        have hf := bindv_eq hf x_13 ex_13
        refine lv_istore_n (lv' := [(1, .int x_13), (0, .int v0), (2, .int v2)]) hx hb dX8_turnedAbout_23 rfl hl (by decide) rfl (fun ls hl => ?_)
        obtain ⟨x_14, ex_14⟩ : ∃ y : Int32, y = v2 + 1 := ⟨_, rfl⟩
        have hf := bindv_eq hf x_14 ex_14
        refine lv_iinc (v := x_14) (lv' := [(2, .int x_14), (1, .int x_13), (0, .int v0)]) hx hb dX8_turnedAbout_24 hl (k := 2) rfl (by rw [ex_14]; rfl) (by decide) rfl (fun ls hl => ?_)
        refine lv_goto (tgt := 4) hx hb dX8_turnedAbout_27 (by decide) ?_
        exact ih v0 x_13 x_14 H locs ls w (lv_sub hl [2, 1, 0] rfl) hf
  unfold f_X8_turnedAbout at hf
  refine (show ∀ (H : Heap) (locs : List Loc), Wd E A s [] H locs → W p l e ({ frames := 1, cells := 0, slots := 0, locals := 21 } : Room) s m args below meth c H locs 0 0 (MQ below (Qi E A [] r0) args s 0 0 A) (F0 m 0 ls []) from ?_) s.heap [] w
  intro H locs w
  refine lv_iconst (v := 0) hx hb dX8_turnedAbout_0 (by decide) ?_
  refine lv_istore_n (lv' := [(1, .int 0), (0, .int v0)]) hx hb dX8_turnedAbout_1 rfl hl (by decide) rfl (fun ls hl => ?_)
  refine lv_iconst (v := 0) hx hb dX8_turnedAbout_2 (by decide) ?_
  refine lv_istore_n (lv' := [(2, .int 0), (1, .int 0), (0, .int v0)]) hx hb dX8_turnedAbout_3 rfl hl (by decide) rfl (fun ls hl => ?_)
  exact J4  5000 v0 0 0 H locs ls w (lv_sub hl [2, 1, 0] rfl) hf
def f_X8_isRule (v0 : Int32) : Int32 := bindv (f_X8_within v0 0 4095) (fun r_1 => r_1)
set_option maxHeartbeats 4000000 in
set_option maxRecDepth 100000 in
theorem c_X8_isRule (l : Launch) (E : VE) (v0 : Int32) {r0 : Int32} (hf : f_X8_isRule v0 = r0) : MtZ l yX8_isRule cX8_isRule 1 { frames := 1, cells := 0, slots := 0, locals := 22 } E [.int v0] [] [] r0 := by
  refine MtZ.of (own := RX8) (by decide +kernel) rfl (Nat.le_of_ble_eq_true rfl) ?_
  intro p e s m args below meth c A B hr hk w ls hl
  have hx := B.1.1
  have hb := B.1.2.1
  have hown := B.1.2.2.2.1
  have hts := B.1.2.2.2.2
  have hl : lv_has ls 1 [(0, .int v0)] := hl
  unfold f_X8_isRule at hf
  refine (show ∀ (H : Heap) (locs : List Loc), Wd E A s [] H locs → W p l e ({ frames := 1, cells := 0, slots := 0, locals := 22 } : Room) s m args below meth c H locs 0 0 (MQ below (Qz E A [] r0) args s 0 0 A) (F0 m 0 ls []) from ?_) s.heap [] w
  intro H locs w
  refine lv_iload_n hx hb dX8_isRule_0 rfl (lv_at hl 0 rfl) ?_
  refine lv_iconst (v := 0) hx hb dX8_isRule_1 (by decide) ?_
  refine lv_sipush (v := 4095) hx hb dX8_isRule_2 (by decide) ?_
  obtain ⟨r_1, er_2⟩ : ∃ y, f_X8_within v0 0 4095 = y := ⟨_, rfl⟩
  have hf := bindv_eq hf r_1 er_2.symm
  refine callSZ (As := [.int v0, .int 0, .int 4095]) (rest := []) B w (c_X8_within l _ v0 0 4095 er_2) (gS kt2_72 kt2_73 kt1_1 kt2_74) hdS_X8_within rfl rfl ⟨Nat.le_of_ble_eq_true rfl, Nat.le_of_ble_eq_true rfl⟩ rfl hl.1 rfl (Nat.le_of_ble_eq_true rfl) dX8_isRule_5 ⟨Nat.le_of_ble_eq_true rfl, Nat.le_of_ble_eq_true rfl⟩ (fun H locs w hzr_1 => ?_)
  have hf : r_1 = r0 := hf
  subst hf
  exact retZ B hr hk w hzr_1 dX8_isRule_8
def f_X8_isWay (v0 : Int32) : Int32 := bindv (f_X8_within v0 0 15) (fun r_1 => r_1)
set_option maxHeartbeats 4000000 in
set_option maxRecDepth 100000 in
theorem c_X8_isWay (l : Launch) (E : VE) (v0 : Int32) {r0 : Int32} (hf : f_X8_isWay v0 = r0) : MtZ l yX8_isWay cX8_isWay 1 { frames := 1, cells := 0, slots := 0, locals := 22 } E [.int v0] [] [] r0 := by
  refine MtZ.of (own := RX8) (by decide +kernel) rfl (Nat.le_of_ble_eq_true rfl) ?_
  intro p e s m args below meth c A B hr hk w ls hl
  have hx := B.1.1
  have hb := B.1.2.1
  have hown := B.1.2.2.2.1
  have hts := B.1.2.2.2.2
  have hl : lv_has ls 1 [(0, .int v0)] := hl
  unfold f_X8_isWay at hf
  refine (show ∀ (H : Heap) (locs : List Loc), Wd E A s [] H locs → W p l e ({ frames := 1, cells := 0, slots := 0, locals := 22 } : Room) s m args below meth c H locs 0 0 (MQ below (Qz E A [] r0) args s 0 0 A) (F0 m 0 ls []) from ?_) s.heap [] w
  intro H locs w
  refine lv_iload_n hx hb dX8_isWay_0 rfl (lv_at hl 0 rfl) ?_
  refine lv_iconst (v := 0) hx hb dX8_isWay_1 (by decide) ?_
  refine lv_bipush (v := 15) hx hb dX8_isWay_2 (by decide) ?_
  obtain ⟨r_1, er_2⟩ : ∃ y, f_X8_within v0 0 15 = y := ⟨_, rfl⟩
  have hf := bindv_eq hf r_1 er_2.symm
  refine callSZ (As := [.int v0, .int 0, .int 15]) (rest := []) B w (c_X8_within l _ v0 0 15 er_2) (gS kt2_72 kt2_73 kt1_1 kt2_74) hdS_X8_within rfl rfl ⟨Nat.le_of_ble_eq_true rfl, Nat.le_of_ble_eq_true rfl⟩ rfl hl.1 rfl (Nat.le_of_ble_eq_true rfl) dX8_isWay_4 ⟨Nat.le_of_ble_eq_true rfl, Nat.le_of_ble_eq_true rfl⟩ (fun H locs w hzr_1 => ?_)
  have hf : r_1 = r0 := hf
  subst hf
  exact retZ B hr hk w hzr_1 dX8_isWay_7
def f_J9_abs_067f4 (v0 : Int64) : Int64 := if (0 ≤ (lg_cmp v0 0) : Prop) then (v0) else ((-v0))
set_option maxHeartbeats 4000000 in
set_option maxRecDepth 100000 in
theorem c_J9_abs_067f4 (l : Launch) (E : VE) (v0 : Int64) {r0 : Int64} (hf : f_J9_abs_067f4 v0 = r0) : MtL l yJ9_abs_067f4 cJ9_abs_067f4 2 { frames := 0, cells := 0, slots := 0, locals := 0 } E [.long v0] [] [] r0 := by
  refine MtL.of (own := RJ9) (by decide +kernel) rfl (Nat.le_of_ble_eq_true rfl) ?_
  intro p e s m args below meth c A B hr hk w ls hl
  have hx := B.1.1
  have hb := B.1.2.1
  have hown := B.1.2.2.2.1
  have hts := B.1.2.2.2.2
  have hl : lv_has ls 2 [(0, .long v0)] := hl
  unfold f_J9_abs_067f4 at hf
  refine (show ∀ (H : Heap) (locs : List Loc), Wd E A s [] H locs → W p l e ({ frames := 0, cells := 0, slots := 0, locals := 0 } : Room) s m args below meth c H locs 0 0 (MQ below (Ql E A [] r0) args s 0 0 A) (F0 m 0 ls []) from ?_) s.heap [] w
  intro H locs w
  refine lv_lload_n hx hb dJ9_abs_067f4_0 rfl (lv_at hl 0 rfl) ?_
  refine lv_lconst (v := 0) hx hb dJ9_abs_067f4_1 (by decide) ?_
  refine W.lcmp hx hb dJ9_abs_067f4_2 ?_
  refine lv_if_ge (x := (lg_cmp v0 0)) (tgt := 11) hx hb dJ9_abs_067f4_3 (by decide) (fun c_1 => ?_) (fun c_1 => ?_)
  · have hf := if_t hf c_1
    refine lv_lload_n hx hb dJ9_abs_067f4_11 rfl (lv_at hl 0 rfl) ?_
    have hf : v0 = r0 := hf
    subst hf
    exact retL B hr hk w dJ9_abs_067f4_12
  · have hf := if_f hf c_1
    refine lv_lload_n hx hb dJ9_abs_067f4_6 rfl (lv_at hl 0 rfl) ?_
    refine lv_lneg hx hb dJ9_abs_067f4_7 ?_
    refine lv_goto (tgt := 12) hx hb dJ9_abs_067f4_8 (by decide) ?_
    have hf : (-v0) = r0 := hf
    subst hf
    exact retL B hr hk w dJ9_abs_067f4_12
def f_X8_leastTerm_47   (v4 : Int64) (v6 : Int64) : Option (Int64) := if ((lg_cmp v6 0) = 0 : Prop) then (some v4) else (dvL v6 (some (v4 / v6)))
def f_X8_leastTerm_12   : Nat → (Int64) → (Int64) → (Int64) → (Int32) → Option (Int64)
  | 0, _, _, _, _ => none
  | n + 1, v4, v6, v8, v10 => if (100 ≤ v10 : Prop) then (f_X8_leastTerm_47  v4 v6) else (if ((lg_cmp v8 0) = 0 : Prop) then (f_X8_leastTerm_47  v4 v6) else (dvL v8 (bindv ((v6 - v6 / v8 * v8) : Int64) (fun x_6 => bindv (v10 + 1 : Int32) (fun x_7 => (f_X8_leastTerm_12 n) v4 v8 x_6 x_7)))))
def f_X8_leastTerm (v0 : Int64) (v2 : Int64) (v4 : Int64) : Option (Int64) := bindv (f_J9_abs_067f4 v0) (fun r_8 => f_X8_leastTerm_12  5000 v4 r_8 v2 0)
set_option maxHeartbeats 4000000 in
set_option maxRecDepth 100000 in
theorem c_X8_leastTerm (l : Launch) (E : VE) (v0 : Int64) (v2 : Int64) (v4 : Int64) {r0 : Int64} (hf : f_X8_leastTerm v0 v2 v4 = some r0) : MtL l yX8_leastTerm cX8_leastTerm 13 { frames := 1, cells := 0, slots := 0, locals := 21 } E [.long v0, .long v2, .long v4] [] [] r0 := by
  refine MtL.of (own := RX8) (by decide +kernel) rfl (Nat.le_of_ble_eq_true rfl) ?_
  intro p e s m args below meth c A B hr hk w ls hl
  have hx := B.1.1
  have hb := B.1.2.1
  have hown := B.1.2.2.2.1
  have hts := B.1.2.2.2.2
  have hl : lv_has ls 13 [(0, .long v0), (2, .long v2), (4, .long v4)] := hl
  have J47 : ∀ (v4 : Int64) (v6 : Int64) (H : Heap) (locs : List Loc) (ls : Array Slot), Wd E A s [] H locs → lv_has ls 13 [(4, .long v4), (6, .long v6)] → f_X8_leastTerm_47  v4 v6 = some r0 → W p l e ({ frames := 1, cells := 0, slots := 0, locals := 21 } : Room) s m args below meth c H locs 0 0 (MQ below (Ql E A [] r0) args s 0 0 A) (F0 m 47 ls []) := by
    intro  v4 v6 H locs ls w hl hf
    unfold f_X8_leastTerm_47 at hf
    refine lv_lload hx hb dX8_leastTerm_47 (lv_at hl 1 rfl) ?_
    refine lv_lconst (v := 0) hx hb dX8_leastTerm_49 (by decide) ?_
    refine W.lcmp hx hb dX8_leastTerm_50 ?_
    refine lv_if_ne (x := (lg_cmp v6 0)) (tgt := 59) hx hb dX8_leastTerm_51 (by decide) (fun c_1 => ?_) (fun c_1 => ?_)
    · have hf := if_f hf c_1
      refine lv_lload hx hb dX8_leastTerm_59 (lv_at hl 0 rfl) ?_
      refine lv_lload hx hb dX8_leastTerm_61 (lv_at hl 1 rfl) ?_
      obtain ⟨hd_2, hf⟩ := dvL_eq hf
      refine lv_ldiv (x := v4) (y := v6) hx hb dX8_leastTerm_63 hd_2 ?_
      have hf : some (v4 / v6) = some r0 := hf
      have q0 := so1 hf
      subst q0
      exact retL B hr hk w dX8_leastTerm_64
    · have hf := if_t hf c_1
      refine lv_lload hx hb dX8_leastTerm_54 (lv_at hl 0 rfl) ?_
      refine lv_goto (tgt := 64) hx hb dX8_leastTerm_56 (by decide) ?_
      have hf : some v4 = some r0 := hf
      have q0 := so1 hf
      subst q0
      exact retL B hr hk w dX8_leastTerm_64
  have J12 : ∀ (n : Nat) (v4 : Int64) (v6 : Int64) (v8 : Int64) (v10 : Int32) (H : Heap) (locs : List Loc) (ls : Array Slot), Wd E A s [] H locs → lv_has ls 13 [(4, .long v4), (6, .long v6), (8, .long v8), (10, .int v10)] → f_X8_leastTerm_12  n v4 v6 v8 v10 = some r0 → W p l e ({ frames := 1, cells := 0, slots := 0, locals := 21 } : Room) s m args below meth c H locs 0 0 (MQ below (Ql E A [] r0) args s 0 0 A) (F0 m 12 ls []) := by
    intro  n
    induction n with
    | zero =>
      intro v4 v6 v8 v10 H locs ls w hl hf
      cases hf
    | succ n ih =>
      intro v4 v6 v8 v10 H locs ls w hl hf
      rw [f_X8_leastTerm_12] at hf
      refine lv_iload hx hb dX8_leastTerm_12 (lv_at hl 3 rfl) ?_
      refine lv_bipush (v := 100) hx hb dX8_leastTerm_14 (by decide) ?_
      refine lv_icmp_ge (x := v10) (y := 100) (tgt := 47) hx hb dX8_leastTerm_16 (by decide) (fun c_3 => ?_) (fun c_3 => ?_)
      · have hf := if_t hf c_3
        exact J47  v4 v6 H locs ls w (lv_sub hl [0, 1] rfl) hf
      · have hf := if_f hf c_3
        refine lv_lload hx hb dX8_leastTerm_19 (lv_at hl 2 rfl) ?_
        refine lv_lconst (v := 0) hx hb dX8_leastTerm_21 (by decide) ?_
        refine W.lcmp hx hb dX8_leastTerm_22 ?_
        refine lv_if_eq (x := (lg_cmp v8 0)) (tgt := 47) hx hb dX8_leastTerm_23 (by decide) (fun c_4 => ?_) (fun c_4 => ?_)
        · have hf := if_t hf c_4
          exact J47  v4 v6 H locs ls w (lv_sub hl [0, 1] rfl) hf
        · have hf := if_f hf c_4
          refine lv_lload hx hb dX8_leastTerm_26 (lv_at hl 1 rfl) ?_
          refine lv_lload hx hb dX8_leastTerm_28 (lv_at hl 2 rfl) ?_
          obtain ⟨hd_5, hf⟩ := dvL_eq hf
          refine lv_lrem (x := v6) (y := v8) hx hb dX8_leastTerm_30 hd_5 ?_
          refine lv_topl (fun x_6 ex_6 => ?_)
          have hf := bindv_eq hf x_6 ex_6
          refine lv_lstore (lv' := [(11, .long x_6), (4, .long v4), (6, .long v6), (8, .long v8), (10, .int v10)]) hx hb dX8_leastTerm_31 hl (by decide) rfl (fun ls hl => ?_)
          refine lv_lload hx hb dX8_leastTerm_33 (lv_at hl 3 rfl) ?_
          refine lv_lstore (lv' := [(6, .long v8), (11, .long x_6), (4, .long v4), (8, .long v8), (10, .int v10)]) hx hb dX8_leastTerm_35 hl (by decide) rfl (fun ls hl => ?_)
          refine lv_lload hx hb dX8_leastTerm_37 (lv_at hl 1 rfl) ?_
          refine lv_lstore (lv' := [(8, .long x_6), (6, .long v8), (11, .long x_6), (4, .long v4), (10, .int v10)]) hx hb dX8_leastTerm_39 hl (by decide) rfl (fun ls hl => ?_)
          obtain ⟨x_7, ex_7⟩ : ∃ y : Int32, y = v10 + 1 := ⟨_, rfl⟩
          have hf := bindv_eq hf x_7 ex_7
          refine lv_iinc (v := x_7) (lv' := [(10, .int x_7), (8, .long x_6), (6, .long v8), (11, .long x_6), (4, .long v4)]) hx hb dX8_leastTerm_41 hl (k := 4) rfl (by rw [ex_7]; rfl) (by decide) rfl (fun ls hl => ?_)
          refine lv_goto (tgt := 12) hx hb dX8_leastTerm_44 (by decide) ?_
          exact ih v4 v8 x_6 x_7 H locs ls w (lv_sub hl [4, 2, 1, 0] rfl) hf
  unfold f_X8_leastTerm at hf
  refine (show ∀ (H : Heap) (locs : List Loc), Wd E A s [] H locs → W p l e ({ frames := 1, cells := 0, slots := 0, locals := 21 } : Room) s m args below meth c H locs 0 0 (MQ below (Ql E A [] r0) args s 0 0 A) (F0 m 0 ls []) from ?_) s.heap [] w
  intro H locs w
  refine lv_lload_n hx hb dX8_leastTerm_0 rfl (lv_at hl 0 rfl) ?_
  obtain ⟨r_8, er_9⟩ : ∃ y, f_J9_abs_067f4 v0 = y := ⟨_, rfl⟩
  have hf := bindv_eq hf r_8 er_9.symm
  refine callSL (As := [.long v0]) (rest := []) B w (c_J9_abs_067f4 l _ v0 er_9) (gS kt3_58 kt3_59 kt1_16 kt3_60) hdS_J9_abs_067f4 rfl rfl ⟨Nat.le_of_ble_eq_true rfl, Nat.le_of_ble_eq_true rfl⟩ rfl hl.1 rfl (Nat.le_of_ble_eq_true rfl) dX8_leastTerm_1 ⟨Nat.le_of_ble_eq_true rfl, Nat.le_of_ble_eq_true rfl⟩ (fun H locs w => ?_)
  refine lv_lstore (lv' := [(6, .long r_8), (0, .long v0), (2, .long v2), (4, .long v4)]) hx hb dX8_leastTerm_4 hl (by decide) rfl (fun ls hl => ?_)
  refine lv_lload_n hx hb dX8_leastTerm_6 rfl (lv_at hl 2 rfl) ?_
  refine lv_lstore (lv' := [(8, .long v2), (6, .long r_8), (0, .long v0), (2, .long v2), (4, .long v4)]) hx hb dX8_leastTerm_7 hl (by decide) rfl (fun ls hl => ?_)
  refine lv_iconst (v := 0) hx hb dX8_leastTerm_9 (by decide) ?_
  refine lv_istore (lv' := [(10, .int 0), (8, .long v2), (6, .long r_8), (0, .long v0), (2, .long v2), (4, .long v4)]) hx hb dX8_leastTerm_10 hl (by decide) rfl (fun ls hl => ?_)
  exact J12  5000 v4 r_8 v2 0 H locs ls w (lv_sub hl [5, 2, 1, 0] rfl) hf
