def f_X8_bit (v0 : Int32) (v1 : Int32) : Int32 := ((v0 >>> (v1 &&& 31)) &&& 1)
set_option maxHeartbeats 4000000 in
set_option maxRecDepth 100000 in
theorem c_X8_bit (l : Launch) (E : VE) (v0 : Int32) (v1 : Int32) {r0 : Int32} (hf : f_X8_bit v0 v1 = r0) : MtI l yX8_bit cX8_bit 2 { frames := 0, cells := 0, slots := 0, locals := 0 } E [.int v0, .int v1] [] [] r0 := by
  refine MtI.of (own := RX8) (by decide) rfl (Nat.le_of_ble_eq_true rfl) ?_
  intro p e s m args below meth c A B hr hk w ls hl
  have hx := B.1.1
  have hb := B.1.2.1
  have hown := B.1.2.2.2.1
  have hts := B.1.2.2.2.2
  have hl : lv_has ls 2 [(0, .int v0), (1, .int v1)] := hl
  unfold f_X8_bit at hf
  refine (show ∀ (H : Heap) (locs : List Loc), Wd E A s [] H locs → W p l e ({ frames := 0, cells := 0, slots := 0, locals := 0 } : Room) s m args below meth c H locs 0 0 (MQ below (Qi E A [] r0) args s 0 0 A) (F0 m 0 ls []) from ?_) s.heap [] w
  intro H locs w
  refine lv_iload_n hx hb dX8_bit_0 rfl (lv_at hl 0 rfl) ?_
  refine lv_iload_n hx hb dX8_bit_1 rfl (lv_at hl 1 rfl) ?_
  refine lv_ishr (x := v0) (y := v1) hx hb dX8_bit_2 ?_
  refine lv_iconst (v := 1) hx hb dX8_bit_3 (by decide) ?_
  refine lv_iand (x := (v0 >>> (v1 &&& 31))) (y := 1) hx hb dX8_bit_4 ?_
  have hf : ((v0 >>> (v1 &&& 31)) &&& 1) = r0 := hf
  cases hf
  exact retI B hr hk w dX8_bit_5
def f_X8_within (v0 : Int32) (v1 : Int32) (v2 : Int32) : Int32 := if (v0 < v1 : Prop) then (0) else (if (v2 < v0 : Prop) then (0) else (1))
set_option maxHeartbeats 4000000 in
set_option maxRecDepth 100000 in
theorem c_X8_within (l : Launch) (E : VE) (v0 : Int32) (v1 : Int32) (v2 : Int32) {r0 : Int32} (hf : f_X8_within v0 v1 v2 = r0) : MtZ l yX8_within cX8_within 3 { frames := 0, cells := 0, slots := 0, locals := 0 } E [.int v0, .int v1, .int v2] [] [] r0 := by
  refine MtZ.of (own := RX8) (by decide) rfl (Nat.le_of_ble_eq_true rfl) ?_
  intro p e s m args below meth c A B hr hk w ls hl
  have hx := B.1.1
  have hb := B.1.2.1
  have hown := B.1.2.2.2.1
  have hts := B.1.2.2.2.2
  have hl : lv_has ls 3 [(0, .int v0), (1, .int v1), (2, .int v2)] := hl
  unfold f_X8_within at hf
  refine (show ∀ (H : Heap) (locs : List Loc), Wd E A s [] H locs → W p l e ({ frames := 0, cells := 0, slots := 0, locals := 0 } : Room) s m args below meth c H locs 0 0 (MQ below (Qz E A [] r0) args s 0 0 A) (F0 m 0 ls []) from ?_) s.heap [] w
  intro H locs w
  refine lv_iload_n hx hb dX8_within_0 rfl (lv_at hl 0 rfl) ?_
  refine lv_iload_n hx hb dX8_within_1 rfl (lv_at hl 1 rfl) ?_
  refine lv_icmp_lt (x := v0) (y := v1) (tgt := 14) hx hb dX8_within_2 (by decide) (fun c_1 => ?_) (fun c_1 => ?_)
  · have hf := if_t hf c_1
    refine lv_iconst (v := 0) hx hb dX8_within_14 (by decide) ?_
    have hf : 0 = r0 := hf
    cases hf
    exact retZ B hr hk w rfl dX8_within_15
  · have hf := if_f hf c_1
    refine lv_iload_n hx hb dX8_within_5 rfl (lv_at hl 0 rfl) ?_
    refine lv_iload_n hx hb dX8_within_6 rfl (lv_at hl 2 rfl) ?_
    refine lv_icmp_gt (x := v0) (y := v2) (tgt := 14) hx hb dX8_within_7 (by decide) (fun c_2 => ?_) (fun c_2 => ?_)
    · have hf := if_t hf c_2
      refine lv_iconst (v := 0) hx hb dX8_within_14 (by decide) ?_
      have hf : 0 = r0 := hf
      cases hf
      exact retZ B hr hk w rfl dX8_within_15
    · have hf := if_f hf c_2
      refine lv_iconst (v := 1) hx hb dX8_within_10 (by decide) ?_
      refine lv_goto (tgt := 15) hx hb dX8_within_11 (by decide) ?_
      have hf : 1 = r0 := hf
      cases hf
      exact retZ B hr hk w rfl dX8_within_15
def f_X8_isShare (v0 : Int32) : Int32 := bindv (f_X8_within v0 0 1000) (fun r_1 => r_1)
set_option maxHeartbeats 4000000 in
set_option maxRecDepth 100000 in
theorem c_X8_isShare (l : Launch) (E : VE) (v0 : Int32) {r0 : Int32} (hf : f_X8_isShare v0 = r0) : MtZ l yX8_isShare cX8_isShare 1 { frames := 1, cells := 0, slots := 0, locals := 22 } E [.int v0] [] [] r0 := by
  refine MtZ.of (own := RX8) (by decide) rfl (Nat.le_of_ble_eq_true rfl) ?_
  intro p e s m args below meth c A B hr hk w ls hl
  have hx := B.1.1
  have hb := B.1.2.1
  have hown := B.1.2.2.2.1
  have hts := B.1.2.2.2.2
  have hl : lv_has ls 1 [(0, .int v0)] := hl
  unfold f_X8_isShare at hf
  refine (show ∀ (H : Heap) (locs : List Loc), Wd E A s [] H locs → W p l e ({ frames := 1, cells := 0, slots := 0, locals := 22 } : Room) s m args below meth c H locs 0 0 (MQ below (Qz E A [] r0) args s 0 0 A) (F0 m 0 ls []) from ?_) s.heap [] w
  intro H locs w
  refine lv_iload_n hx hb dX8_isShare_0 rfl (lv_at hl 0 rfl) ?_
  refine lv_iconst (v := 0) hx hb dX8_isShare_1 (by decide) ?_
  refine lv_sipush (v := 1000) hx hb dX8_isShare_2 (by decide) ?_
  obtain ⟨r_1, er_2⟩ : ∃ y, f_X8_within v0 0 1000 = y := ⟨_, rfl⟩
  have hf := bindv_eq hf r_1 er_2.symm
  refine callSZ (As := [.int v0, .int 0, .int 1000]) (rest := []) B w (c_X8_within l _ v0 0 1000 er_2) (gS kt2_72 kt2_73 kt1_1 kt2_74) hdS_X8_within rfl rfl ⟨Nat.le_of_ble_eq_true rfl, Nat.le_of_ble_eq_true rfl⟩ rfl hl.1 rfl (Nat.le_of_ble_eq_true rfl) dX8_isShare_5 (fun H locs w hzr_1 => ?_)
  have hf : r_1 = r0 := hf
  cases hf
  exact retZ B hr hk w hzr_1 dX8_isShare_8
def f_X8_hangs_2   : Nat → (Int32) → (Int32) → (Int32) → (Int32) → Option (Int32)
  | 0, _, _, _, _ => none
  | n + 1, v0, v1, v2, v3 => if (v1 ≤ v3 : Prop) then (some 0) else (bindv (f_X8_bit v0 v3) (fun r_2 => bindv (f_X8_bit v0 (v3 ^^^ v2)) (fun r_4 => if (r_2 = r_4 : Prop) then (bindv (v3 + 1 : Int32) (fun x_7 => (f_X8_hangs_2 n) v0 v1 v2 x_7)) else (some 1))))
def f_X8_hangs (v0 : Int32) (v1 : Int32) (v2 : Int32) : Option (Int32) := f_X8_hangs_2  5000 v0 v1 v2 0
set_option maxHeartbeats 4000000 in
set_option maxRecDepth 100000 in
theorem c_X8_hangs (l : Launch) (E : VE) (v0 : Int32) (v1 : Int32) (v2 : Int32) {r0 : Int32} (hf : f_X8_hangs v0 v1 v2 = some r0) : MtI l yX8_hangs cX8_hangs 4 { frames := 1, cells := 0, slots := 0, locals := 21 } E [.int v0, .int v1, .int v2] [] [] r0 := by
  refine MtI.of (own := RX8) (by decide) rfl (Nat.le_of_ble_eq_true rfl) ?_
  intro p e s m args below meth c A B hr hk w ls hl
  have hx := B.1.1
  have hb := B.1.2.1
  have hown := B.1.2.2.2.1
  have hts := B.1.2.2.2.2
  have hl : lv_has ls 4 [(0, .int v0), (1, .int v1), (2, .int v2)] := hl
  have J2 : ∀ (n : Nat) (v0 : Int32) (v1 : Int32) (v2 : Int32) (v3 : Int32) (H : Heap) (locs : List Loc) (ls : Array Slot), Wd E A s [] H locs → lv_has ls 4 [(0, .int v0), (1, .int v1), (2, .int v2), (3, .int v3)] → f_X8_hangs_2  n v0 v1 v2 v3 = some r0 → W p l e ({ frames := 1, cells := 0, slots := 0, locals := 21 } : Room) s m args below meth c H locs 0 0 (MQ below (Qi E A [] r0) args s 0 0 A) (F0 m 2 ls []) := by
    intro  n
    induction n with
    | zero =>
      intro v0 v1 v2 v3 H locs ls w hl hf
      cases hf
    | succ n ih =>
      intro v0 v1 v2 v3 H locs ls w hl hf
      rw [f_X8_hangs_2] at hf
      refine lv_iload_n hx hb dX8_hangs_2 rfl (lv_at hl 3 rfl) ?_
      refine lv_iload_n hx hb dX8_hangs_3 rfl (lv_at hl 1 rfl) ?_
      refine lv_icmp_ge (x := v3) (y := v1) (tgt := 30) hx hb dX8_hangs_4 (by decide) (fun c_1 => ?_) (fun c_1 => ?_)
      · have hf := if_t hf c_1
        refine lv_iconst (v := 0) hx hb dX8_hangs_30 (by decide) ?_
        have hf : some 0 = some r0 := hf
        cases hf
        exact retI B hr hk w dX8_hangs_31
      · have hf := if_f hf c_1
        refine lv_iload_n hx hb dX8_hangs_7 rfl (lv_at hl 0 rfl) ?_
        refine lv_iload_n hx hb dX8_hangs_8 rfl (lv_at hl 3 rfl) ?_
        obtain ⟨r_2, er_3⟩ : ∃ y, f_X8_bit v0 v3 = y := ⟨_, rfl⟩
        have hf := bindv_eq hf r_2 er_3.symm
        refine callSI (As := [.int v0, .int v3]) (rest := []) B w (c_X8_bit l _ v0 v3 er_3) (gS kt2_221 kt2_165 kt1_1 kt2_166) hdS_X8_bit rfl rfl ⟨Nat.le_of_ble_eq_true rfl, Nat.le_of_ble_eq_true rfl⟩ rfl hl.1 rfl (Nat.le_of_ble_eq_true rfl) dX8_hangs_9 (fun H locs w => ?_)
        refine lv_iload_n hx hb dX8_hangs_12 rfl (lv_at hl 0 rfl) ?_
        refine lv_iload_n hx hb dX8_hangs_13 rfl (lv_at hl 3 rfl) ?_
        refine lv_iload_n hx hb dX8_hangs_14 rfl (lv_at hl 2 rfl) ?_
        refine lv_ixor (x := v3) (y := v2) hx hb dX8_hangs_15 ?_
        obtain ⟨r_4, er_5⟩ : ∃ y, f_X8_bit v0 (v3 ^^^ v2) = y := ⟨_, rfl⟩
        have hf := bindv_eq hf r_4 er_5.symm
        refine callSI (As := [.int v0, .int (v3 ^^^ v2)]) (rest := [.int r_2]) B w (c_X8_bit l _ v0 (v3 ^^^ v2) er_5) (gS kt2_221 kt2_165 kt1_1 kt2_166) hdS_X8_bit rfl rfl ⟨Nat.le_of_ble_eq_true rfl, Nat.le_of_ble_eq_true rfl⟩ rfl hl.1 rfl (Nat.le_of_ble_eq_true rfl) dX8_hangs_16 (fun H locs w => ?_)
        refine lv_icmp_eq (x := r_2) (y := r_4) (tgt := 24) hx hb dX8_hangs_19 (by decide) (fun c_6 => ?_) (fun c_6 => ?_)
        · have hf := if_t hf c_6
          obtain ⟨x_7, ex_7⟩ : ∃ y : Int32, y = v3 + 1 := ⟨_, rfl⟩
          have hf := bindv_eq hf x_7 ex_7
          refine lv_iinc (v := x_7) (lv' := [(3, .int x_7), (0, .int v0), (1, .int v1), (2, .int v2)]) hx hb dX8_hangs_24 hl (k := 3) rfl (by rw [ex_7]; rfl) (by decide) rfl (fun ls hl => ?_)
          refine lv_goto (tgt := 2) hx hb dX8_hangs_27 (by decide) ?_
          exact ih v0 v1 v2 x_7 H locs ls w (lv_sub hl [1, 2, 3, 0] rfl) hf
        · have hf := if_f hf c_6
          refine lv_iconst (v := 1) hx hb dX8_hangs_22 (by decide) ?_
          have hf : some 1 = some r0 := hf
          cases hf
          exact retI B hr hk w dX8_hangs_23
  unfold f_X8_hangs at hf
  refine (show ∀ (H : Heap) (locs : List Loc), Wd E A s [] H locs → W p l e ({ frames := 1, cells := 0, slots := 0, locals := 21 } : Room) s m args below meth c H locs 0 0 (MQ below (Qi E A [] r0) args s 0 0 A) (F0 m 0 ls []) from ?_) s.heap [] w
  intro H locs w
  refine lv_iconst (v := 0) hx hb dX8_hangs_0 (by decide) ?_
  refine lv_istore_n (lv' := [(3, .int 0), (0, .int v0), (1, .int v1), (2, .int v2)]) hx hb dX8_hangs_1 rfl hl (by decide) rfl (fun ls hl => ?_)
  exact J2  5000 v0 v1 v2 0 H locs ls w (lv_sub hl [1, 2, 3, 0] rfl) hf
def f_X1_next (fi : Nat → Int32) (ar : Nat → Nat → Int32) (v1 : Int32) : Int32 := bindv ((Int32.toInt64 (1000 - v1)) : Int64) (fun x_1 => bindv (((((x_1 * x_1) * (Int32.toInt64 (ar 7 (Int32.toNatClampNeg 0)))) + ((x_1 * (Int32.toInt64 v1)) * (Int32.toInt64 ((ar 7 (Int32.toNatClampNeg 1)) + (ar 7 (Int32.toNatClampNeg 2)))))) + (((Int32.toInt64 v1) * (Int32.toInt64 v1)) * (Int32.toInt64 (ar 7 (Int32.toNatClampNeg 3))))) : Int64) (fun x_2 => bindv ((Int64.toInt32 (x_2 / 10000000)) : Int32) (fun x_3 => ((((100 - (fi 26)) * x_3) + (((fi 26) * 1000) * (fi 27))) / 100))))
set_option maxHeartbeats 4000000 in
set_option maxRecDepth 100000 in
theorem c_X1_next (l : Launch) (D : va_G) (ca : Nat → ClassId) (ak av ad : Nat → Nat) (fi : Nat → Int32) (fl : Nat → Int64) (ar : Nat → Nat → Int32) (v1 : Int32) {r0 : Int32} (hf : f_X1_next fi ar v1 = r0) : MtI l yX1_next cX1_next 7 { frames := 0, cells := 0, slots := 0, locals := 0 } (EC D ca ak av) [.ref (ad 5), .int v1] (wC ad ca fi fl ar) (wC ad ca fi fl ar) r0 := by
  refine MtI.of (own := RX1) (by decide) rfl (Nat.le_of_ble_eq_true rfl) ?_
  intro p e s m args below meth c A B hr hk w ls hl
  have hx := B.1.1
  have hb := B.1.2.1
  have hown := B.1.2.2.2.1
  have hts := B.1.2.2.2.2
  have hl : lv_has ls 7 [(0, .ref (ad 5)), (1, .int v1)] := hl
  unfold f_X1_next at hf
  refine (show ∀ (H : Heap) (locs : List Loc), Wd (EC D ca ak av) A s (wC ad ca fi fl ar) H locs → W p l e ({ frames := 0, cells := 0, slots := 0, locals := 0 } : Room) s m args below meth c H locs 0 0 (MQ below (Qi (EC D ca ak av) A (wC ad ca fi fl ar) r0) args s 0 0 A) (F0 m 0 ls []) from ?_) s.heap [] w
  intro H locs w
  refine lv_sipush (v := 1000) hx hb dX1_next_0 (by decide) ?_
  refine lv_iload_n hx hb dX1_next_3 rfl (lv_at hl 1 rfl) ?_
  refine lv_isub (x := 1000) (y := v1) hx hb dX1_next_4 ?_
  refine lv_i2l hx hb dX1_next_5 rfl ?_
  refine lv_topl (fun x_1 ex_1 => ?_)
  have hf := bindv_eq hf x_1 ex_1
  refine lv_lstore_n (lv' := [(2, .long x_1), (0, .ref (ad 5)), (1, .int v1)]) hx hb dX1_next_6 rfl hl (by decide) rfl (fun ls hl => ?_)
  refine lv_lload_n hx hb dX1_next_7 rfl (lv_at hl 0 rfl) ?_
  refine lv_lload_n hx hb dX1_next_8 rfl (lv_at hl 0 rfl) ?_
  refine lv_lmul (x := x_1) (y := x_1) hx hb dX1_next_9 ?_
  refine lv_aload_n hx hb dX1_next_10 rfl (lv_at hl 1 rfl) ?_
  refine gfC_5_1 B w kt1_126 dX1_next_11 ?_
  refine lv_iconst (v := 0) hx hb dX1_next_14 (by decide) ?_
  refine alC_7 B w (vp_in_iff.mpr (by decide)) dX1_next_15 ?_
  refine lv_i2l hx hb dX1_next_16 rfl ?_
  refine lv_lmul (x := (x_1 * x_1)) (y := (Int32.toInt64 (ar 7 (Int32.toNatClampNeg 0)))) hx hb dX1_next_17 ?_
  refine lv_lload_n hx hb dX1_next_18 rfl (lv_at hl 0 rfl) ?_
  refine lv_iload_n hx hb dX1_next_19 rfl (lv_at hl 2 rfl) ?_
  refine lv_i2l hx hb dX1_next_20 rfl ?_
  refine lv_lmul (x := x_1) (y := (Int32.toInt64 v1)) hx hb dX1_next_21 ?_
  refine lv_aload_n hx hb dX1_next_22 rfl (lv_at hl 1 rfl) ?_
  refine gfC_5_1 B w kt1_126 dX1_next_23 ?_
  refine lv_iconst (v := 1) hx hb dX1_next_26 (by decide) ?_
  refine alC_7 B w (vp_in_iff.mpr (by decide)) dX1_next_27 ?_
  refine lv_aload_n hx hb dX1_next_28 rfl (lv_at hl 1 rfl) ?_
  refine gfC_5_1 B w kt1_126 dX1_next_29 ?_
  refine lv_iconst (v := 2) hx hb dX1_next_32 (by decide) ?_
  refine alC_7 B w (vp_in_iff.mpr (by decide)) dX1_next_33 ?_
  refine lv_iadd (x := (ar 7 (Int32.toNatClampNeg 1))) (y := (ar 7 (Int32.toNatClampNeg 2))) hx hb dX1_next_34 ?_
  refine lv_i2l hx hb dX1_next_35 rfl ?_
  refine lv_lmul (x := (x_1 * (Int32.toInt64 v1))) (y := (Int32.toInt64 ((ar 7 (Int32.toNatClampNeg 1)) + (ar 7 (Int32.toNatClampNeg 2))))) hx hb dX1_next_36 ?_
  refine lv_ladd (x := ((x_1 * x_1) * (Int32.toInt64 (ar 7 (Int32.toNatClampNeg 0))))) (y := ((x_1 * (Int32.toInt64 v1)) * (Int32.toInt64 ((ar 7 (Int32.toNatClampNeg 1)) + (ar 7 (Int32.toNatClampNeg 2)))))) hx hb dX1_next_37 ?_
  refine lv_iload_n hx hb dX1_next_38 rfl (lv_at hl 2 rfl) ?_
  refine lv_i2l hx hb dX1_next_39 rfl ?_
  refine lv_iload_n hx hb dX1_next_40 rfl (lv_at hl 2 rfl) ?_
  refine lv_i2l hx hb dX1_next_41 rfl ?_
  refine lv_lmul (x := (Int32.toInt64 v1)) (y := (Int32.toInt64 v1)) hx hb dX1_next_42 ?_
  refine lv_aload_n hx hb dX1_next_43 rfl (lv_at hl 1 rfl) ?_
  refine gfC_5_1 B w kt1_126 dX1_next_44 ?_
  refine lv_iconst (v := 3) hx hb dX1_next_47 (by decide) ?_
  refine alC_7 B w (vp_in_iff.mpr (by decide)) dX1_next_48 ?_
  refine lv_i2l hx hb dX1_next_49 rfl ?_
  refine lv_lmul (x := ((Int32.toInt64 v1) * (Int32.toInt64 v1))) (y := (Int32.toInt64 (ar 7 (Int32.toNatClampNeg 3)))) hx hb dX1_next_50 ?_
  refine lv_ladd (x := (((x_1 * x_1) * (Int32.toInt64 (ar 7 (Int32.toNatClampNeg 0)))) + ((x_1 * (Int32.toInt64 v1)) * (Int32.toInt64 ((ar 7 (Int32.toNatClampNeg 1)) + (ar 7 (Int32.toNatClampNeg 2))))))) (y := (((Int32.toInt64 v1) * (Int32.toInt64 v1)) * (Int32.toInt64 (ar 7 (Int32.toNatClampNeg 3))))) hx hb dX1_next_51 ?_
  refine lv_topl (fun x_2 ex_2 => ?_)
  have hf := bindv_eq hf x_2 ex_2
  refine lv_lstore (lv' := [(4, .long x_2), (2, .long x_1), (0, .ref (ad 5)), (1, .int v1)]) hx hb dX1_next_52 hl (by decide) rfl (fun ls hl => ?_)
  refine lv_lload hx hb dX1_next_54 (lv_at hl 0 rfl) ?_
  refine lv_ldc2 (own := RX1) (v := 10000000) hx hb hown (hts _ kt3_3) dX1_next_56 ?_
  refine lv_ldiv (x := x_2) (y := 10000000) hx hb dX1_next_59 (by decide) ?_
  refine lv_l2i hx hb dX1_next_60 rfl ?_
  refine lv_topi (fun x_3 ex_3 => ?_)
  have hf := bindv_eq hf x_3 ex_3
  refine lv_istore (lv' := [(6, .int x_3), (4, .long x_2), (2, .long x_1), (0, .ref (ad 5)), (1, .int v1)]) hx hb dX1_next_61 hl (by decide) rfl (fun ls hl => ?_)
  refine lv_bipush (v := 100) hx hb dX1_next_63 (by decide) ?_
  refine lv_aload_n hx hb dX1_next_65 rfl (lv_at hl 3 rfl) ?_
  refine gfC_5_6 B w kt1_136 dX1_next_66 ?_
  refine lv_isub (x := 100) (y := (fi 26)) hx hb dX1_next_69 ?_
  refine lv_iload hx hb dX1_next_70 (lv_at hl 0 rfl) ?_
  refine lv_imul (x := (100 - (fi 26))) (y := x_3) hx hb dX1_next_72 ?_
  refine lv_aload_n hx hb dX1_next_73 rfl (lv_at hl 3 rfl) ?_
  refine gfC_5_6 B w kt1_136 dX1_next_74 ?_
  refine lv_sipush (v := 1000) hx hb dX1_next_77 (by decide) ?_
  refine lv_imul (x := (fi 26)) (y := 1000) hx hb dX1_next_80 ?_
  refine lv_aload_n hx hb dX1_next_81 rfl (lv_at hl 3 rfl) ?_
  refine gfC_5_7 B w kt1_137 dX1_next_82 ?_
  refine lv_imul (x := ((fi 26) * 1000)) (y := (fi 27)) hx hb dX1_next_85 ?_
  refine lv_iadd (x := ((100 - (fi 26)) * x_3)) (y := (((fi 26) * 1000) * (fi 27))) hx hb dX1_next_86 ?_
  refine lv_bipush (v := 100) hx hb dX1_next_87 (by decide) ?_
  refine lv_idiv (x := (((100 - (fi 26)) * x_3) + (((fi 26) * 1000) * (fi 27)))) (y := 100) hx hb dX1_next_89 (by decide) ?_
  have hf : ((((100 - (fi 26)) * x_3) + (((fi 26) * 1000) * (fi 27))) / 100) = r0 := hf
  cases hf
  exact retI B hr hk w dX1_next_90
def f_X9_gcd_18   : Nat → (Int64) → (Int64) → Option (Int64)
  | 0, _, _ => none
  | n + 1, v4, v6 => if ((lg_cmp v6 0) = 0 : Prop) then (some v4) else (dvL v6 (bindv ((v4 - v4 / v6 * v6) : Int64) (fun x_3 => (f_X9_gcd_18 n) v6 x_3)))
def f_X9_gcd_13   (v2 : Int64) (t0 : Int64) : Option (Int64) := f_X9_gcd_18  5000 t0 v2
def f_X9_gcd (v0 : Int64) (v2 : Int64) : Option (Int64) := if (0 ≤ (lg_cmp v0 0) : Prop) then (f_X9_gcd_13  v2 v0) else (f_X9_gcd_13  v2 (0 - v0))
set_option maxHeartbeats 4000000 in
set_option maxRecDepth 100000 in
theorem c_X9_gcd (l : Launch) (E : VE) (v0 : Int64) (v2 : Int64) {r0 : Int64} (hf : f_X9_gcd v0 v2 = some r0) : MtL l yX9_gcd cX9_gcd 10 { frames := 0, cells := 0, slots := 0, locals := 0 } E [.long v0, .long v2] [] [] r0 := by
  refine MtL.of (own := RX9) (by decide) rfl (Nat.le_of_ble_eq_true rfl) ?_
  intro p e s m args below meth c A B hr hk w ls hl
  have hx := B.1.1
  have hb := B.1.2.1
  have hown := B.1.2.2.2.1
  have hts := B.1.2.2.2.2
  have hl : lv_has ls 10 [(0, .long v0), (2, .long v2)] := hl
  have J18 : ∀ (n : Nat) (v4 : Int64) (v6 : Int64) (H : Heap) (locs : List Loc) (ls : Array Slot), Wd E A s [] H locs → lv_has ls 10 [(4, .long v4), (6, .long v6)] → f_X9_gcd_18  n v4 v6 = some r0 → W p l e ({ frames := 0, cells := 0, slots := 0, locals := 0 } : Room) s m args below meth c H locs 0 0 (MQ below (Ql E A [] r0) args s 0 0 A) (F0 m 18 ls []) := by
    intro  n
    induction n with
    | zero =>
      intro v4 v6 H locs ls w hl hf
      cases hf
    | succ n ih =>
      intro v4 v6 H locs ls w hl hf
      rw [f_X9_gcd_18] at hf
      refine lv_lload hx hb dX9_gcd_18 (lv_at hl 1 rfl) ?_
      refine lv_lconst (v := 0) hx hb dX9_gcd_20 (by decide) ?_
      refine W.lcmp hx hb dX9_gcd_21 ?_
      refine lv_if_eq (x := (lg_cmp v6 0)) (tgt := 43) hx hb dX9_gcd_22 (by decide) (fun c_1 => ?_) (fun c_1 => ?_)
      · have hf := if_t hf c_1
        refine lv_lload hx hb dX9_gcd_43 (lv_at hl 0 rfl) ?_
        have hf : some v4 = some r0 := hf
        cases hf
        exact retL B hr hk w dX9_gcd_45
      · have hf := if_f hf c_1
        refine lv_lload hx hb dX9_gcd_25 (lv_at hl 0 rfl) ?_
        refine lv_lload hx hb dX9_gcd_27 (lv_at hl 1 rfl) ?_
        obtain ⟨hd_2, hf⟩ := dvL_eq hf
        refine lv_lrem (x := v4) (y := v6) hx hb dX9_gcd_29 hd_2 ?_
        refine lv_topl (fun x_3 ex_3 => ?_)
        have hf := bindv_eq hf x_3 ex_3
        refine lv_lstore (lv' := [(8, .long x_3), (4, .long v4), (6, .long v6)]) hx hb dX9_gcd_30 hl (by decide) rfl (fun ls hl => ?_)
        refine lv_lload hx hb dX9_gcd_32 (lv_at hl 2 rfl) ?_
        refine lv_lstore (lv' := [(4, .long v6), (8, .long x_3), (6, .long v6)]) hx hb dX9_gcd_34 hl (by decide) rfl (fun ls hl => ?_)
        refine lv_lload hx hb dX9_gcd_36 (lv_at hl 1 rfl) ?_
        refine lv_lstore (lv' := [(6, .long x_3), (4, .long v6), (8, .long x_3)]) hx hb dX9_gcd_38 hl (by decide) rfl (fun ls hl => ?_)
        refine lv_goto (tgt := 18) hx hb dX9_gcd_40 (by decide) ?_
        exact ih v6 x_3 H locs ls w (lv_sub hl [1, 0] rfl) hf
  have J13 : ∀ (v2 : Int64) (t0 : Int64) (H : Heap) (locs : List Loc) (ls : Array Slot), Wd E A s [] H locs → lv_has ls 10 [(2, .long v2)] → f_X9_gcd_13  v2 t0 = some r0 → W p l e ({ frames := 0, cells := 0, slots := 0, locals := 0 } : Room) s m args below meth c H locs 0 0 (MQ below (Ql E A [] r0) args s 0 0 A) (F0 m 13 ls [.long t0]) := by
    intro  v2 t0 H locs ls w hl hf
    unfold f_X9_gcd_13 at hf
    refine lv_lstore (lv' := [(4, .long t0), (2, .long v2)]) hx hb dX9_gcd_13 hl (by decide) rfl (fun ls hl => ?_)
    refine lv_lload_n hx hb dX9_gcd_15 rfl (lv_at hl 1 rfl) ?_
    refine lv_lstore (lv' := [(6, .long v2), (4, .long t0), (2, .long v2)]) hx hb dX9_gcd_16 hl (by decide) rfl (fun ls hl => ?_)
    exact J18  5000 t0 v2 H locs ls w (lv_sub hl [1, 0] rfl) hf
  unfold f_X9_gcd at hf
  refine (show ∀ (H : Heap) (locs : List Loc), Wd E A s [] H locs → W p l e ({ frames := 0, cells := 0, slots := 0, locals := 0 } : Room) s m args below meth c H locs 0 0 (MQ below (Ql E A [] r0) args s 0 0 A) (F0 m 0 ls []) from ?_) s.heap [] w
  intro H locs w
  refine lv_lload_n hx hb dX9_gcd_0 rfl (lv_at hl 0 rfl) ?_
  refine lv_lconst (v := 0) hx hb dX9_gcd_1 (by decide) ?_
  refine W.lcmp hx hb dX9_gcd_2 ?_
  refine lv_if_ge (x := (lg_cmp v0 0)) (tgt := 12) hx hb dX9_gcd_3 (by decide) (fun c_4 => ?_) (fun c_4 => ?_)
  · have hf := if_t hf c_4
    refine lv_lload_n hx hb dX9_gcd_12 rfl (lv_at hl 0 rfl) ?_
    exact J13  v2 v0 H locs ls w (lv_sub hl [1] rfl) hf
  · have hf := if_f hf c_4
    refine lv_lconst (v := 0) hx hb dX9_gcd_6 (by decide) ?_
    refine lv_lload_n hx hb dX9_gcd_7 rfl (lv_at hl 0 rfl) ?_
    refine lv_lsub (x := 0) (y := v0) hx hb dX9_gcd_8 ?_
    refine lv_goto (tgt := 13) hx hb dX9_gcd_9 (by decide) ?_
    exact J13  v2 (0 - v0) H locs ls w (lv_sub hl [1] rfl) hf
def f_X9_shareOf (v0 : Int32) (v1 : Int32) : Int32 := if (v0 = 1 : Prop) then (v1) else ((1000 - v1))
set_option maxHeartbeats 4000000 in
set_option maxRecDepth 100000 in
theorem c_X9_shareOf (l : Launch) (E : VE) (v0 : Int32) (v1 : Int32) {r0 : Int32} (hf : f_X9_shareOf v0 v1 = r0) : MtI l yX9_shareOf cX9_shareOf 2 { frames := 0, cells := 0, slots := 0, locals := 0 } E [.int v0, .int v1] [] [] r0 := by
  refine MtI.of (own := RX9) (by decide) rfl (Nat.le_of_ble_eq_true rfl) ?_
  intro p e s m args below meth c A B hr hk w ls hl
  have hx := B.1.1
  have hb := B.1.2.1
  have hown := B.1.2.2.2.1
  have hts := B.1.2.2.2.2
  have hl : lv_has ls 2 [(0, .int v0), (1, .int v1)] := hl
  unfold f_X9_shareOf at hf
  refine (show ∀ (H : Heap) (locs : List Loc), Wd E A s [] H locs → W p l e ({ frames := 0, cells := 0, slots := 0, locals := 0 } : Room) s m args below meth c H locs 0 0 (MQ below (Qi E A [] r0) args s 0 0 A) (F0 m 0 ls []) from ?_) s.heap [] w
  intro H locs w
  refine lv_iload_n hx hb dX9_shareOf_0 rfl (lv_at hl 0 rfl) ?_
  refine lv_iconst (v := 1) hx hb dX9_shareOf_1 (by decide) ?_
  refine lv_icmp_ne (x := v0) (y := 1) (tgt := 9) hx hb dX9_shareOf_2 (by decide) (fun c_1 => ?_) (fun c_1 => ?_)
  · have hf := if_f hf c_1
    refine lv_sipush (v := 1000) hx hb dX9_shareOf_9 (by decide) ?_
    refine lv_iload_n hx hb dX9_shareOf_12 rfl (lv_at hl 1 rfl) ?_
    refine lv_isub (x := 1000) (y := v1) hx hb dX9_shareOf_13 ?_
    have hf : (1000 - v1) = r0 := hf
    cases hf
    exact retI B hr hk w dX9_shareOf_14
  · have hf := if_t hf c_1
    refine lv_iload_n hx hb dX9_shareOf_5 rfl (lv_at hl 1 rfl) ?_
    refine lv_goto (tgt := 14) hx hb dX9_shareOf_6 (by decide) ?_
    have hf : v1 = r0 := hf
    cases hf
    exact retI B hr hk w dX9_shareOf_14
def f_X9_means (v0 : Int32) (v1 : Int32) (v2 : Int32) : Int32 := ((v0 >>> (((2 * v1) + v2) &&& 31)) &&& 1)
set_option maxHeartbeats 4000000 in
set_option maxRecDepth 100000 in
theorem c_X9_means (l : Launch) (E : VE) (v0 : Int32) (v1 : Int32) (v2 : Int32) {r0 : Int32} (hf : f_X9_means v0 v1 v2 = r0) : MtI l yX9_means cX9_means 3 { frames := 0, cells := 0, slots := 0, locals := 0 } E [.int v0, .int v1, .int v2] [] [] r0 := by
  refine MtI.of (own := RX9) (by decide) rfl (Nat.le_of_ble_eq_true rfl) ?_
  intro p e s m args below meth c A B hr hk w ls hl
  have hx := B.1.1
  have hb := B.1.2.1
  have hown := B.1.2.2.2.1
  have hts := B.1.2.2.2.2
  have hl : lv_has ls 3 [(0, .int v0), (1, .int v1), (2, .int v2)] := hl
  unfold f_X9_means at hf
  refine (show ∀ (H : Heap) (locs : List Loc), Wd E A s [] H locs → W p l e ({ frames := 0, cells := 0, slots := 0, locals := 0 } : Room) s m args below meth c H locs 0 0 (MQ below (Qi E A [] r0) args s 0 0 A) (F0 m 0 ls []) from ?_) s.heap [] w
  intro H locs w
  refine lv_iload_n hx hb dX9_means_0 rfl (lv_at hl 0 rfl) ?_
  refine lv_iconst (v := 2) hx hb dX9_means_1 (by decide) ?_
  refine lv_iload_n hx hb dX9_means_2 rfl (lv_at hl 1 rfl) ?_
  refine lv_imul (x := 2) (y := v1) hx hb dX9_means_3 ?_
  refine lv_iload_n hx hb dX9_means_4 rfl (lv_at hl 2 rfl) ?_
  refine lv_iadd (x := (2 * v1)) (y := v2) hx hb dX9_means_5 ?_
  refine lv_ishr (x := v0) (y := ((2 * v1) + v2)) hx hb dX9_means_6 ?_
  refine lv_iconst (v := 1) hx hb dX9_means_7 (by decide) ?_
  refine lv_iand (x := (v0 >>> (((2 * v1) + v2) &&& 31))) (y := 1) hx hb dX9_means_8 ?_
  have hf : ((v0 >>> (((2 * v1) + v2) &&& 31)) &&& 1) = r0 := hf
  cases hf
  exact retI B hr hk w dX9_means_9
def f_X9_calls (v0 : Int32) (v1 : Int32) (v2 : Int32) (v3 : Int32) : Int32 := ((v0 >>> ((((4 * v1) + (2 * v2)) + v3) &&& 31)) &&& 1)
set_option maxHeartbeats 4000000 in
set_option maxRecDepth 100000 in
theorem c_X9_calls (l : Launch) (E : VE) (v0 : Int32) (v1 : Int32) (v2 : Int32) (v3 : Int32) {r0 : Int32} (hf : f_X9_calls v0 v1 v2 v3 = r0) : MtI l yX9_calls cX9_calls 4 { frames := 0, cells := 0, slots := 0, locals := 0 } E [.int v0, .int v1, .int v2, .int v3] [] [] r0 := by
  refine MtI.of (own := RX9) (by decide) rfl (Nat.le_of_ble_eq_true rfl) ?_
  intro p e s m args below meth c A B hr hk w ls hl
  have hx := B.1.1
  have hb := B.1.2.1
  have hown := B.1.2.2.2.1
  have hts := B.1.2.2.2.2
  have hl : lv_has ls 4 [(0, .int v0), (1, .int v1), (2, .int v2), (3, .int v3)] := hl
  unfold f_X9_calls at hf
  refine (show ∀ (H : Heap) (locs : List Loc), Wd E A s [] H locs → W p l e ({ frames := 0, cells := 0, slots := 0, locals := 0 } : Room) s m args below meth c H locs 0 0 (MQ below (Qi E A [] r0) args s 0 0 A) (F0 m 0 ls []) from ?_) s.heap [] w
  intro H locs w
  refine lv_iload_n hx hb dX9_calls_0 rfl (lv_at hl 0 rfl) ?_
  refine lv_iconst (v := 4) hx hb dX9_calls_1 (by decide) ?_
  refine lv_iload_n hx hb dX9_calls_2 rfl (lv_at hl 1 rfl) ?_
  refine lv_imul (x := 4) (y := v1) hx hb dX9_calls_3 ?_
  refine lv_iconst (v := 2) hx hb dX9_calls_4 (by decide) ?_
  refine lv_iload_n hx hb dX9_calls_5 rfl (lv_at hl 2 rfl) ?_
  refine lv_imul (x := 2) (y := v2) hx hb dX9_calls_6 ?_
  refine lv_iadd (x := (4 * v1)) (y := (2 * v2)) hx hb dX9_calls_7 ?_
  refine lv_iload_n hx hb dX9_calls_8 rfl (lv_at hl 3 rfl) ?_
  refine lv_iadd (x := ((4 * v1) + (2 * v2))) (y := v3) hx hb dX9_calls_9 ?_
  refine lv_ishr (x := v0) (y := (((4 * v1) + (2 * v2)) + v3)) hx hb dX9_calls_10 ?_
  refine lv_iconst (v := 1) hx hb dX9_calls_11 (by decide) ?_
  refine lv_iand (x := (v0 >>> ((((4 * v1) + (2 * v2)) + v3) &&& 31))) (y := 1) hx hb dX9_calls_12 ?_
  have hf : ((v0 >>> ((((4 * v1) + (2 * v2)) + v3) &&& 31)) &&& 1) = r0 := hf
  cases hf
  exact retI B hr hk w dX9_calls_13
def f_X9_calledGood_91 (ar : Nat → Nat → Int32) (k32 : Int32 → Int32 → Int32 → Int32 → Int32 → Int32 → Option (Int32)) (v2 : Int32) (v3 : Int32) (v4 : Int32) (v5 : Int32) (v7 : Int32) (t0 : Int32) (t1 : Int32) (t2 : Int32) : Option (Int32) := bindv ((t0 + (t1 * t2)) : Int32) (fun x_1 => bindv (v7 + 1 : Int32) (fun x_2 => k32 v2 v3 v4 v5 x_1 x_2))
def f_X9_calledGood_54 (ar : Nat → Nat → Int32) (k32 : Int32 → Int32 → Int32 → Int32 → Int32 → Int32 → Option (Int32)) (v2 : Int32) (v3 : Int32) (v4 : Int32) (v5 : Int32) (v6 : Int32) (v7 : Int32) (t0 : Int32) : Option (Int32) := bindv (f_X9_calls v2 v3 v4 v7) (fun r_3 => if (r_3 = 1 : Prop) then (f_X9_calledGood_91 ar k32 v2 v3 v4 v5 v7 v6 t0 (100 - (ar 1 (Int32.toNatClampNeg 3)))) else (f_X9_calledGood_91 ar k32 v2 v3 v4 v5 v7 v6 t0 (ar 1 (Int32.toNatClampNeg 3))))
def f_X9_calledGood_32 (ar : Nat → Nat → Int32)  : Nat → (Int32) → (Int32) → (Int32) → (Int32) → (Int32) → (Int32) → Option (Int32)
  | 0, _, _, _, _, _, _ => none
  | n + 1, v2, v3, v4, v5, v6, v7 => if (2 ≤ v7 : Prop) then (some v6) else (if (v7 = 1 : Prop) then (f_X9_calledGood_54 ar (f_X9_calledGood_32 ar n) v2 v3 v4 v5 v6 v7 v5) else (f_X9_calledGood_54 ar (f_X9_calledGood_32 ar n) v2 v3 v4 v5 v6 v7 (100 - v5)))
def f_X9_calledGood_24 (ar : Nat → Nat → Int32)  (v2 : Int32) (v3 : Int32) (v4 : Int32) (t0 : Int32) : Option (Int32) := f_X9_calledGood_32 ar 5000 v2 v3 v4 t0 0 0
def f_X9_calledGood (ar : Nat → Nat → Int32) (v1 : Int32) (v2 : Int32) (v3 : Int32) (v4 : Int32) : Option (Int32) := bindv (f_X9_means v1 v3 v4) (fun r_8 => if (r_8 = 1 : Prop) then (f_X9_calledGood_24 ar v2 v3 v4 (100 - (ar 1 (Int32.toNatClampNeg 2)))) else (f_X9_calledGood_24 ar v2 v3 v4 0))
set_option maxHeartbeats 4000000 in
set_option maxRecDepth 100000 in
theorem c_X9_calledGood (l : Launch) (D : va_G) (ca : Nat → ClassId) (ak av ad : Nat → Nat) (fi : Nat → Int32) (fl : Nat → Int64) (ar : Nat → Nat → Int32) (v1 : Int32) (v2 : Int32) (v3 : Int32) (v4 : Int32) {r0 : Int32} (hf : f_X9_calledGood ar v1 v2 v3 v4 = some r0) : MtI l yX9_calledGood cX9_calledGood 9 { frames := 1, cells := 0, slots := 0, locals := 23 } (EM D ca ak av) [.ref (ad 0), .int v1, .int v2, .int v3, .int v4] (wM ad ca fi fl ar) (wM ad ca fi fl ar) r0 := by
  refine MtI.of (own := RX9) (by decide) rfl (Nat.le_of_ble_eq_true rfl) ?_
  intro p e s m args below meth c A B hr hk w ls hl
  have hx := B.1.1
  have hb := B.1.2.1
  have hown := B.1.2.2.2.1
  have hts := B.1.2.2.2.2
  have hl : lv_has ls 9 [(0, .ref (ad 0)), (1, .int v1), (2, .int v2), (3, .int v3), (4, .int v4)] := hl
  have J91 : ∀ (k32 : Int32 → Int32 → Int32 → Int32 → Int32 → Int32 → Option (Int32)) (hk32 : ∀ (v2 : Int32) (v3 : Int32) (v4 : Int32) (v5 : Int32) (v6 : Int32) (v7 : Int32) (H : Heap) (locs : List Loc) (ls : Array Slot), Wd (EM D ca ak av) A s (wM ad ca fi fl ar) H locs → lv_has ls 9 [(0, .ref (ad 0)), (2, .int v2), (3, .int v3), (4, .int v4), (5, .int v5), (6, .int v6), (7, .int v7)] → k32 v2 v3 v4 v5 v6 v7 = some r0 → W p l e ({ frames := 1, cells := 0, slots := 0, locals := 23 } : Room) s m args below meth c H locs 0 0 (MQ below (Qi (EM D ca ak av) A (wM ad ca fi fl ar) r0) args s 0 0 A) (F0 m 32 ls [])) (v2 : Int32) (v3 : Int32) (v4 : Int32) (v5 : Int32) (v7 : Int32) (t0 : Int32) (t1 : Int32) (t2 : Int32) (H : Heap) (locs : List Loc) (ls : Array Slot), Wd (EM D ca ak av) A s (wM ad ca fi fl ar) H locs → lv_has ls 9 [(0, .ref (ad 0)), (2, .int v2), (3, .int v3), (4, .int v4), (5, .int v5), (7, .int v7)] → f_X9_calledGood_91 ar k32 v2 v3 v4 v5 v7 t0 t1 t2 = some r0 → W p l e ({ frames := 1, cells := 0, slots := 0, locals := 23 } : Room) s m args below meth c H locs 0 0 (MQ below (Qi (EM D ca ak av) A (wM ad ca fi fl ar) r0) args s 0 0 A) (F0 m 91 ls [.int t2, .int t1, .int t0]) := by
    intro k32 hk32 v2 v3 v4 v5 v7 t0 t1 t2 H locs ls w hl hf
    unfold f_X9_calledGood_91 at hf
    refine lv_imul (x := t1) (y := t2) hx hb dX9_calledGood_91 ?_
    refine lv_iadd (x := t0) (y := (t1 * t2)) hx hb dX9_calledGood_92 ?_
    refine lv_topi (fun x_1 ex_1 => ?_)
    have hf := bindv_eq hf x_1 ex_1
    refine lv_istore (lv' := [(6, .int x_1), (0, .ref (ad 0)), (2, .int v2), (3, .int v3), (4, .int v4), (5, .int v5), (7, .int v7)]) hx hb dX9_calledGood_93 hl (by decide) rfl (fun ls hl => ?_)
    obtain ⟨x_2, ex_2⟩ : ∃ y : Int32, y = v7 + 1 := ⟨_, rfl⟩
    have hf := bindv_eq hf x_2 ex_2
    refine lv_iinc (v := x_2) (lv' := [(7, .int x_2), (6, .int x_1), (0, .ref (ad 0)), (2, .int v2), (3, .int v3), (4, .int v4), (5, .int v5)]) hx hb dX9_calledGood_95 hl (k := 6) rfl (by rw [ex_2]; rfl) (by decide) rfl (fun ls hl => ?_)
    refine lv_goto (tgt := 32) hx hb dX9_calledGood_98 (by decide) ?_
    exact hk32 v2 v3 v4 v5 x_1 x_2 H locs ls w (lv_sub hl [2, 3, 4, 5, 6, 1, 0] rfl) hf
  have J54 : ∀ (k32 : Int32 → Int32 → Int32 → Int32 → Int32 → Int32 → Option (Int32)) (hk32 : ∀ (v2 : Int32) (v3 : Int32) (v4 : Int32) (v5 : Int32) (v6 : Int32) (v7 : Int32) (H : Heap) (locs : List Loc) (ls : Array Slot), Wd (EM D ca ak av) A s (wM ad ca fi fl ar) H locs → lv_has ls 9 [(0, .ref (ad 0)), (2, .int v2), (3, .int v3), (4, .int v4), (5, .int v5), (6, .int v6), (7, .int v7)] → k32 v2 v3 v4 v5 v6 v7 = some r0 → W p l e ({ frames := 1, cells := 0, slots := 0, locals := 23 } : Room) s m args below meth c H locs 0 0 (MQ below (Qi (EM D ca ak av) A (wM ad ca fi fl ar) r0) args s 0 0 A) (F0 m 32 ls [])) (v2 : Int32) (v3 : Int32) (v4 : Int32) (v5 : Int32) (v6 : Int32) (v7 : Int32) (t0 : Int32) (H : Heap) (locs : List Loc) (ls : Array Slot), Wd (EM D ca ak av) A s (wM ad ca fi fl ar) H locs → lv_has ls 9 [(0, .ref (ad 0)), (2, .int v2), (3, .int v3), (4, .int v4), (5, .int v5), (6, .int v6), (7, .int v7)] → f_X9_calledGood_54 ar k32 v2 v3 v4 v5 v6 v7 t0 = some r0 → W p l e ({ frames := 1, cells := 0, slots := 0, locals := 23 } : Room) s m args below meth c H locs 0 0 (MQ below (Qi (EM D ca ak av) A (wM ad ca fi fl ar) r0) args s 0 0 A) (F0 m 54 ls [.int t0]) := by
    intro k32 hk32 v2 v3 v4 v5 v6 v7 t0 H locs ls w hl hf
    unfold f_X9_calledGood_54 at hf
    refine lv_istore (lv' := [(8, .int t0), (0, .ref (ad 0)), (2, .int v2), (3, .int v3), (4, .int v4), (5, .int v5), (6, .int v6), (7, .int v7)]) hx hb dX9_calledGood_54 hl (by decide) rfl (fun ls hl => ?_)
    refine lv_iload hx hb dX9_calledGood_56 (lv_at hl 6 rfl) ?_
    refine lv_iload hx hb dX9_calledGood_58 (lv_at hl 0 rfl) ?_
    refine lv_iload_n hx hb dX9_calledGood_60 rfl (lv_at hl 2 rfl) ?_
    refine lv_iload_n hx hb dX9_calledGood_61 rfl (lv_at hl 3 rfl) ?_
    refine lv_iload hx hb dX9_calledGood_62 (lv_at hl 4 rfl) ?_
    refine lv_iload hx hb dX9_calledGood_64 (lv_at hl 7 rfl) ?_
    obtain ⟨r_3, er_4⟩ : ∃ y, f_X9_calls v2 v3 v4 v7 = y := ⟨_, rfl⟩
    have hf := bindv_eq hf r_3 er_4.symm
    refine callSI (As := [.int v2, .int v3, .int v4, .int v7]) (rest := [.int t0, .int v6]) B w (c_X9_calls l _ v2 v3 v4 v7 er_4) (gS kt4_175 kt4_176 kt1_11 kt4_177) hdS_X9_calls rfl rfl ⟨Nat.le_of_ble_eq_true rfl, Nat.le_of_ble_eq_true rfl⟩ rfl hl.1 rfl (Nat.le_of_ble_eq_true rfl) dX9_calledGood_66 (fun H locs w => ?_)
    refine lv_iconst (v := 1) hx hb dX9_calledGood_69 (by decide) ?_
    refine lv_icmp_ne (x := r_3) (y := 1) (tgt := 85) hx hb dX9_calledGood_70 (by decide) (fun c_5 => ?_) (fun c_5 => ?_)
    · have hf := if_f hf c_5
      refine lv_aload_n hx hb dX9_calledGood_85 rfl (lv_at hl 1 rfl) ?_
      refine gfM_0_0 B w kt4_25 dX9_calledGood_86 ?_
      refine lv_iconst (v := 3) hx hb dX9_calledGood_89 (by decide) ?_
      refine alM_1 B w (vp_in_iff.mpr (by decide)) dX9_calledGood_90 ?_
      exact J91 _ hk32 v2 v3 v4 v5 v7 v6 t0 (ar 1 (Int32.toNatClampNeg 3)) H locs ls w (lv_sub hl [1, 2, 3, 4, 5, 7] rfl) hf
    · have hf := if_t hf c_5
      refine lv_bipush (v := 100) hx hb dX9_calledGood_73 (by decide) ?_
      refine lv_aload_n hx hb dX9_calledGood_75 rfl (lv_at hl 1 rfl) ?_
      refine gfM_0_0 B w kt4_25 dX9_calledGood_76 ?_
      refine lv_iconst (v := 3) hx hb dX9_calledGood_79 (by decide) ?_
      refine alM_1 B w (vp_in_iff.mpr (by decide)) dX9_calledGood_80 ?_
      refine lv_isub (x := 100) (y := (ar 1 (Int32.toNatClampNeg 3))) hx hb dX9_calledGood_81 ?_
      refine lv_goto (tgt := 91) hx hb dX9_calledGood_82 (by decide) ?_
      exact J91 _ hk32 v2 v3 v4 v5 v7 v6 t0 (100 - (ar 1 (Int32.toNatClampNeg 3))) H locs ls w (lv_sub hl [1, 2, 3, 4, 5, 7] rfl) hf
  have J32 : ∀ (n : Nat) (v2 : Int32) (v3 : Int32) (v4 : Int32) (v5 : Int32) (v6 : Int32) (v7 : Int32) (H : Heap) (locs : List Loc) (ls : Array Slot), Wd (EM D ca ak av) A s (wM ad ca fi fl ar) H locs → lv_has ls 9 [(0, .ref (ad 0)), (2, .int v2), (3, .int v3), (4, .int v4), (5, .int v5), (6, .int v6), (7, .int v7)] → f_X9_calledGood_32 ar n v2 v3 v4 v5 v6 v7 = some r0 → W p l e ({ frames := 1, cells := 0, slots := 0, locals := 23 } : Room) s m args below meth c H locs 0 0 (MQ below (Qi (EM D ca ak av) A (wM ad ca fi fl ar) r0) args s 0 0 A) (F0 m 32 ls []) := by
    intro  n
    induction n with
    | zero =>
      intro v2 v3 v4 v5 v6 v7 H locs ls w hl hf
      cases hf
    | succ n ih =>
      intro v2 v3 v4 v5 v6 v7 H locs ls w hl hf
      rw [f_X9_calledGood_32] at hf
      refine lv_iload hx hb dX9_calledGood_32 (lv_at hl 6 rfl) ?_
      refine lv_iconst (v := 2) hx hb dX9_calledGood_34 (by decide) ?_
      refine lv_icmp_ge (x := v7) (y := 2) (tgt := 101) hx hb dX9_calledGood_35 (by decide) (fun c_6 => ?_) (fun c_6 => ?_)
      · have hf := if_t hf c_6
        refine lv_iload hx hb dX9_calledGood_101 (lv_at hl 5 rfl) ?_
        have hf : some v6 = some r0 := hf
        cases hf
        exact retI B hr hk w dX9_calledGood_103
      · have hf := if_f hf c_6
        refine lv_iload hx hb dX9_calledGood_38 (lv_at hl 6 rfl) ?_
        refine lv_iconst (v := 1) hx hb dX9_calledGood_40 (by decide) ?_
        refine lv_icmp_ne (x := v7) (y := 1) (tgt := 49) hx hb dX9_calledGood_41 (by decide) (fun c_7 => ?_) (fun c_7 => ?_)
        · have hf := if_f hf c_7
          refine lv_bipush (v := 100) hx hb dX9_calledGood_49 (by decide) ?_
          refine lv_iload hx hb dX9_calledGood_51 (lv_at hl 4 rfl) ?_
          refine lv_isub (x := 100) (y := v5) hx hb dX9_calledGood_53 ?_
          exact J54 _ ih v2 v3 v4 v5 v6 v7 (100 - v5) H locs ls w (lv_sub hl [0, 1, 2, 3, 4, 5, 6] rfl) hf
        · have hf := if_t hf c_7
          refine lv_iload hx hb dX9_calledGood_44 (lv_at hl 4 rfl) ?_
          refine lv_goto (tgt := 54) hx hb dX9_calledGood_46 (by decide) ?_
          exact J54 _ ih v2 v3 v4 v5 v6 v7 v5 H locs ls w (lv_sub hl [0, 1, 2, 3, 4, 5, 6] rfl) hf
  have J24 : ∀ (v2 : Int32) (v3 : Int32) (v4 : Int32) (t0 : Int32) (H : Heap) (locs : List Loc) (ls : Array Slot), Wd (EM D ca ak av) A s (wM ad ca fi fl ar) H locs → lv_has ls 9 [(0, .ref (ad 0)), (2, .int v2), (3, .int v3), (4, .int v4)] → f_X9_calledGood_24 ar v2 v3 v4 t0 = some r0 → W p l e ({ frames := 1, cells := 0, slots := 0, locals := 23 } : Room) s m args below meth c H locs 0 0 (MQ below (Qi (EM D ca ak av) A (wM ad ca fi fl ar) r0) args s 0 0 A) (F0 m 24 ls [.int t0]) := by
    intro  v2 v3 v4 t0 H locs ls w hl hf
    unfold f_X9_calledGood_24 at hf
    refine lv_istore (lv' := [(5, .int t0), (0, .ref (ad 0)), (2, .int v2), (3, .int v3), (4, .int v4)]) hx hb dX9_calledGood_24 hl (by decide) rfl (fun ls hl => ?_)
    refine lv_iconst (v := 0) hx hb dX9_calledGood_26 (by decide) ?_
    refine lv_istore (lv' := [(6, .int 0), (5, .int t0), (0, .ref (ad 0)), (2, .int v2), (3, .int v3), (4, .int v4)]) hx hb dX9_calledGood_27 hl (by decide) rfl (fun ls hl => ?_)
    refine lv_iconst (v := 0) hx hb dX9_calledGood_29 (by decide) ?_
    refine lv_istore (lv' := [(7, .int 0), (6, .int 0), (5, .int t0), (0, .ref (ad 0)), (2, .int v2), (3, .int v3), (4, .int v4)]) hx hb dX9_calledGood_30 hl (by decide) rfl (fun ls hl => ?_)
    exact J32  5000 v2 v3 v4 t0 0 0 H locs ls w (lv_sub hl [3, 4, 5, 6, 2, 1, 0] rfl) hf
  unfold f_X9_calledGood at hf
  refine (show ∀ (H : Heap) (locs : List Loc), Wd (EM D ca ak av) A s (wM ad ca fi fl ar) H locs → W p l e ({ frames := 1, cells := 0, slots := 0, locals := 23 } : Room) s m args below meth c H locs 0 0 (MQ below (Qi (EM D ca ak av) A (wM ad ca fi fl ar) r0) args s 0 0 A) (F0 m 0 ls []) from ?_) s.heap [] w
  intro H locs w
  refine lv_iload_n hx hb dX9_calledGood_0 rfl (lv_at hl 1 rfl) ?_
  refine lv_iload_n hx hb dX9_calledGood_1 rfl (lv_at hl 3 rfl) ?_
  refine lv_iload hx hb dX9_calledGood_2 (lv_at hl 4 rfl) ?_
  obtain ⟨r_8, er_9⟩ : ∃ y, f_X9_means v1 v3 v4 = y := ⟨_, rfl⟩
  have hf := bindv_eq hf r_8 er_9.symm
  refine callSI (As := [.int v1, .int v3, .int v4]) (rest := []) B w (c_X9_means l _ v1 v3 v4 er_9) (gS kt4_172 kt4_173 kt1_11 kt4_174) hdS_X9_means rfl rfl ⟨Nat.le_of_ble_eq_true rfl, Nat.le_of_ble_eq_true rfl⟩ rfl hl.1 rfl (Nat.le_of_ble_eq_true rfl) dX9_calledGood_4 (fun H locs w => ?_)
  refine lv_iconst (v := 1) hx hb dX9_calledGood_7 (by decide) ?_
  refine lv_icmp_ne (x := r_8) (y := 1) (tgt := 23) hx hb dX9_calledGood_8 (by decide) (fun c_10 => ?_) (fun c_10 => ?_)
  · have hf := if_f hf c_10
    refine lv_iconst (v := 0) hx hb dX9_calledGood_23 (by decide) ?_
    exact J24  v2 v3 v4 0 H locs ls w (lv_sub hl [0, 2, 3, 4] rfl) hf
  · have hf := if_t hf c_10
    refine lv_bipush (v := 100) hx hb dX9_calledGood_11 (by decide) ?_
    refine lv_aload_n hx hb dX9_calledGood_13 rfl (lv_at hl 0 rfl) ?_
    refine gfM_0_0 B w kt4_25 dX9_calledGood_14 ?_
    refine lv_iconst (v := 2) hx hb dX9_calledGood_17 (by decide) ?_
    refine alM_1 B w (vp_in_iff.mpr (by decide)) dX9_calledGood_18 ?_
    refine lv_isub (x := 100) (y := (ar 1 (Int32.toNatClampNeg 2))) hx hb dX9_calledGood_19 ?_
    refine lv_goto (tgt := 24) hx hb dX9_calledGood_20 (by decide) ?_
    exact J24  v2 v3 v4 (100 - (ar 1 (Int32.toNatClampNeg 2))) H locs ls w (lv_sub hl [0, 2, 3, 4] rfl) hf
def f_X9_stepOf_14 (ar : Nat → Nat → Int32) (k5 : Int32 → Int32 → Int64 → Int32 → Option (Int32)) : Nat → (Int32) → (Int32) → (Int64) → (Int32) → (Int32) → Option (Int32)
  | 0, _, _, _, _, _ => none
  | n + 1, v1, v2, v3, v5, v6 => if (2 ≤ v6 : Prop) then (bindv (v5 + 1 : Int32) (fun x_2 => k5 v1 v2 v3 x_2)) else (bindv (f_X9_shareOf v5 v2) (fun r_3 => bindv (f_X9_shareOf v6 v2) (fun r_5 => bind1 (f_X9_calledGood ar (v1 - v1 / 16 * 16) (v1 / 16) v5 v6) (fun r_7 => bindv ((v3 + (((Int32.toInt64 r_3) * (Int32.toInt64 r_5)) * (Int32.toInt64 r_7))) : Int64) (fun x_9 => bindv (v6 + 1 : Int32) (fun x_10 => (f_X9_stepOf_14 ar k5 n) v1 v2 x_9 v5 x_10))))))
def f_X9_stepOf_5 (ar : Nat → Nat → Int32)  : Nat → (Int32) → (Int32) → (Int64) → (Int32) → Option (Int32)
  | 0, _, _, _, _ => none
  | n + 1, v1, v2, v3, v5 => if (2 ≤ v5 : Prop) then (bindv ((Int64.toInt32 (v3 / 10000000)) : Int32) (fun x_12 => some ((((100 - (ar 1 (Int32.toNatClampNeg 4))) * x_12) + (((ar 1 (Int32.toNatClampNeg 4)) * 1000) * (ar 1 (Int32.toNatClampNeg 5)))) / 100))) else (f_X9_stepOf_14 ar (f_X9_stepOf_5 ar n) 5000 v1 v2 v3 v5 0)
def f_X9_stepOf (ar : Nat → Nat → Int32) (v1 : Int32) (v2 : Int32) : Option (Int32) := f_X9_stepOf_5 ar 5000 v1 v2 0 0
set_option maxHeartbeats 4000000 in
set_option maxRecDepth 100000 in
theorem c_X9_stepOf (l : Launch) (D : va_G) (ca : Nat → ClassId) (ak av ad : Nat → Nat) (fi : Nat → Int32) (fl : Nat → Int64) (ar : Nat → Nat → Int32) (v1 : Int32) (v2 : Int32) {r0 : Int32} (hf : f_X9_stepOf ar v1 v2 = some r0) : MtI l yX9_stepOf cX9_stepOf 7 { frames := 2, cells := 0, slots := 0, locals := 51 } (EM D ca ak av) [.ref (ad 0), .int v1, .int v2] (wM ad ca fi fl ar) (wM ad ca fi fl ar) r0 := by
  refine MtI.of (own := RX9) (by decide) rfl (Nat.le_of_ble_eq_true rfl) ?_
  intro p e s m args below meth c A B hr hk w ls hl
  have hx := B.1.1
  have hb := B.1.2.1
  have hown := B.1.2.2.2.1
  have hts := B.1.2.2.2.2
  have hl : lv_has ls 7 [(0, .ref (ad 0)), (1, .int v1), (2, .int v2)] := hl
  have J14 : ∀ (k5 : Int32 → Int32 → Int64 → Int32 → Option (Int32)) (hk5 : ∀ (v1 : Int32) (v2 : Int32) (v3 : Int64) (v5 : Int32) (H : Heap) (locs : List Loc) (ls : Array Slot), Wd (EM D ca ak av) A s (wM ad ca fi fl ar) H locs → lv_has ls 7 [(0, .ref (ad 0)), (1, .int v1), (2, .int v2), (3, .long v3), (5, .int v5)] → k5 v1 v2 v3 v5 = some r0 → W p l e ({ frames := 2, cells := 0, slots := 0, locals := 51 } : Room) s m args below meth c H locs 0 0 (MQ below (Qi (EM D ca ak av) A (wM ad ca fi fl ar) r0) args s 0 0 A) (F0 m 5 ls [])) (n : Nat) (v1 : Int32) (v2 : Int32) (v3 : Int64) (v5 : Int32) (v6 : Int32) (H : Heap) (locs : List Loc) (ls : Array Slot), Wd (EM D ca ak av) A s (wM ad ca fi fl ar) H locs → lv_has ls 7 [(0, .ref (ad 0)), (1, .int v1), (2, .int v2), (3, .long v3), (5, .int v5), (6, .int v6)] → f_X9_stepOf_14 ar k5 n v1 v2 v3 v5 v6 = some r0 → W p l e ({ frames := 2, cells := 0, slots := 0, locals := 51 } : Room) s m args below meth c H locs 0 0 (MQ below (Qi (EM D ca ak av) A (wM ad ca fi fl ar) r0) args s 0 0 A) (F0 m 14 ls []) := by
    intro k5 hk5 n
    induction n with
    | zero =>
      intro v1 v2 v3 v5 v6 H locs ls w hl hf
      cases hf
    | succ n ih =>
      intro v1 v2 v3 v5 v6 H locs ls w hl hf
      rw [f_X9_stepOf_14] at hf
      refine lv_iload hx hb dX9_stepOf_14 (lv_at hl 5 rfl) ?_
      refine lv_iconst (v := 2) hx hb dX9_stepOf_16 (by decide) ?_
      refine lv_icmp_ge (x := v6) (y := 2) (tgt := 62) hx hb dX9_stepOf_17 (by decide) (fun c_1 => ?_) (fun c_1 => ?_)
      · have hf := if_t hf c_1
        obtain ⟨x_2, ex_2⟩ : ∃ y : Int32, y = v5 + 1 := ⟨_, rfl⟩
        have hf := bindv_eq hf x_2 ex_2
        refine lv_iinc (v := x_2) (lv' := [(5, .int x_2), (0, .ref (ad 0)), (1, .int v1), (2, .int v2), (3, .long v3), (6, .int v6)]) hx hb dX9_stepOf_62 hl (k := 4) rfl (by rw [ex_2]; rfl) (by decide) rfl (fun ls hl => ?_)
        refine lv_goto (tgt := 5) hx hb dX9_stepOf_65 (by decide) ?_
        exact hk5 v1 v2 v3 x_2 H locs ls w (lv_sub hl [1, 2, 3, 4, 0] rfl) hf
      · have hf := if_f hf c_1
        refine lv_lload_n hx hb dX9_stepOf_20 rfl (lv_at hl 3 rfl) ?_
        refine lv_iload hx hb dX9_stepOf_21 (lv_at hl 4 rfl) ?_
        refine lv_iload_n hx hb dX9_stepOf_23 rfl (lv_at hl 2 rfl) ?_
        obtain ⟨r_3, er_4⟩ : ∃ y, f_X9_shareOf v5 v2 = y := ⟨_, rfl⟩
        have hf := bindv_eq hf r_3 er_4.symm
        refine callSI (As := [.int v5, .int v2]) (rest := [.long v3]) B w (c_X9_shareOf l _ v5 v2 er_4) (gS kt4_190 kt4_191 kt1_11 kt4_192) hdS_X9_shareOf rfl rfl ⟨Nat.le_of_ble_eq_true rfl, Nat.le_of_ble_eq_true rfl⟩ rfl hl.1 rfl (Nat.le_of_ble_eq_true rfl) dX9_stepOf_24 (fun H locs w => ?_)
        refine lv_i2l hx hb dX9_stepOf_27 rfl ?_
        refine lv_iload hx hb dX9_stepOf_28 (lv_at hl 5 rfl) ?_
        refine lv_iload_n hx hb dX9_stepOf_30 rfl (lv_at hl 2 rfl) ?_
        obtain ⟨r_5, er_6⟩ : ∃ y, f_X9_shareOf v6 v2 = y := ⟨_, rfl⟩
        have hf := bindv_eq hf r_5 er_6.symm
        refine callSI (As := [.int v6, .int v2]) (rest := [.long (Int32.toInt64 r_3), .long v3]) B w (c_X9_shareOf l _ v6 v2 er_6) (gS kt4_190 kt4_191 kt1_11 kt4_192) hdS_X9_shareOf rfl rfl ⟨Nat.le_of_ble_eq_true rfl, Nat.le_of_ble_eq_true rfl⟩ rfl hl.1 rfl (Nat.le_of_ble_eq_true rfl) dX9_stepOf_31 (fun H locs w => ?_)
        refine lv_i2l hx hb dX9_stepOf_34 rfl ?_
        refine lv_lmul (x := (Int32.toInt64 r_3)) (y := (Int32.toInt64 r_5)) hx hb dX9_stepOf_35 ?_
        refine lv_aload_n hx hb dX9_stepOf_36 rfl (lv_at hl 0 rfl) ?_
        refine lv_iload_n hx hb dX9_stepOf_37 rfl (lv_at hl 1 rfl) ?_
        refine lv_bipush (v := 16) hx hb dX9_stepOf_38 (by decide) ?_
        refine lv_irem (x := v1) (y := 16) hx hb dX9_stepOf_40 (by decide) ?_
        refine lv_iload_n hx hb dX9_stepOf_41 rfl (lv_at hl 1 rfl) ?_
        refine lv_bipush (v := 16) hx hb dX9_stepOf_42 (by decide) ?_
        refine lv_idiv (x := v1) (y := 16) hx hb dX9_stepOf_44 (by decide) ?_
        refine lv_iload hx hb dX9_stepOf_45 (lv_at hl 4 rfl) ?_
        refine lv_iload hx hb dX9_stepOf_47 (lv_at hl 5 rfl) ?_
        obtain ⟨r_7, er_8, hf⟩ := bind1_eq hf
        refine callVI (As := [.int (v1 - v1 / 16 * 16), .int (v1 / 16), .int v5, .int v6]) (rest := [.long ((Int32.toInt64 r_3) * (Int32.toInt64 r_5)), .long v3]) B w (c_X9_calledGood l D ca ak av ad fi fl ar (v1 - v1 / 16 * 16) (v1 / 16) v5 v6 er_8) (gV kt4_193 kt4_195 kp2_4 kt1_11 kt4_196) hdV_X9_calledGood 0 rfl rfl rfl rfl ⟨Nat.le_of_ble_eq_true rfl, Nat.le_of_ble_eq_true rfl⟩ rfl hl.1 rfl (Nat.le_of_ble_eq_true rfl) dX9_stepOf_49 (fun H locs w => ?_)
        refine lv_i2l hx hb dX9_stepOf_52 rfl ?_
        refine lv_lmul (x := ((Int32.toInt64 r_3) * (Int32.toInt64 r_5))) (y := (Int32.toInt64 r_7)) hx hb dX9_stepOf_53 ?_
        refine lv_ladd (x := v3) (y := (((Int32.toInt64 r_3) * (Int32.toInt64 r_5)) * (Int32.toInt64 r_7))) hx hb dX9_stepOf_54 ?_
        refine lv_topl (fun x_9 ex_9 => ?_)
        have hf := bindv_eq hf x_9 ex_9
        refine lv_lstore_n (lv' := [(3, .long x_9), (0, .ref (ad 0)), (1, .int v1), (2, .int v2), (5, .int v5), (6, .int v6)]) hx hb dX9_stepOf_55 rfl hl (by decide) rfl (fun ls hl => ?_)
        obtain ⟨x_10, ex_10⟩ : ∃ y : Int32, y = v6 + 1 := ⟨_, rfl⟩
        have hf := bindv_eq hf x_10 ex_10
        refine lv_iinc (v := x_10) (lv' := [(6, .int x_10), (3, .long x_9), (0, .ref (ad 0)), (1, .int v1), (2, .int v2), (5, .int v5)]) hx hb dX9_stepOf_56 hl (k := 5) rfl (by rw [ex_10]; rfl) (by decide) rfl (fun ls hl => ?_)
        refine lv_goto (tgt := 14) hx hb dX9_stepOf_59 (by decide) ?_
        exact ih v1 v2 x_9 v5 x_10 H locs ls w (lv_sub hl [2, 3, 4, 1, 5, 0] rfl) hf
  have J5 : ∀ (n : Nat) (v1 : Int32) (v2 : Int32) (v3 : Int64) (v5 : Int32) (H : Heap) (locs : List Loc) (ls : Array Slot), Wd (EM D ca ak av) A s (wM ad ca fi fl ar) H locs → lv_has ls 7 [(0, .ref (ad 0)), (1, .int v1), (2, .int v2), (3, .long v3), (5, .int v5)] → f_X9_stepOf_5 ar n v1 v2 v3 v5 = some r0 → W p l e ({ frames := 2, cells := 0, slots := 0, locals := 51 } : Room) s m args below meth c H locs 0 0 (MQ below (Qi (EM D ca ak av) A (wM ad ca fi fl ar) r0) args s 0 0 A) (F0 m 5 ls []) := by
    intro  n
    induction n with
    | zero =>
      intro v1 v2 v3 v5 H locs ls w hl hf
      cases hf
    | succ n ih =>
      intro v1 v2 v3 v5 H locs ls w hl hf
      rw [f_X9_stepOf_5] at hf
      refine lv_iload hx hb dX9_stepOf_5 (lv_at hl 4 rfl) ?_
      refine lv_iconst (v := 2) hx hb dX9_stepOf_7 (by decide) ?_
      refine lv_icmp_ge (x := v5) (y := 2) (tgt := 68) hx hb dX9_stepOf_8 (by decide) (fun c_11 => ?_) (fun c_11 => ?_)
      · have hf := if_t hf c_11
        refine lv_lload_n hx hb dX9_stepOf_68 rfl (lv_at hl 3 rfl) ?_
        refine lv_ldc2 (own := RX9) (v := 10000000) hx hb hown (hts _ kt4_197) dX9_stepOf_69 ?_
        refine lv_ldiv (x := v3) (y := 10000000) hx hb dX9_stepOf_72 (by decide) ?_
        refine lv_l2i hx hb dX9_stepOf_73 rfl ?_
        refine lv_topi (fun x_12 ex_12 => ?_)
        have hf := bindv_eq hf x_12 ex_12
        refine lv_istore (lv' := [(5, .int x_12), (0, .ref (ad 0)), (1, .int v1), (2, .int v2), (3, .long v3)]) hx hb dX9_stepOf_74 hl (by decide) rfl (fun ls hl => ?_)
        refine lv_bipush (v := 100) hx hb dX9_stepOf_76 (by decide) ?_
        refine lv_aload_n hx hb dX9_stepOf_78 rfl (lv_at hl 1 rfl) ?_
        refine gfM_0_0 B w kt4_25 dX9_stepOf_79 ?_
        refine lv_iconst (v := 4) hx hb dX9_stepOf_82 (by decide) ?_
        refine alM_1 B w (vp_in_iff.mpr (by decide)) dX9_stepOf_83 ?_
        refine lv_isub (x := 100) (y := (ar 1 (Int32.toNatClampNeg 4))) hx hb dX9_stepOf_84 ?_
        refine lv_iload hx hb dX9_stepOf_85 (lv_at hl 0 rfl) ?_
        refine lv_imul (x := (100 - (ar 1 (Int32.toNatClampNeg 4)))) (y := x_12) hx hb dX9_stepOf_87 ?_
        refine lv_aload_n hx hb dX9_stepOf_88 rfl (lv_at hl 1 rfl) ?_
        refine gfM_0_0 B w kt4_25 dX9_stepOf_89 ?_
        refine lv_iconst (v := 4) hx hb dX9_stepOf_92 (by decide) ?_
        refine alM_1 B w (vp_in_iff.mpr (by decide)) dX9_stepOf_93 ?_
        refine lv_sipush (v := 1000) hx hb dX9_stepOf_94 (by decide) ?_
        refine lv_imul (x := (ar 1 (Int32.toNatClampNeg 4))) (y := 1000) hx hb dX9_stepOf_97 ?_
        refine lv_aload_n hx hb dX9_stepOf_98 rfl (lv_at hl 1 rfl) ?_
        refine gfM_0_0 B w kt4_25 dX9_stepOf_99 ?_
        refine lv_iconst (v := 5) hx hb dX9_stepOf_102 (by decide) ?_
        refine alM_1 B w (vp_in_iff.mpr (by decide)) dX9_stepOf_103 ?_
        refine lv_imul (x := ((ar 1 (Int32.toNatClampNeg 4)) * 1000)) (y := (ar 1 (Int32.toNatClampNeg 5))) hx hb dX9_stepOf_104 ?_
        refine lv_iadd (x := ((100 - (ar 1 (Int32.toNatClampNeg 4))) * x_12)) (y := (((ar 1 (Int32.toNatClampNeg 4)) * 1000) * (ar 1 (Int32.toNatClampNeg 5)))) hx hb dX9_stepOf_105 ?_
        refine lv_bipush (v := 100) hx hb dX9_stepOf_106 (by decide) ?_
        refine lv_idiv (x := (((100 - (ar 1 (Int32.toNatClampNeg 4))) * x_12) + (((ar 1 (Int32.toNatClampNeg 4)) * 1000) * (ar 1 (Int32.toNatClampNeg 5))))) (y := 100) hx hb dX9_stepOf_108 (by decide) ?_
        have hf : some ((((100 - (ar 1 (Int32.toNatClampNeg 4))) * x_12) + (((ar 1 (Int32.toNatClampNeg 4)) * 1000) * (ar 1 (Int32.toNatClampNeg 5)))) / 100) = some r0 := hf
        cases hf
        exact retI B hr hk w dX9_stepOf_109
      · have hf := if_f hf c_11
        refine lv_iconst (v := 0) hx hb dX9_stepOf_11 (by decide) ?_
        refine lv_istore (lv' := [(6, .int 0), (0, .ref (ad 0)), (1, .int v1), (2, .int v2), (3, .long v3), (5, .int v5)]) hx hb dX9_stepOf_12 hl (by decide) rfl (fun ls hl => ?_)
        exact J14 _ ih 5000 v1 v2 v3 v5 0 H locs ls w (lv_sub hl [1, 2, 3, 4, 5, 0] rfl) hf
  unfold f_X9_stepOf at hf
  refine (show ∀ (H : Heap) (locs : List Loc), Wd (EM D ca ak av) A s (wM ad ca fi fl ar) H locs → W p l e ({ frames := 2, cells := 0, slots := 0, locals := 51 } : Room) s m args below meth c H locs 0 0 (MQ below (Qi (EM D ca ak av) A (wM ad ca fi fl ar) r0) args s 0 0 A) (F0 m 0 ls []) from ?_) s.heap [] w
  intro H locs w
  refine lv_lconst (v := 0) hx hb dX9_stepOf_0 (by decide) ?_
  refine lv_lstore_n (lv' := [(3, .long 0), (0, .ref (ad 0)), (1, .int v1), (2, .int v2)]) hx hb dX9_stepOf_1 rfl hl (by decide) rfl (fun ls hl => ?_)
  refine lv_iconst (v := 0) hx hb dX9_stepOf_2 (by decide) ?_
  refine lv_istore (lv' := [(5, .int 0), (3, .long 0), (0, .ref (ad 0)), (1, .int v1), (2, .int v2)]) hx hb dX9_stepOf_3 hl (by decide) rfl (fun ls hl => ?_)
  exact J5  5000 v1 v2 0 0 H locs ls w (lv_sub hl [2, 3, 4, 1, 0] rfl) hf
def f_X9_goFrom_27   : Nat → (Int32) → (Int32) → (Int32) → (Nat → Int32) → (Nat → Nat → Int32) → Option ((Nat → Int32) × (Nat → Nat → Int32))
  | 0, _, _, _, _, _ => none
  | n + 1, v1, v3, v4, fi, ar => gd v3 1001 (if (0 ≤ (ar 4 (Int32.toNatClampNeg v3)) : Prop) then (gd v3 1001 (bindv (upd fi 9 (ar 4 (Int32.toNatClampNeg v3))) (fun fi_4 => bindv (upd fi_4 10 (v4 - (fi_4 9))) (fun fi_5 => if ((fi_5 10) = 1 : Prop) then (bindv (upd fi_5 8 v3) (fun fi_8 => some (fi_8, ar))) else (bindv (upd fi_5 8 (-1)) (fun fi_7 => some (fi_7, ar))))))) else (gd v3 1001 (bindv (updA ar 4 (upd (ar 4) (Int32.toNatClampNeg v3) v4)) (fun ar_10 => bindv (v4 + 1 : Int32) (fun x_11 => bind1 (f_X9_stepOf ar_10 v1 v3) (fun r_12 => (f_X9_goFrom_27 n) v1 r_12 x_11 fi ar_10))))))
def f_X9_goFrom_2   : Nat → (Int32) → (Int32) → (Int32) → (Nat → Int32) → (Nat → Nat → Int32) → Option ((Nat → Int32) × (Nat → Nat → Int32))
  | 0, _, _, _, _, _ => none
  | n + 1, v1, v2, v3, fi, ar => if (1000 < v3 : Prop) then (f_X9_goFrom_27  5000 v1 v2 0 fi ar) else (gd v3 1001 (bindv (updA ar 4 (upd (ar 4) (Int32.toNatClampNeg v3) (-1))) (fun ar_16 => bindv (v3 + 1 : Int32) (fun x_17 => (f_X9_goFrom_2 n) v1 v2 x_17 fi ar_16))))
def f_X9_goFrom (fi : Nat → Int32) (ar : Nat → Nat → Int32) (v1 : Int32) (v2 : Int32) : Option ((Nat → Int32) × (Nat → Nat → Int32)) := f_X9_goFrom_2  5000 v1 v2 0 fi ar
set_option maxHeartbeats 4000000 in
set_option maxRecDepth 100000 in
theorem c_X9_goFrom (l : Launch) (D : va_G) (ca : Nat → ClassId) (ak av ad : Nat → Nat) (fi : Nat → Int32) (fl : Nat → Int64) (ar : Nat → Nat → Int32) (v1 : Int32) (v2 : Int32) {fi0 : Nat → Int32} {ar0 : Nat → Nat → Int32} (hf : f_X9_goFrom fi ar v1 v2 = some (fi0, ar0)) : MtV l yX9_goFrom cX9_goFrom 5 { frames := 3, cells := 0, slots := 0, locals := 77 } (EM D ca ak av) [.ref (ad 0), .int v1, .int v2] (wM ad ca fi fl ar) (wM ad ca fi0 fl ar0) := by
  refine MtV.of (own := RX9) (by decide) rfl (Nat.le_of_ble_eq_true rfl) ?_
  intro p e s m args below meth c A B hr hk w ls hl
  have hx := B.1.1
  have hb := B.1.2.1
  have hown := B.1.2.2.2.1
  have hts := B.1.2.2.2.2
  have hl : lv_has ls 5 [(0, .ref (ad 0)), (1, .int v1), (2, .int v2)] := hl
  have J27 : ∀ (n : Nat) (v1 : Int32) (v3 : Int32) (v4 : Int32) (fi : Nat → Int32) (ar : Nat → Nat → Int32) (H : Heap) (locs : List Loc) (ls : Array Slot), Wd (EM D ca ak av) A s (wM ad ca fi fl ar) H locs → lv_has ls 5 [(0, .ref (ad 0)), (1, .int v1), (3, .int v3), (4, .int v4)] → f_X9_goFrom_27  n v1 v3 v4 fi ar = some (fi0, ar0) → W p l e ({ frames := 3, cells := 0, slots := 0, locals := 77 } : Room) s m args below meth c H locs 0 0 (MQ below (Qv (EM D ca ak av) A (wM ad ca fi0 fl ar0)) args s 0 0 A) (F0 m 27 ls []) := by
    intro  n
    induction n with
    | zero =>
      intro v1 v3 v4 fi ar H locs ls w hl hf
      cases hf
    | succ n ih =>
      intro v1 v3 v4 fi ar H locs ls w hl hf
      rw [f_X9_goFrom_27] at hf
      refine lv_aload_n hx hb dX9_goFrom_27 rfl (lv_at hl 0 rfl) ?_
      refine gfM_0_11 B w kt4_36 dX9_goFrom_28 ?_
      refine lv_iload_n hx hb dX9_goFrom_31 rfl (lv_at hl 2 rfl) ?_
      obtain ⟨hi_1, hf⟩ := gd_eq hf
      refine alM_4 B w hi_1 dX9_goFrom_32 ?_
      refine lv_if_ge (x := (ar 4 (Int32.toNatClampNeg v3))) (tgt := 57) hx hb dX9_goFrom_33 (by decide) (fun c_2 => ?_) (fun c_2 => ?_)
      · have hf := if_t hf c_2
        refine lv_aload_n hx hb dX9_goFrom_57 rfl (lv_at hl 0 rfl) ?_
        refine lv_aload_n hx hb dX9_goFrom_58 rfl (lv_at hl 0 rfl) ?_
        refine gfM_0_11 B w kt4_36 dX9_goFrom_59 ?_
        refine lv_iload_n hx hb dX9_goFrom_62 rfl (lv_at hl 2 rfl) ?_
        obtain ⟨hi_3, hf⟩ := gd_eq hf
        refine alM_4 B w hi_3 dX9_goFrom_63 ?_
        refine pfM_0_13 (v := (ar 4 (Int32.toNatClampNeg v3))) B w kt4_38 dX9_goFrom_64 (fun H locs fi_4 efi_4 w => ?_)
        have hf := bindv_eq hf fi_4 efi_4
        refine lv_aload_n hx hb dX9_goFrom_67 rfl (lv_at hl 0 rfl) ?_
        refine lv_iload hx hb dX9_goFrom_68 (lv_at hl 3 rfl) ?_
        refine lv_aload_n hx hb dX9_goFrom_70 rfl (lv_at hl 0 rfl) ?_
        refine gfM_0_13 B w kt4_38 dX9_goFrom_71 ?_
        refine lv_isub (x := v4) (y := (fi_4 9)) hx hb dX9_goFrom_74 ?_
        refine pfM_0_14 (v := (v4 - (fi_4 9))) B w kt4_39 dX9_goFrom_75 (fun H locs fi_5 efi_5 w => ?_)
        have hf := bindv_eq hf fi_5 efi_5
        refine lv_aload_n hx hb dX9_goFrom_78 rfl (lv_at hl 0 rfl) ?_
        refine lv_aload_n hx hb dX9_goFrom_79 rfl (lv_at hl 0 rfl) ?_
        refine gfM_0_14 B w kt4_39 dX9_goFrom_80 ?_
        refine lv_iconst (v := 1) hx hb dX9_goFrom_83 (by decide) ?_
        refine lv_icmp_ne (x := (fi_5 10)) (y := 1) (tgt := 91) hx hb dX9_goFrom_84 (by decide) (fun c_6 => ?_) (fun c_6 => ?_)
        · have hf := if_f hf c_6
          refine lv_iconst (v := (-1)) hx hb dX9_goFrom_91 (by decide) ?_
          refine pfM_0_12 (v := (-1)) B w kt4_37 dX9_goFrom_92 (fun H locs fi_7 efi_7 w => ?_)
          have hf := bindv_eq hf fi_7 efi_7
          have hf : some (fi_7, ar) = some (fi0, ar0) := hf
          cases hf
          exact retV B hr hk w dX9_goFrom_95
        · have hf := if_t hf c_6
          refine lv_iload_n hx hb dX9_goFrom_87 rfl (lv_at hl 2 rfl) ?_
          refine lv_goto (tgt := 92) hx hb dX9_goFrom_88 (by decide) ?_
          refine pfM_0_12 (v := v3) B w kt4_37 dX9_goFrom_92 (fun H locs fi_8 efi_8 w => ?_)
          have hf := bindv_eq hf fi_8 efi_8
          have hf : some (fi_8, ar) = some (fi0, ar0) := hf
          cases hf
          exact retV B hr hk w dX9_goFrom_95
      · have hf := if_f hf c_2
        refine lv_aload_n hx hb dX9_goFrom_36 rfl (lv_at hl 0 rfl) ?_
        refine gfM_0_11 B w kt4_36 dX9_goFrom_37 ?_
        refine lv_iload_n hx hb dX9_goFrom_40 rfl (lv_at hl 2 rfl) ?_
        refine lv_iload hx hb dX9_goFrom_41 (lv_at hl 3 rfl) ?_
        obtain ⟨hi_9, hf⟩ := gd_eq hf
        refine asM_4 (x := v4) B w hi_9 dX9_goFrom_43 (fun H locs ar_10 ear_10 w => ?_)
        have hf := bindv_eq hf ar_10 ear_10
        obtain ⟨x_11, ex_11⟩ : ∃ y : Int32, y = v4 + 1 := ⟨_, rfl⟩
        have hf := bindv_eq hf x_11 ex_11
        refine lv_iinc (v := x_11) (lv' := [(4, .int x_11), (0, .ref (ad 0)), (1, .int v1), (3, .int v3)]) hx hb dX9_goFrom_44 hl (k := 3) rfl (by rw [ex_11]; rfl) (by decide) rfl (fun ls hl => ?_)
        refine lv_aload_n hx hb dX9_goFrom_47 rfl (lv_at hl 1 rfl) ?_
        refine lv_iload_n hx hb dX9_goFrom_48 rfl (lv_at hl 2 rfl) ?_
        refine lv_iload_n hx hb dX9_goFrom_49 rfl (lv_at hl 3 rfl) ?_
        obtain ⟨r_12, er_13, hf⟩ := bind1_eq hf
        refine callVI (As := [.int v1, .int v3]) (rest := []) B w (c_X9_stepOf l D ca ak av ad fi fl ar_10 v1 v3 er_13) (gV kt4_186 kt4_188 kp2_3 kt1_11 kt4_189) hdV_X9_stepOf 0 rfl rfl rfl rfl ⟨Nat.le_of_ble_eq_true rfl, Nat.le_of_ble_eq_true rfl⟩ rfl hl.1 rfl (Nat.le_of_ble_eq_true rfl) dX9_goFrom_50 (fun H locs w => ?_)
        refine lv_istore_n (lv' := [(3, .int r_12), (4, .int x_11), (0, .ref (ad 0)), (1, .int v1)]) hx hb dX9_goFrom_53 rfl hl (by decide) rfl (fun ls hl => ?_)
        refine lv_goto (tgt := 27) hx hb dX9_goFrom_54 (by decide) ?_
        exact ih v1 r_12 x_11 fi ar_10 H locs ls w (lv_sub hl [2, 3, 0, 1] rfl) hf
  have J2 : ∀ (n : Nat) (v1 : Int32) (v2 : Int32) (v3 : Int32) (fi : Nat → Int32) (ar : Nat → Nat → Int32) (H : Heap) (locs : List Loc) (ls : Array Slot), Wd (EM D ca ak av) A s (wM ad ca fi fl ar) H locs → lv_has ls 5 [(0, .ref (ad 0)), (1, .int v1), (2, .int v2), (3, .int v3)] → f_X9_goFrom_2  n v1 v2 v3 fi ar = some (fi0, ar0) → W p l e ({ frames := 3, cells := 0, slots := 0, locals := 77 } : Room) s m args below meth c H locs 0 0 (MQ below (Qv (EM D ca ak av) A (wM ad ca fi0 fl ar0)) args s 0 0 A) (F0 m 2 ls []) := by
    intro  n
    induction n with
    | zero =>
      intro v1 v2 v3 fi ar H locs ls w hl hf
      cases hf
    | succ n ih =>
      intro v1 v2 v3 fi ar H locs ls w hl hf
      rw [f_X9_goFrom_2] at hf
      refine lv_iload_n hx hb dX9_goFrom_2 rfl (lv_at hl 3 rfl) ?_
      refine lv_sipush (v := 1000) hx hb dX9_goFrom_3 (by decide) ?_
      refine lv_icmp_gt (x := v3) (y := 1000) (tgt := 22) hx hb dX9_goFrom_6 (by decide) (fun c_14 => ?_) (fun c_14 => ?_)
      · have hf := if_t hf c_14
        refine lv_iload_n hx hb dX9_goFrom_22 rfl (lv_at hl 2 rfl) ?_
        refine lv_istore_n (lv' := [(3, .int v2), (0, .ref (ad 0)), (1, .int v1), (2, .int v2)]) hx hb dX9_goFrom_23 rfl hl (by decide) rfl (fun ls hl => ?_)
        refine lv_iconst (v := 0) hx hb dX9_goFrom_24 (by decide) ?_
        refine lv_istore (lv' := [(4, .int 0), (3, .int v2), (0, .ref (ad 0)), (1, .int v1), (2, .int v2)]) hx hb dX9_goFrom_25 hl (by decide) rfl (fun ls hl => ?_)
        exact J27  5000 v1 v2 0 fi ar H locs ls w (lv_sub hl [2, 3, 1, 0] rfl) hf
      · have hf := if_f hf c_14
        refine lv_aload_n hx hb dX9_goFrom_9 rfl (lv_at hl 0 rfl) ?_
        refine gfM_0_11 B w kt4_36 dX9_goFrom_10 ?_
        refine lv_iload_n hx hb dX9_goFrom_13 rfl (lv_at hl 3 rfl) ?_
        refine lv_iconst (v := (-1)) hx hb dX9_goFrom_14 (by decide) ?_
        obtain ⟨hi_15, hf⟩ := gd_eq hf
        refine asM_4 (x := (-1)) B w hi_15 dX9_goFrom_15 (fun H locs ar_16 ear_16 w => ?_)
        have hf := bindv_eq hf ar_16 ear_16
        obtain ⟨x_17, ex_17⟩ : ∃ y : Int32, y = v3 + 1 := ⟨_, rfl⟩
        have hf := bindv_eq hf x_17 ex_17
        refine lv_iinc (v := x_17) (lv' := [(3, .int x_17), (0, .ref (ad 0)), (1, .int v1), (2, .int v2)]) hx hb dX9_goFrom_16 hl (k := 3) rfl (by rw [ex_17]; rfl) (by decide) rfl (fun ls hl => ?_)
        refine lv_goto (tgt := 2) hx hb dX9_goFrom_19 (by decide) ?_
        exact ih v1 v2 x_17 fi ar_16 H locs ls w (lv_sub hl [1, 2, 3, 0] rfl) hf
  unfold f_X9_goFrom at hf
  refine (show ∀ (H : Heap) (locs : List Loc), Wd (EM D ca ak av) A s (wM ad ca fi fl ar) H locs → W p l e ({ frames := 3, cells := 0, slots := 0, locals := 77 } : Room) s m args below meth c H locs 0 0 (MQ below (Qv (EM D ca ak av) A (wM ad ca fi0 fl ar0)) args s 0 0 A) (F0 m 0 ls []) from ?_) s.heap [] w
  intro H locs w
  refine lv_iconst (v := 0) hx hb dX9_goFrom_0 (by decide) ?_
  refine lv_istore_n (lv' := [(3, .int 0), (0, .ref (ad 0)), (1, .int v1), (2, .int v2)]) hx hb dX9_goFrom_1 rfl hl (by decide) rfl (fun ls hl => ?_)
  exact J2  5000 v1 v2 0 fi ar H locs ls w (lv_sub hl [1, 2, 3, 0] rfl) hf
