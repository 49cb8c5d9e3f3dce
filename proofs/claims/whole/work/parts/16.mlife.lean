def f_X9_does (v1 : Int32) (v2 : Int32) (v3 : Int32) (v4 : Int32) : Int32 := bindv (f_X9_isRule v1) (fun r_1 => if (r_1 = 0 : Prop) then ((-1002)) else (bindv (f_X9_isName v2) (fun r_4 => if (r_4 = 0 : Prop) then ((-1002)) else (bindv (f_X9_isName v3) (fun r_7 => if (r_7 = 0 : Prop) then ((-1002)) else (bindv (f_X9_in (Int32.toInt64 v4) (-1) 1) (fun r_10 => if (r_10 = 0 : Prop) then ((-1002)) else (if (v4 = (-1) : Prop) then (bindv (f_X9_means (v1 - v1 / 16 * 16) v2 v3) (fun r_16 => r_16)) else (bindv (f_X9_calls (v1 / 16) v2 v3 v4) (fun r_14 => r_14))))))))))
set_option maxHeartbeats 4000000 in
set_option maxRecDepth 100000 in
theorem c_X9_does (l : Launch) (D : va_G) (ca : Nat → ClassId) (ak av ad : Nat → Nat) (fi : Nat → Int32) (fl : Nat → Int64) (ar : Nat → Nat → Int32) (v1 : Int32) (v2 : Int32) (v3 : Int32) (v4 : Int32) {r0 : Int32} (hf : f_X9_does v1 v2 v3 v4 = r0) : MtI l yX9_does cX9_does 5 { frames := 2, cells := 0, slots := 0, locals := 45 } (EM D ca ak av) [.ref (ad 0), .int v1, .int v2, .int v3, .int v4] (wM ad ca fi fl ar) (wM ad ca fi fl ar) r0 := by
  refine MtI.of (own := RX9) (by decide +kernel) rfl (Nat.le_of_ble_eq_true rfl) ?_
  intro p e s m args below meth c A B hr hk w ls hl
  have hx := B.1.1
  have hb := B.1.2.1
  have hown := B.1.2.2.2.1
  have hts := B.1.2.2.2.2
  have hl : lv_has ls 5 [(0, .ref (ad 0)), (1, .int v1), (2, .int v2), (3, .int v3), (4, .int v4)] := hl
  unfold f_X9_does at hf
  refine (show ∀ (H : Heap) (locs : List Loc), Wd (EM D ca ak av) A s (wM ad ca fi fl ar) H locs → W p l e ({ frames := 2, cells := 0, slots := 0, locals := 45 } : Room) s m args below meth c H locs 0 0 (MQ below (Qi (EM D ca ak av) A (wM ad ca fi fl ar) r0) args s 0 0 A) (F0 m 0 ls []) from ?_) s.heap [] w
  intro H locs w
  refine lv_iload_n hx hb dX9_does_0 rfl (lv_at hl 1 rfl) ?_
  obtain ⟨r_1, er_2⟩ : ∃ y, f_X9_isRule v1 = y := ⟨_, rfl⟩
  have hf := bindv_eq hf r_1 er_2.symm
  refine callSZ (As := [.int v1]) (rest := []) B w (c_X9_isRule l _ v1 er_2) (gS kt4_164 kt4_165 kt1_11 kt4_166) hdS_X9_isRule rfl rfl ⟨Nat.le_of_ble_eq_true rfl, Nat.le_of_ble_eq_true rfl⟩ rfl hl.1 rfl (Nat.le_of_ble_eq_true rfl) dX9_does_1 ⟨Nat.le_of_ble_eq_true rfl, Nat.le_of_ble_eq_true rfl⟩ (fun H locs w hzr_1 => ?_)
  refine lv_if_eq (x := r_1) (tgt := 34) hx hb dX9_does_4 (by decide) (fun c_3 => ?_) (fun c_3 => ?_)
  · have hf := if_t hf c_3
    refine lv_sipush (v := (-1002)) hx hb dX9_does_34 (by decide) ?_
    have hf : (-1002) = r0 := hf
    subst hf
    exact retI B hr hk w dX9_does_37
  · have hf := if_f hf c_3
    refine lv_iload_n hx hb dX9_does_7 rfl (lv_at hl 2 rfl) ?_
    obtain ⟨r_4, er_5⟩ : ∃ y, f_X9_isName v2 = y := ⟨_, rfl⟩
    have hf := bindv_eq hf r_4 er_5.symm
    refine callSZ (As := [.int v2]) (rest := []) B w (c_X9_isName l _ v2 er_5) (gS kt4_168 kt4_169 kt1_11 kt4_170) hdS_X9_isName rfl rfl ⟨Nat.le_of_ble_eq_true rfl, Nat.le_of_ble_eq_true rfl⟩ rfl hl.1 rfl (Nat.le_of_ble_eq_true rfl) dX9_does_8 ⟨Nat.le_of_ble_eq_true rfl, Nat.le_of_ble_eq_true rfl⟩ (fun H locs w hzr_4 => ?_)
    refine lv_if_eq (x := r_4) (tgt := 34) hx hb dX9_does_11 (by decide) (fun c_6 => ?_) (fun c_6 => ?_)
    · have hf := if_t hf c_6
      refine lv_sipush (v := (-1002)) hx hb dX9_does_34 (by decide) ?_
      have hf : (-1002) = r0 := hf
      subst hf
      exact retI B hr hk w dX9_does_37
    · have hf := if_f hf c_6
      refine lv_iload_n hx hb dX9_does_14 rfl (lv_at hl 3 rfl) ?_
      obtain ⟨r_7, er_8⟩ : ∃ y, f_X9_isName v3 = y := ⟨_, rfl⟩
      have hf := bindv_eq hf r_7 er_8.symm
      refine callSZ (As := [.int v3]) (rest := []) B w (c_X9_isName l _ v3 er_8) (gS kt4_168 kt4_169 kt1_11 kt4_170) hdS_X9_isName rfl rfl ⟨Nat.le_of_ble_eq_true rfl, Nat.le_of_ble_eq_true rfl⟩ rfl hl.1 rfl (Nat.le_of_ble_eq_true rfl) dX9_does_15 ⟨Nat.le_of_ble_eq_true rfl, Nat.le_of_ble_eq_true rfl⟩ (fun H locs w hzr_7 => ?_)
      refine lv_if_eq (x := r_7) (tgt := 34) hx hb dX9_does_18 (by decide) (fun c_9 => ?_) (fun c_9 => ?_)
      · have hf := if_t hf c_9
        refine lv_sipush (v := (-1002)) hx hb dX9_does_34 (by decide) ?_
        have hf : (-1002) = r0 := hf
        subst hf
        exact retI B hr hk w dX9_does_37
      · have hf := if_f hf c_9
        refine lv_iload hx hb dX9_does_21 (lv_at hl 4 rfl) ?_
        refine lv_i2l hx hb dX9_does_23 rfl ?_
        refine lv_ldc2 (own := RX9) (v := (-1)) hx hb hown (hts _ kt4_171) dX9_does_24 ?_
        refine lv_lconst (v := 1) hx hb dX9_does_27 (by decide) ?_
        obtain ⟨r_10, er_11⟩ : ∃ y, f_X9_in (Int32.toInt64 v4) (-1) 1 = y := ⟨_, rfl⟩
        have hf := bindv_eq hf r_10 er_11.symm
        refine callSZ (As := [.long (Int32.toInt64 v4), .long (-1), .long 1]) (rest := []) B w (c_X9_in l _ (Int32.toInt64 v4) (-1) 1 er_11) (gS kt4_95 kt4_96 kt1_11 kt4_97) hdS_X9_in rfl rfl ⟨Nat.le_of_ble_eq_true rfl, Nat.le_of_ble_eq_true rfl⟩ rfl hl.1 rfl (Nat.le_of_ble_eq_true rfl) dX9_does_28 ⟨Nat.le_of_ble_eq_true rfl, Nat.le_of_ble_eq_true rfl⟩ (fun H locs w hzr_10 => ?_)
        refine lv_if_ne (x := r_10) (tgt := 38) hx hb dX9_does_31 (by decide) (fun c_12 => ?_) (fun c_12 => ?_)
        · have hf := if_f hf c_12
          refine lv_iload hx hb dX9_does_38 (lv_at hl 4 rfl) ?_
          refine lv_iconst (v := (-1)) hx hb dX9_does_40 (by decide) ?_
          refine lv_icmp_ne (x := v4) (y := (-1)) (tgt := 56) hx hb dX9_does_41 (by decide) (fun c_13 => ?_) (fun c_13 => ?_)
          · have hf := if_f hf c_13
            refine lv_iload_n hx hb dX9_does_56 rfl (lv_at hl 1 rfl) ?_
            refine lv_bipush (v := 16) hx hb dX9_does_57 (by decide) ?_
            refine lv_idiv (x := v1) (y := 16) hx hb dX9_does_59 (by decide) ?_
            refine lv_iload_n hx hb dX9_does_60 rfl (lv_at hl 2 rfl) ?_
            refine lv_iload_n hx hb dX9_does_61 rfl (lv_at hl 3 rfl) ?_
            refine lv_iload hx hb dX9_does_62 (lv_at hl 4 rfl) ?_
            obtain ⟨r_14, er_15⟩ : ∃ y, f_X9_calls (v1 / 16) v2 v3 v4 = y := ⟨_, rfl⟩
            have hf := bindv_eq hf r_14 er_15.symm
            refine callSI (As := [.int (v1 / 16), .int v2, .int v3, .int v4]) (rest := []) B w (c_X9_calls l _ (v1 / 16) v2 v3 v4 er_15) (gS kt4_175 kt4_176 kt1_11 kt4_177) hdS_X9_calls rfl rfl ⟨Nat.le_of_ble_eq_true rfl, Nat.le_of_ble_eq_true rfl⟩ rfl hl.1 rfl (Nat.le_of_ble_eq_true rfl) dX9_does_64 ⟨Nat.le_of_ble_eq_true rfl, Nat.le_of_ble_eq_true rfl⟩ (fun H locs w => ?_)
            have hf : r_14 = r0 := hf
            subst hf
            exact retI B hr hk w dX9_does_67
          · have hf := if_t hf c_13
            refine lv_iload_n hx hb dX9_does_44 rfl (lv_at hl 1 rfl) ?_
            refine lv_bipush (v := 16) hx hb dX9_does_45 (by decide) ?_
            refine lv_irem (x := v1) (y := 16) hx hb dX9_does_47 (by decide) ?_
            refine lv_iload_n hx hb dX9_does_48 rfl (lv_at hl 2 rfl) ?_
            refine lv_iload_n hx hb dX9_does_49 rfl (lv_at hl 3 rfl) ?_
            obtain ⟨r_16, er_17⟩ : ∃ y, f_X9_means (v1 - v1 / 16 * 16) v2 v3 = y := ⟨_, rfl⟩
            have hf := bindv_eq hf r_16 er_17.symm
            refine callSI (As := [.int (v1 - v1 / 16 * 16), .int v2, .int v3]) (rest := []) B w (c_X9_means l _ (v1 - v1 / 16 * 16) v2 v3 er_17) (gS kt4_172 kt4_173 kt1_11 kt4_174) hdS_X9_means rfl rfl ⟨Nat.le_of_ble_eq_true rfl, Nat.le_of_ble_eq_true rfl⟩ rfl hl.1 rfl (Nat.le_of_ble_eq_true rfl) dX9_does_50 ⟨Nat.le_of_ble_eq_true rfl, Nat.le_of_ble_eq_true rfl⟩ (fun H locs w => ?_)
            refine lv_goto (tgt := 67) hx hb dX9_does_53 (by decide) ?_
            have hf : r_16 = r0 := hf
            subst hf
            exact retI B hr hk w dX9_does_67
        · have hf := if_t hf c_12
          refine lv_sipush (v := (-1002)) hx hb dX9_does_34 (by decide) ?_
          have hf : (-1002) = r0 := hf
          subst hf
          exact retI B hr hk w dX9_does_37
def f_X9_calledGood_91 (ar : Nat → Nat → Int32) (k32 : Int32 → Int32 → Int32 → Int32 → Int32 → Int32 → Option (Int32)) (v2 : Int32) (v3 : Int32) (v4 : Int32) (v5 : Int32) (v7 : Int32) (t0 : Int32) (t1 : Int32) (t2 : Int32) : Option (Int32) := bindv ((t0 + (t1 * t2)) : Int32) (fun x_1 => bindv (v7 + 1 : Int32) (fun x_2 => k32 v2 v3 v4 v5 x_1 x_2))
def f_X9_calledGood_54 (ar : Nat → Nat → Int32) (k32 : Int32 → Int32 → Int32 → Int32 → Int32 → Int32 → Option (Int32)) (v2 : Int32) (v3 : Int32) (v4 : Int32) (v5 : Int32) (v6 : Int32) (v7 : Int32) (t0 : Int32) : Option (Int32) := bindv (f_X9_calls v2 v3 v4 v7) (fun r_3 => if (r_3 = 1 : Prop) then (f_X9_calledGood_91 ar k32 v2 v3 v4 v5 v7 v6 t0 (100 - (ar 1 (Int32.toNatClampNeg 3)))) else (f_X9_calledGood_91 ar k32 v2 v3 v4 v5 v7 v6 t0 (ar 1 (Int32.toNatClampNeg 3))))
def f_X9_calledGood_32 (ar : Nat → Nat → Int32)  : Nat → (Int32) → (Int32) → (Int32) → (Int32) → (Int32) → (Int32) → Option (Int32)
  | 0, _, _, _, _, _, _ => none
  | n + 1, v2, v3, v4, v5, v6, v7 => if (2 ≤ v7 : Prop) then (some v6) else (if (v7 = 1 : Prop) then (f_X9_calledGood_54 ar (f_X9_calledGood_32 ar n) v2 v3 v4 v5 v6 v7 v5) else (f_X9_calledGood_54 ar (f_X9_calledGood_32 ar n) v2 v3 v4 v5 v6 v7 (100 - v5)))
def f_X9_calledGood_24 (ar : Nat → Nat → Int32)  (v2 : Int32) (v3 : Int32) (v4 : Int32) (t0 : Int32) : Option (Int32) := f_X9_calledGood_32 ar 5000 v2 v3 v4 t0 0 0
def f_X9_calledGood (ar : Nat → Nat → Int32) (v1 : Int32) (v2 : Int32) (v3 : Int32) (v4 : Int32) : Option (Int32) := bindv (f_X9_means v1 v3 v4) (fun r_8 => if (r_8 = 1 : Prop) then (f_X9_calledGood_24 ar v2 v3 v4 (100 - (ar 1 (Int32.toNatClampNeg 2)))) else (f_X9_calledGood_24 ar v2 v3 v4 0))
set_option maxHeartbeats 4000000 in
set_option maxRecDepth 100000 in
theorem c_X9_calledGood (l : Launch) (D : va_G) (ca : Nat → ClassId) (ak av ad : Nat → Nat) (fi : Nat → Int32) (fl : Nat → Int64) (ar : Nat → Nat → Int32) (v1 : Int32) (v2 : Int32) (v3 : Int32) (v4 : Int32) {r0 : Int32} (hf : f_X9_calledGood ar v1 v2 v3 v4 = some r0) : MtI l yX9_calledGood cX9_calledGood 9 { frames := 1, cells := 0, slots := 0, locals := 23 } (EM D ca ak av) [.ref (ad 0), .int v1, .int v2, .int v3, .int v4] (wM ad ca fi fl ar) (wM ad ca fi fl ar) r0 := by
  refine MtI.of (own := RX9) (by decide +kernel) rfl (Nat.le_of_ble_eq_true rfl) ?_
  intro p e s m args below meth c A B hr hk w ls hl
  have hx := B.1.1
  have hb := B.1.2.1
  have hown := B.1.2.2.2.1
  have hts := B.1.2.2.2.2
  have hl : lv_has ls 9 [(0, .ref (ad 0)), (1, .int v1), (2, .int v2), (3, .int v3), (4, .int v4)] := hl
  have J91 : ∀ (k32 : Int32 → Int32 → Int32 → Int32 → Int32 → Int32 → Option (Int32)) (hk32 : ∀ (v2 : Int32) (v3 : Int32) (v4 : Int32) (v5 : Int32) (v6 : Int32) (v7 : Int32) (H : Heap) (locs : List Loc) (ls : Array Slot), Wd (EM D ca ak av) A s (wM ad ca fi fl ar) H locs → lv_has ls 9 [(0, .ref (ad 0)), (2, .int v2), (3, .int v3), (4, .int v4), (5, .int v5), (6, .int v6), (7, .int v7)] → k32 v2 v3 v4 v5 v6 v7 = some r0 → W p l e ({ frames := 1, cells := 0, slots := 0, locals := 23 } : Room) s m args below meth c H locs 0 0 (MQ below (Qi (EM D ca ak av) A (wM ad ca fi fl ar) r0) args s 0 0 A) (F0 m 32 ls [])) (v2 : Int32) (v3 : Int32) (v4 : Int32) (v5 : Int32) (v7 : Int32) (t0 : Int32) (t1 : Int32) (t2 : Int32) (H : Heap) (locs : List Loc) (ls : Array Slot), Wd (EM D ca ak av) A s (wM ad ca fi fl ar) H locs → lv_has ls 9 [(0, .ref (ad 0)), (2, .int v2), (3, .int v3), (4, .int v4), (5, .int v5), (7, .int v7)] → f_X9_calledGood_91 ar k32 v2 v3 v4 v5 v7 t0 t1 t2 = some r0 → W p l e ({ frames := 1, cells := 0, slots := 0, locals := 23 } : Room) s m args below meth c H locs 0 0 (MQ below (Qi (EM D ca ak av) A (wM ad ca fi fl ar) r0) args s 0 0 A) (F0 m 91 ls [.int t2, .int t1, .int t0]) := by
    intro k32 hk32 v2 v3 v4 v5 v7 t0 t1 t2 H locs ls w hl hf
    unfold f_X9_calledGood_91 at hf
    refine lv_imul (x := t1) (y := t2) hx hb dX9_calledGood_91 ?_
    refine lv_iadd (x := t0) (y := (t1 * t2)) hx hb dX9_calledGood_92 ?_
    refine lv_topi (fun x_1 ex_1 => ?_)
    have hf := bindv_eq hf x_1 ex_1
    refine lv_istore (lv' := [(6, .int x_1), (0, .ref (ad 0)), (2, .int v2), (3, .int v3), (4, .int v4), (5, .int v5), (7, .int v7)]) hx hb dX9_calledGood_93 hl (by decide) rfl (fun ls hl => ?_)
    obtain ⟨x_2, ex_2⟩ : ∃ y : Int32, y = v7 + 1 := ⟨_, rfl⟩
    have hf := bindv_eq hf x_2 ex_2
    refine lv_iinc (v := x_2) (lv' := [(7, .int x_2), (6, .int x_1), (0, .ref (ad 0)), (2, .int v2), (3, .int v3), (4, .int v4), (5, .int v5)]) hx hb dX9_calledGood_95 hl (k := 6) rfl (by rw [ex_2]; rfl) (by decide) rfl (fun ls hl => ?_)
    refine lv_goto (tgt := 32) hx hb dX9_calledGood_98 (by decide) ?_
    exact hk32 v2 v3 v4 v5 x_1 x_2 H locs ls w (lv_sub hl [2, 3, 4, 5, 6, 1, 0] rfl) hf
  have J54 : ∀ (k32 : Int32 → Int32 → Int32 → Int32 → Int32 → Int32 → Option (Int32)) (hk32 : ∀ (v2 : Int32) (v3 : Int32) (v4 : Int32) (v5 : Int32) (v6 : Int32) (v7 : Int32) (H : Heap) (locs : List Loc) (ls : Array Slot), Wd (EM D ca ak av) A s (wM ad ca fi fl ar) H locs → lv_has ls 9 [(0, .ref (ad 0)), (2, .int v2), (3, .int v3), (4, .int v4), (5, .int v5), (6, .int v6), (7, .int v7)] → k32 v2 v3 v4 v5 v6 v7 = some r0 → W p l e ({ frames := 1, cells := 0, slots := 0, locals := 23 } : Room) s m args below meth c H locs 0 0 (MQ below (Qi (EM D ca ak av) A (wM ad ca fi fl ar) r0) args s 0 0 A) (F0 m 32 ls [])) (v2 : Int32) (v3 : Int32) (v4 : Int32) (v5 : Int32) (v6 : Int32) (v7 : Int32) (t0 : Int32) (H : Heap) (locs : List Loc) (ls : Array Slot), Wd (EM D ca ak av) A s (wM ad ca fi fl ar) H locs → lv_has ls 9 [(0, .ref (ad 0)), (2, .int v2), (3, .int v3), (4, .int v4), (5, .int v5), (6, .int v6), (7, .int v7)] → f_X9_calledGood_54 ar k32 v2 v3 v4 v5 v6 v7 t0 = some r0 → W p l e ({ frames := 1, cells := 0, slots := 0, locals := 23 } : Room) s m args below meth c H locs 0 0 (MQ below (Qi (EM D ca ak av) A (wM ad ca fi fl ar) r0) args s 0 0 A) (F0 m 54 ls [.int t0]) := by
    intro k32 hk32 v2 v3 v4 v5 v6 v7 t0 H locs ls w hl hf
    unfold f_X9_calledGood_54 at hf
    refine lv_istore (lv' := [(8, .int t0), (0, .ref (ad 0)), (2, .int v2), (3, .int v3), (4, .int v4), (5, .int v5), (6, .int v6), (7, .int v7)]) hx hb dX9_calledGood_54 hl (by decide) rfl (fun ls hl => ?_)
    refine lv_iload hx hb dX9_calledGood_56 (lv_at hl 6 rfl) ?_
    refine lv_iload hx hb dX9_calledGood_58 (lv_at hl 0 rfl) ?_
    refine lv_iload_n hx hb dX9_calledGood_60 rfl (lv_at hl 2 rfl) ?_
    refine lv_iload_n hx hb dX9_calledGood_61 rfl (lv_at hl 3 rfl) ?_
    refine lv_iload hx hb dX9_calledGood_62 (lv_at hl 4 rfl) ?_
    refine lv_iload hx hb dX9_calledGood_64 (lv_at hl 7 rfl) ?_
    obtain ⟨r_3, er_4⟩ : ∃ y, f_X9_calls v2 v3 v4 v7 = y := ⟨_, rfl⟩
    have hf := bindv_eq hf r_3 er_4.symm
    refine callSI (As := [.int v2, .int v3, .int v4, .int v7]) (rest := [.int t0, .int v6]) B w (c_X9_calls l _ v2 v3 v4 v7 er_4) (gS kt4_175 kt4_176 kt1_11 kt4_177) hdS_X9_calls rfl rfl ⟨Nat.le_of_ble_eq_true rfl, Nat.le_of_ble_eq_true rfl⟩ rfl hl.1 rfl (Nat.le_of_ble_eq_true rfl) dX9_calledGood_66 ⟨Nat.le_of_ble_eq_true rfl, Nat.le_of_ble_eq_true rfl⟩ (fun H locs w => ?_)
    refine lv_iconst (v := 1) hx hb dX9_calledGood_69 (by decide) ?_
    refine lv_icmp_ne (x := r_3) (y := 1) (tgt := 85) hx hb dX9_calledGood_70 (by decide) (fun c_5 => ?_) (fun c_5 => ?_)
    · have hf := if_f hf c_5
      refine lv_aload_n hx hb dX9_calledGood_85 rfl (lv_at hl 1 rfl) ?_
      refine gfM_0_0 B w kt4_25 dX9_calledGood_86 ?_
      refine lv_iconst (v := 3) hx hb dX9_calledGood_89 (by decide) ?_
      refine alM_1 B w (vp_in_iff.mpr (by decide)) dX9_calledGood_90 ?_
      exact J91 _ hk32 v2 v3 v4 v5 v7 v6 t0 (ar 1 (Int32.toNatClampNeg 3)) H locs ls w (lv_sub hl [1, 2, 3, 4, 5, 7] rfl) hf
    · have hf := if_t hf c_5
      refine lv_bipush (v := 100) hx hb dX9_calledGood_73 (by decide) ?_
      refine lv_aload_n hx hb dX9_calledGood_75 rfl (lv_at hl 1 rfl) ?_
      refine gfM_0_0 B w kt4_25 dX9_calledGood_76 ?_
      refine lv_iconst (v := 3) hx hb dX9_calledGood_79 (by decide) ?_
      refine alM_1 B w (vp_in_iff.mpr (by decide)) dX9_calledGood_80 ?_
      refine lv_isub (x := 100) (y := (ar 1 (Int32.toNatClampNeg 3))) hx hb dX9_calledGood_81 ?_
      refine lv_goto (tgt := 91) hx hb dX9_calledGood_82 (by decide) ?_
      exact J91 _ hk32 v2 v3 v4 v5 v7 v6 t0 (100 - (ar 1 (Int32.toNatClampNeg 3))) H locs ls w (lv_sub hl [1, 2, 3, 4, 5, 7] rfl) hf
  have J32 : ∀ (n : Nat) (v2 : Int32) (v3 : Int32) (v4 : Int32) (v5 : Int32) (v6 : Int32) (v7 : Int32) (H : Heap) (locs : List Loc) (ls : Array Slot), Wd (EM D ca ak av) A s (wM ad ca fi fl ar) H locs → lv_has ls 9 [(0, .ref (ad 0)), (2, .int v2), (3, .int v3), (4, .int v4), (5, .int v5), (6, .int v6), (7, .int v7)] → f_X9_calledGood_32 ar n v2 v3 v4 v5 v6 v7 = some r0 → W p l e ({ frames := 1, cells := 0, slots := 0, locals := 23 } : Room) s m args below meth c H locs 0 0 (MQ below (Qi (EM D ca ak av) A (wM ad ca fi fl ar) r0) args s 0 0 A) (F0 m 32 ls []) := by
    intro  n
    induction n with
    | zero =>
      intro v2 v3 v4 v5 v6 v7 H locs ls w hl hf
      cases hf
    | succ n ih =>
      intro v2 v3 v4 v5 v6 v7 H locs ls w hl hf
      rw [f_X9_calledGood_32] at hf
      refine lv_iload hx hb dX9_calledGood_32 (lv_at hl 6 rfl) ?_
      refine lv_iconst (v := 2) hx hb dX9_calledGood_34 (by decide) ?_
      refine lv_icmp_ge (x := v7) (y := 2) (tgt := 101) hx hb dX9_calledGood_35 (by decide) (fun c_6 => ?_) (fun c_6 => ?_)
      · have hf := if_t hf c_6
        refine lv_iload hx hb dX9_calledGood_101 (lv_at hl 5 rfl) ?_
        have hf : some v6 = some r0 := hf
        have q0 := so1 hf
        subst q0
        exact retI B hr hk w dX9_calledGood_103
      · have hf := if_f hf c_6
        refine lv_iload hx hb dX9_calledGood_38 (lv_at hl 6 rfl) ?_
        refine lv_iconst (v := 1) hx hb dX9_calledGood_40 (by decide) ?_
        refine lv_icmp_ne (x := v7) (y := 1) (tgt := 49) hx hb dX9_calledGood_41 (by decide) (fun c_7 => ?_) (fun c_7 => ?_)
        · have hf := if_f hf c_7
          refine lv_bipush (v := 100) hx hb dX9_calledGood_49 (by decide) ?_
          refine lv_iload hx hb dX9_calledGood_51 (lv_at hl 4 rfl) ?_
          refine lv_isub (x := 100) (y := v5) hx hb dX9_calledGood_53 ?_
          exact J54 _ ih v2 v3 v4 v5 v6 v7 (100 - v5) H locs ls w (lv_sub hl [0, 1, 2, 3, 4, 5, 6] rfl) hf
        · have hf := if_t hf c_7
          refine lv_iload hx hb dX9_calledGood_44 (lv_at hl 4 rfl) ?_
          refine lv_goto (tgt := 54) hx hb dX9_calledGood_46 (by decide) ?_
          exact J54 _ ih v2 v3 v4 v5 v6 v7 v5 H locs ls w (lv_sub hl [0, 1, 2, 3, 4, 5, 6] rfl) hf
  have J24 : ∀ (v2 : Int32) (v3 : Int32) (v4 : Int32) (t0 : Int32) (H : Heap) (locs : List Loc) (ls : Array Slot), Wd (EM D ca ak av) A s (wM ad ca fi fl ar) H locs → lv_has ls 9 [(0, .ref (ad 0)), (2, .int v2), (3, .int v3), (4, .int v4)] → f_X9_calledGood_24 ar v2 v3 v4 t0 = some r0 → W p l e ({ frames := 1, cells := 0, slots := 0, locals := 23 } : Room) s m args below meth c H locs 0 0 (MQ below (Qi (EM D ca ak av) A (wM ad ca fi fl ar) r0) args s 0 0 A) (F0 m 24 ls [.int t0]) := by
    intro  v2 v3 v4 t0 H locs ls w hl hf
    unfold f_X9_calledGood_24 at hf
    refine lv_istore (lv' := [(5, .int t0), (0, .ref (ad 0)), (2, .int v2), (3, .int v3), (4, .int v4)]) hx hb dX9_calledGood_24 hl (by decide) rfl (fun ls hl => ?_)
    refine lv_iconst (v := 0) hx hb dX9_calledGood_26 (by decide) ?_
    refine lv_istore (lv' := [(6, .int 0), (5, .int t0), (0, .ref (ad 0)), (2, .int v2), (3, .int v3), (4, .int v4)]) hx hb dX9_calledGood_27 hl (by decide) rfl (fun ls hl => ?_)
    refine lv_iconst (v := 0) hx hb dX9_calledGood_29 (by decide) ?_
    refine lv_istore (lv' := [(7, .int 0), (6, .int 0), (5, .int t0), (0, .ref (ad 0)), (2, .int v2), (3, .int v3), (4, .int v4)]) hx hb dX9_calledGood_30 hl (by decide) rfl (fun ls hl => ?_)
    exact J32  5000 v2 v3 v4 t0 0 0 H locs ls w (lv_sub hl [3, 4, 5, 6, 2, 1, 0] rfl) hf
  unfold f_X9_calledGood at hf
  refine (show ∀ (H : Heap) (locs : List Loc), Wd (EM D ca ak av) A s (wM ad ca fi fl ar) H locs → W p l e ({ frames := 1, cells := 0, slots := 0, locals := 23 } : Room) s m args below meth c H locs 0 0 (MQ below (Qi (EM D ca ak av) A (wM ad ca fi fl ar) r0) args s 0 0 A) (F0 m 0 ls []) from ?_) s.heap [] w
  intro H locs w
  refine lv_iload_n hx hb dX9_calledGood_0 rfl (lv_at hl 1 rfl) ?_
  refine lv_iload_n hx hb dX9_calledGood_1 rfl (lv_at hl 3 rfl) ?_
  refine lv_iload hx hb dX9_calledGood_2 (lv_at hl 4 rfl) ?_
  obtain ⟨r_8, er_9⟩ : ∃ y, f_X9_means v1 v3 v4 = y := ⟨_, rfl⟩
  have hf := bindv_eq hf r_8 er_9.symm
  refine callSI (As := [.int v1, .int v3, .int v4]) (rest := []) B w (c_X9_means l _ v1 v3 v4 er_9) (gS kt4_172 kt4_173 kt1_11 kt4_174) hdS_X9_means rfl rfl ⟨Nat.le_of_ble_eq_true rfl, Nat.le_of_ble_eq_true rfl⟩ rfl hl.1 rfl (Nat.le_of_ble_eq_true rfl) dX9_calledGood_4 ⟨Nat.le_of_ble_eq_true rfl, Nat.le_of_ble_eq_true rfl⟩ (fun H locs w => ?_)
  refine lv_iconst (v := 1) hx hb dX9_calledGood_7 (by decide) ?_
  refine lv_icmp_ne (x := r_8) (y := 1) (tgt := 23) hx hb dX9_calledGood_8 (by decide) (fun c_10 => ?_) (fun c_10 => ?_)
  · have hf := if_f hf c_10
    refine lv_iconst (v := 0) hx hb dX9_calledGood_23 (by decide) ?_
    exact J24  v2 v3 v4 0 H locs ls w (lv_sub hl [0, 2, 3, 4] rfl) hf
  · have hf := if_t hf c_10
    refine lv_bipush (v := 100) hx hb dX9_calledGood_11 (by decide) ?_
    refine lv_aload_n hx hb dX9_calledGood_13 rfl (lv_at hl 0 rfl) ?_
    refine gfM_0_0 B w kt4_25 dX9_calledGood_14 ?_
    refine lv_iconst (v := 2) hx hb dX9_calledGood_17 (by decide) ?_
    refine alM_1 B w (vp_in_iff.mpr (by decide)) dX9_calledGood_18 ?_
    refine lv_isub (x := 100) (y := (ar 1 (Int32.toNatClampNeg 2))) hx hb dX9_calledGood_19 ?_
    refine lv_goto (tgt := 24) hx hb dX9_calledGood_20 (by decide) ?_
    exact J24  v2 v3 v4 (100 - (ar 1 (Int32.toNatClampNeg 2))) H locs ls w (lv_sub hl [0, 2, 3, 4] rfl) hf
def f_X9_stepOf_14 (ar : Nat → Nat → Int32) (k5 : Int32 → Int32 → Int64 → Int32 → Option (Int32)) : Nat → (Int32) → (Int32) → (Int64) → (Int32) → (Int32) → Option (Int32)
  | 0, _, _, _, _, _ => none
  | n + 1, v1, v2, v3, v5, v6 => if (2 ≤ v6 : Prop) then (bindv (v5 + 1 : Int32) (fun x_2 => k5 v1 v2 v3 x_2)) else (bindv (f_X9_shareOf v5 v2) (fun r_3 => bindv (f_X9_shareOf v6 v2) (fun r_5 => bind1 (f_X9_calledGood ar (v1 - v1 / 16 * 16) (v1 / 16) v5 v6) (fun r_7 => bindv ((v3 + (((Int32.toInt64 r_3) * (Int32.toInt64 r_5)) * (Int32.toInt64 r_7))) : Int64) (fun x_9 => bindv (v6 + 1 : Int32) (fun x_10 => (f_X9_stepOf_14 ar k5 n) v1 v2 x_9 v5 x_10))))))
def f_X9_stepOf_5 (ar : Nat → Nat → Int32)  : Nat → (Int32) → (Int32) → (Int64) → (Int32) → Option (Int32)
  | 0, _, _, _, _ => none
  | n + 1, v1, v2, v3, v5 => if (2 ≤ v5 : Prop) then (bindv ((Int64.toInt32 (v3 / 10000000)) : Int32) (fun x_12 => some ((((100 - (ar 1 (Int32.toNatClampNeg 4))) * x_12) + (((ar 1 (Int32.toNatClampNeg 4)) * 1000) * (ar 1 (Int32.toNatClampNeg 5)))) / 100))) else (f_X9_stepOf_14 ar (f_X9_stepOf_5 ar n) 5000 v1 v2 v3 v5 0)
def f_X9_stepOf (ar : Nat → Nat → Int32) (v1 : Int32) (v2 : Int32) : Option (Int32) := f_X9_stepOf_5 ar 5000 v1 v2 0 0
set_option maxHeartbeats 4000000 in
set_option maxRecDepth 100000 in
theorem c_X9_stepOf (l : Launch) (D : va_G) (ca : Nat → ClassId) (ak av ad : Nat → Nat) (fi : Nat → Int32) (fl : Nat → Int64) (ar : Nat → Nat → Int32) (v1 : Int32) (v2 : Int32) {r0 : Int32} (hf : f_X9_stepOf ar v1 v2 = some r0) : MtI l yX9_stepOf cX9_stepOf 7 { frames := 2, cells := 0, slots := 0, locals := 51 } (EM D ca ak av) [.ref (ad 0), .int v1, .int v2] (wM ad ca fi fl ar) (wM ad ca fi fl ar) r0 := by
  refine MtI.of (own := RX9) (by decide +kernel) rfl (Nat.le_of_ble_eq_true rfl) ?_
  intro p e s m args below meth c A B hr hk w ls hl
  have hx := B.1.1
  have hb := B.1.2.1
  have hown := B.1.2.2.2.1
  have hts := B.1.2.2.2.2
  have hl : lv_has ls 7 [(0, .ref (ad 0)), (1, .int v1), (2, .int v2)] := hl
  have J14 : ∀ (k5 : Int32 → Int32 → Int64 → Int32 → Option (Int32)) (hk5 : ∀ (v1 : Int32) (v2 : Int32) (v3 : Int64) (v5 : Int32) (H : Heap) (locs : List Loc) (ls : Array Slot), Wd (EM D ca ak av) A s (wM ad ca fi fl ar) H locs → lv_has ls 7 [(0, .ref (ad 0)), (1, .int v1), (2, .int v2), (3, .long v3), (5, .int v5)] → k5 v1 v2 v3 v5 = some r0 → W p l e ({ frames := 2, cells := 0, slots := 0, locals := 51 } : Room) s m args below meth c H locs 0 0 (MQ below (Qi (EM D ca ak av) A (wM ad ca fi fl ar) r0) args s 0 0 A) (F0 m 5 ls [])) (n : Nat) (v1 : Int32) (v2 : Int32) (v3 : Int64) (v5 : Int32) (v6 : Int32) (H : Heap) (locs : List Loc) (ls : Array Slot), Wd (EM D ca ak av) A s (wM ad ca fi fl ar) H locs → lv_has ls 7 [(0, .ref (ad 0)), (1, .int v1), (2, .int v2), (3, .long v3), (5, .int v5), (6, .int v6)] → f_X9_stepOf_14 ar k5 n v1 v2 v3 v5 v6 = some r0 → W p l e ({ frames := 2, cells := 0, slots := 0, locals := 51 } : Room) s m args below meth c H locs 0 0 (MQ below (Qi (EM D ca ak av) A (wM ad ca fi fl ar) r0) args s 0 0 A) (F0 m 14 ls []) := by
    intro k5 hk5 n
    induction n with
    | zero =>
      intro v1 v2 v3 v5 v6 H locs ls w hl hf
      cases hf
    | succ n ih =>
      intro v1 v2 v3 v5 v6 H locs ls w hl hf
      rw [f_X9_stepOf_14] at hf
      refine lv_iload hx hb dX9_stepOf_14 (lv_at hl 5 rfl) ?_
      refine lv_iconst (v := 2) hx hb dX9_stepOf_16 (by decide) ?_
      refine lv_icmp_ge (x := v6) (y := 2) (tgt := 62) hx hb dX9_stepOf_17 (by decide) (fun c_1 => ?_) (fun c_1 => ?_)
      · have hf := if_t hf c_1
        obtain ⟨x_2, ex_2⟩ : ∃ y : Int32, y = v5 + 1 := ⟨_, rfl⟩
        have hf := bindv_eq hf x_2 ex_2
        refine lv_iinc (v := x_2) (lv' := [(5, .int x_2), (0, .ref (ad 0)), (1, .int v1), (2, .int v2), (3, .long v3), (6, .int v6)]) hx hb dX9_stepOf_62 hl (k := 4) rfl (by rw [ex_2]; rfl) (by decide) rfl (fun ls hl => ?_)
        refine lv_goto (tgt := 5) hx hb dX9_stepOf_65 (by decide) ?_
        exact hk5 v1 v2 v3 x_2 H locs ls w (lv_sub hl [1, 2, 3, 4, 0] rfl) hf
      · have hf := if_f hf c_1
        refine lv_lload_n hx hb dX9_stepOf_20 rfl (lv_at hl 3 rfl) ?_
        refine lv_iload hx hb dX9_stepOf_21 (lv_at hl 4 rfl) ?_
        refine lv_iload_n hx hb dX9_stepOf_23 rfl (lv_at hl 2 rfl) ?_
        obtain ⟨r_3, er_4⟩ : ∃ y, f_X9_shareOf v5 v2 = y := ⟨_, rfl⟩
        have hf := bindv_eq hf r_3 er_4.symm
        refine callSI (As := [.int v5, .int v2]) (rest := [.long v3]) B w (c_X9_shareOf l _ v5 v2 er_4) (gS kt4_190 kt4_191 kt1_11 kt4_192) hdS_X9_shareOf rfl rfl ⟨Nat.le_of_ble_eq_true rfl, Nat.le_of_ble_eq_true rfl⟩ rfl hl.1 rfl (Nat.le_of_ble_eq_true rfl) dX9_stepOf_24 ⟨Nat.le_of_ble_eq_true rfl, Nat.le_of_ble_eq_true rfl⟩ (fun H locs w => ?_)
        refine lv_i2l hx hb dX9_stepOf_27 rfl ?_
        refine lv_iload hx hb dX9_stepOf_28 (lv_at hl 5 rfl) ?_
        refine lv_iload_n hx hb dX9_stepOf_30 rfl (lv_at hl 2 rfl) ?_
        obtain ⟨r_5, er_6⟩ : ∃ y, f_X9_shareOf v6 v2 = y := ⟨_, rfl⟩
        have hf := bindv_eq hf r_5 er_6.symm
        refine callSI (As := [.int v6, .int v2]) (rest := [.long (Int32.toInt64 r_3), .long v3]) B w (c_X9_shareOf l _ v6 v2 er_6) (gS kt4_190 kt4_191 kt1_11 kt4_192) hdS_X9_shareOf rfl rfl ⟨Nat.le_of_ble_eq_true rfl, Nat.le_of_ble_eq_true rfl⟩ rfl hl.1 rfl (Nat.le_of_ble_eq_true rfl) dX9_stepOf_31 ⟨Nat.le_of_ble_eq_true rfl, Nat.le_of_ble_eq_true rfl⟩ (fun H locs w => ?_)
        refine lv_i2l hx hb dX9_stepOf_34 rfl ?_
        refine lv_lmul (x := (Int32.toInt64 r_3)) (y := (Int32.toInt64 r_5)) hx hb dX9_stepOf_35 ?_
        refine lv_aload_n hx hb dX9_stepOf_36 rfl (lv_at hl 0 rfl) ?_
        refine lv_iload_n hx hb dX9_stepOf_37 rfl (lv_at hl 1 rfl) ?_
        refine lv_bipush (v := 16) hx hb dX9_stepOf_38 (by decide) ?_
        refine lv_irem (x := v1) (y := 16) hx hb dX9_stepOf_40 (by decide) ?_
        refine lv_iload_n hx hb dX9_stepOf_41 rfl (lv_at hl 1 rfl) ?_
        refine lv_bipush (v := 16) hx hb dX9_stepOf_42 (by decide) ?_
        refine lv_idiv (x := v1) (y := 16) hx hb dX9_stepOf_44 (by decide) ?_
        refine lv_iload hx hb dX9_stepOf_45 (lv_at hl 4 rfl) ?_
        refine lv_iload hx hb dX9_stepOf_47 (lv_at hl 5 rfl) ?_
        obtain ⟨r_7, er_8, hf⟩ := bind1_eq hf
        refine callVI (As := [.int (v1 - v1 / 16 * 16), .int (v1 / 16), .int v5, .int v6]) (rest := [.long ((Int32.toInt64 r_3) * (Int32.toInt64 r_5)), .long v3]) B w (c_X9_calledGood l D ca ak av ad fi fl ar (v1 - v1 / 16 * 16) (v1 / 16) v5 v6 er_8) (gV kt4_193 kt4_195 kp2_4 kt1_11 kt4_196) hdV_X9_calledGood 0 rfl rfl rfl rfl ⟨Nat.le_of_ble_eq_true rfl, Nat.le_of_ble_eq_true rfl⟩ rfl hl.1 rfl (Nat.le_of_ble_eq_true rfl) dX9_stepOf_49 ⟨Nat.le_of_ble_eq_true rfl, Nat.le_of_ble_eq_true rfl⟩ (fun H locs w => ?_)
        refine lv_i2l hx hb dX9_stepOf_52 rfl ?_
        refine lv_lmul (x := ((Int32.toInt64 r_3) * (Int32.toInt64 r_5))) (y := (Int32.toInt64 r_7)) hx hb dX9_stepOf_53 ?_
        refine lv_ladd (x := v3) (y := (((Int32.toInt64 r_3) * (Int32.toInt64 r_5)) * (Int32.toInt64 r_7))) hx hb dX9_stepOf_54 ?_
        refine lv_topl (fun x_9 ex_9 => ?_)
        have hf := bindv_eq hf x_9 ex_9
        refine lv_lstore_n (lv' := [(3, .long x_9), (0, .ref (ad 0)), (1, .int v1), (2, .int v2), (5, .int v5), (6, .int v6)]) hx hb dX9_stepOf_55 rfl hl (by decide) rfl (fun ls hl => ?_)
        obtain ⟨x_10, ex_10⟩ : ∃ y : Int32, y = v6 + 1 := ⟨_, rfl⟩
        have hf := bindv_eq hf x_10 ex_10
        refine lv_iinc (v := x_10) (lv' := [(6, .int x_10), (3, .long x_9), (0, .ref (ad 0)), (1, .int v1), (2, .int v2), (5, .int v5)]) hx hb dX9_stepOf_56 hl (k := 5) rfl (by rw [ex_10]; rfl) (by decide) rfl (fun ls hl => ?_)
        refine lv_goto (tgt := 14) hx hb dX9_stepOf_59 (by decide) ?_
        exact ih v1 v2 x_9 v5 x_10 H locs ls w (lv_sub hl [2, 3, 4, 1, 5, 0] rfl) hf
  have J5 : ∀ (n : Nat) (v1 : Int32) (v2 : Int32) (v3 : Int64) (v5 : Int32) (H : Heap) (locs : List Loc) (ls : Array Slot), Wd (EM D ca ak av) A s (wM ad ca fi fl ar) H locs → lv_has ls 7 [(0, .ref (ad 0)), (1, .int v1), (2, .int v2), (3, .long v3), (5, .int v5)] → f_X9_stepOf_5 ar n v1 v2 v3 v5 = some r0 → W p l e ({ frames := 2, cells := 0, slots := 0, locals := 51 } : Room) s m args below meth c H locs 0 0 (MQ below (Qi (EM D ca ak av) A (wM ad ca fi fl ar) r0) args s 0 0 A) (F0 m 5 ls []) := by
    intro  n
    induction n with
    | zero =>
      intro v1 v2 v3 v5 H locs ls w hl hf
      cases hf
    | succ n ih =>
      intro v1 v2 v3 v5 H locs ls w hl hf
      rw [f_X9_stepOf_5] at hf
      refine lv_iload hx hb dX9_stepOf_5 (lv_at hl 4 rfl) ?_
      refine lv_iconst (v := 2) hx hb dX9_stepOf_7 (by decide) ?_
      refine lv_icmp_ge (x := v5) (y := 2) (tgt := 68) hx hb dX9_stepOf_8 (by decide) (fun c_11 => ?_) (fun c_11 => ?_)
      · have hf := if_t hf c_11
        refine lv_lload_n hx hb dX9_stepOf_68 rfl (lv_at hl 3 rfl) ?_
        refine lv_ldc2 (own := RX9) (v := 10000000) hx hb hown (hts _ kt4_197) dX9_stepOf_69 ?_
        refine lv_ldiv (x := v3) (y := 10000000) hx hb dX9_stepOf_72 (by decide) ?_
        refine lv_l2i hx hb dX9_stepOf_73 rfl ?_
        refine lv_topi (fun x_12 ex_12 => ?_)
        have hf := bindv_eq hf x_12 ex_12
        refine lv_istore (lv' := [(5, .int x_12), (0, .ref (ad 0)), (1, .int v1), (2, .int v2), (3, .long v3)]) hx hb dX9_stepOf_74 hl (by decide) rfl (fun ls hl => ?_)
        refine lv_bipush (v := 100) hx hb dX9_stepOf_76 (by decide) ?_
        refine lv_aload_n hx hb dX9_stepOf_78 rfl (lv_at hl 1 rfl) ?_
        refine gfM_0_0 B w kt4_25 dX9_stepOf_79 ?_
        refine lv_iconst (v := 4) hx hb dX9_stepOf_82 (by decide) ?_
        refine alM_1 B w (vp_in_iff.mpr (by decide)) dX9_stepOf_83 ?_
        refine lv_isub (x := 100) (y := (ar 1 (Int32.toNatClampNeg 4))) hx hb dX9_stepOf_84 ?_
        refine lv_iload hx hb dX9_stepOf_85 (lv_at hl 0 rfl) ?_
        refine lv_imul (x := (100 - (ar 1 (Int32.toNatClampNeg 4)))) (y := x_12) hx hb dX9_stepOf_87 ?_
        refine lv_aload_n hx hb dX9_stepOf_88 rfl (lv_at hl 1 rfl) ?_
        refine gfM_0_0 B w kt4_25 dX9_stepOf_89 ?_
        refine lv_iconst (v := 4) hx hb dX9_stepOf_92 (by decide) ?_
        refine alM_1 B w (vp_in_iff.mpr (by decide)) dX9_stepOf_93 ?_
        refine lv_sipush (v := 1000) hx hb dX9_stepOf_94 (by decide) ?_
        refine lv_imul (x := (ar 1 (Int32.toNatClampNeg 4))) (y := 1000) hx hb dX9_stepOf_97 ?_
        refine lv_aload_n hx hb dX9_stepOf_98 rfl (lv_at hl 1 rfl) ?_
        refine gfM_0_0 B w kt4_25 dX9_stepOf_99 ?_
        refine lv_iconst (v := 5) hx hb dX9_stepOf_102 (by decide) ?_
        refine alM_1 B w (vp_in_iff.mpr (by decide)) dX9_stepOf_103 ?_
        refine lv_imul (x := ((ar 1 (Int32.toNatClampNeg 4)) * 1000)) (y := (ar 1 (Int32.toNatClampNeg 5))) hx hb dX9_stepOf_104 ?_
        refine lv_iadd (x := ((100 - (ar 1 (Int32.toNatClampNeg 4))) * x_12)) (y := (((ar 1 (Int32.toNatClampNeg 4)) * 1000) * (ar 1 (Int32.toNatClampNeg 5)))) hx hb dX9_stepOf_105 ?_
        refine lv_bipush (v := 100) hx hb dX9_stepOf_106 (by decide) ?_
        refine lv_idiv (x := (((100 - (ar 1 (Int32.toNatClampNeg 4))) * x_12) + (((ar 1 (Int32.toNatClampNeg 4)) * 1000) * (ar 1 (Int32.toNatClampNeg 5))))) (y := 100) hx hb dX9_stepOf_108 (by decide) ?_
        have hf : some ((((100 - (ar 1 (Int32.toNatClampNeg 4))) * x_12) + (((ar 1 (Int32.toNatClampNeg 4)) * 1000) * (ar 1 (Int32.toNatClampNeg 5)))) / 100) = some r0 := hf
        have q0 := so1 hf
        subst q0
        exact retI B hr hk w dX9_stepOf_109
      · have hf := if_f hf c_11
        refine lv_iconst (v := 0) hx hb dX9_stepOf_11 (by decide) ?_
        refine lv_istore (lv' := [(6, .int 0), (0, .ref (ad 0)), (1, .int v1), (2, .int v2), (3, .long v3), (5, .int v5)]) hx hb dX9_stepOf_12 hl (by decide) rfl (fun ls hl => ?_)
        exact J14 _ ih 5000 v1 v2 v3 v5 0 H locs ls w (lv_sub hl [1, 2, 3, 4, 5, 0] rfl) hf
  unfold f_X9_stepOf at hf
  refine (show ∀ (H : Heap) (locs : List Loc), Wd (EM D ca ak av) A s (wM ad ca fi fl ar) H locs → W p l e ({ frames := 2, cells := 0, slots := 0, locals := 51 } : Room) s m args below meth c H locs 0 0 (MQ below (Qi (EM D ca ak av) A (wM ad ca fi fl ar) r0) args s 0 0 A) (F0 m 0 ls []) from ?_) s.heap [] w
  intro H locs w
  refine lv_lconst (v := 0) hx hb dX9_stepOf_0 (by decide) ?_
  refine lv_lstore_n (lv' := [(3, .long 0), (0, .ref (ad 0)), (1, .int v1), (2, .int v2)]) hx hb dX9_stepOf_1 rfl hl (by decide) rfl (fun ls hl => ?_)
  refine lv_iconst (v := 0) hx hb dX9_stepOf_2 (by decide) ?_
  refine lv_istore (lv' := [(5, .int 0), (3, .long 0), (0, .ref (ad 0)), (1, .int v1), (2, .int v2)]) hx hb dX9_stepOf_3 hl (by decide) rfl (fun ls hl => ?_)
  exact J5  5000 v1 v2 0 0 H locs ls w (lv_sub hl [2, 3, 4, 1, 0] rfl) hf
def f_X9_step (ar : Nat → Nat → Int32) (v1 : Int32) (v2 : Int32) : Option (Int32) := bindv (f_X9_isRule v1) (fun r_1 => if (r_1 = 0 : Prop) then (some (-1002)) else (bindv (f_X9_isShare v2) (fun r_4 => if (r_4 = 0 : Prop) then (some (-1002)) else (bind1 (f_X9_stepOf ar v1 v2) (fun r_7 => some r_7)))))
set_option maxHeartbeats 4000000 in
set_option maxRecDepth 100000 in
theorem c_X9_step (l : Launch) (D : va_G) (ca : Nat → ClassId) (ak av ad : Nat → Nat) (fi : Nat → Int32) (fl : Nat → Int64) (ar : Nat → Nat → Int32) (v1 : Int32) (v2 : Int32) {r0 : Int32} (hf : f_X9_step ar v1 v2 = some r0) : MtI l yX9_step cX9_step 3 { frames := 3, cells := 0, slots := 0, locals := 77 } (EM D ca ak av) [.ref (ad 0), .int v1, .int v2] (wM ad ca fi fl ar) (wM ad ca fi fl ar) r0 := by
  refine MtI.of (own := RX9) (by decide +kernel) rfl (Nat.le_of_ble_eq_true rfl) ?_
  intro p e s m args below meth c A B hr hk w ls hl
  have hx := B.1.1
  have hb := B.1.2.1
  have hown := B.1.2.2.2.1
  have hts := B.1.2.2.2.2
  have hl : lv_has ls 3 [(0, .ref (ad 0)), (1, .int v1), (2, .int v2)] := hl
  unfold f_X9_step at hf
  refine (show ∀ (H : Heap) (locs : List Loc), Wd (EM D ca ak av) A s (wM ad ca fi fl ar) H locs → W p l e ({ frames := 3, cells := 0, slots := 0, locals := 77 } : Room) s m args below meth c H locs 0 0 (MQ below (Qi (EM D ca ak av) A (wM ad ca fi fl ar) r0) args s 0 0 A) (F0 m 0 ls []) from ?_) s.heap [] w
  intro H locs w
  refine lv_iload_n hx hb dX9_step_0 rfl (lv_at hl 1 rfl) ?_
  obtain ⟨r_1, er_2⟩ : ∃ y, f_X9_isRule v1 = y := ⟨_, rfl⟩
  have hf := bindv_eq hf r_1 er_2.symm
  refine callSZ (As := [.int v1]) (rest := []) B w (c_X9_isRule l _ v1 er_2) (gS kt4_164 kt4_165 kt1_11 kt4_166) hdS_X9_isRule rfl rfl ⟨Nat.le_of_ble_eq_true rfl, Nat.le_of_ble_eq_true rfl⟩ rfl hl.1 rfl (Nat.le_of_ble_eq_true rfl) dX9_step_1 ⟨Nat.le_of_ble_eq_true rfl, Nat.le_of_ble_eq_true rfl⟩ (fun H locs w hzr_1 => ?_)
  refine lv_if_eq (x := r_1) (tgt := 23) hx hb dX9_step_4 (by decide) (fun c_3 => ?_) (fun c_3 => ?_)
  · have hf := if_t hf c_3
    refine lv_sipush (v := (-1002)) hx hb dX9_step_23 (by decide) ?_
    have hf : some (-1002) = some r0 := hf
    have q0 := so1 hf
    subst q0
    exact retI B hr hk w dX9_step_26
  · have hf := if_f hf c_3
    refine lv_iload_n hx hb dX9_step_7 rfl (lv_at hl 2 rfl) ?_
    obtain ⟨r_4, er_5⟩ : ∃ y, f_X9_isShare v2 = y := ⟨_, rfl⟩
    have hf := bindv_eq hf r_4 er_5.symm
    refine callSZ (As := [.int v2]) (rest := []) B w (c_X9_isShare l _ v2 er_5) (gS kt4_182 kt4_183 kt1_11 kt4_184) hdS_X9_isShare rfl rfl ⟨Nat.le_of_ble_eq_true rfl, Nat.le_of_ble_eq_true rfl⟩ rfl hl.1 rfl (Nat.le_of_ble_eq_true rfl) dX9_step_8 ⟨Nat.le_of_ble_eq_true rfl, Nat.le_of_ble_eq_true rfl⟩ (fun H locs w hzr_4 => ?_)
    refine lv_if_eq (x := r_4) (tgt := 23) hx hb dX9_step_11 (by decide) (fun c_6 => ?_) (fun c_6 => ?_)
    · have hf := if_t hf c_6
      refine lv_sipush (v := (-1002)) hx hb dX9_step_23 (by decide) ?_
      have hf : some (-1002) = some r0 := hf
      have q0 := so1 hf
      subst q0
      exact retI B hr hk w dX9_step_26
    · have hf := if_f hf c_6
      refine lv_aload_n hx hb dX9_step_14 rfl (lv_at hl 0 rfl) ?_
      refine lv_iload_n hx hb dX9_step_15 rfl (lv_at hl 1 rfl) ?_
      refine lv_iload_n hx hb dX9_step_16 rfl (lv_at hl 2 rfl) ?_
      obtain ⟨r_7, er_8, hf⟩ := bind1_eq hf
      refine callVI (As := [.int v1, .int v2]) (rest := []) B w (c_X9_stepOf l D ca ak av ad fi fl ar v1 v2 er_8) (gV kt4_186 kt4_188 kp2_3 kt1_11 kt4_189) hdV_X9_stepOf 0 rfl rfl rfl rfl ⟨Nat.le_of_ble_eq_true rfl, Nat.le_of_ble_eq_true rfl⟩ rfl hl.1 rfl (Nat.le_of_ble_eq_true rfl) dX9_step_17 ⟨Nat.le_of_ble_eq_true rfl, Nat.le_of_ble_eq_true rfl⟩ (fun H locs w => ?_)
      refine lv_goto (tgt := 26) hx hb dX9_step_20 (by decide) ?_
      have hf : some r_7 = some r0 := hf
      have q0 := so1 hf
      subst q0
      exact retI B hr hk w dX9_step_26
def f_X9_goFrom_27   : Nat → (Int32) → (Int32) → (Int32) → (Nat → Int32) → (Nat → Nat → Int32) → Option ((Nat → Int32) × (Nat → Nat → Int32))
  | 0, _, _, _, _, _ => none
  | n + 1, v1, v3, v4, fi, ar => gd v3 1001 (if (0 ≤ (ar 4 (Int32.toNatClampNeg v3)) : Prop) then (gd v3 1001 (bindv (upd fi 9 (ar 4 (Int32.toNatClampNeg v3))) (fun fi_4 => bindv (upd fi_4 10 (v4 - (fi_4 9))) (fun fi_5 => if ((fi_5 10) = 1 : Prop) then (bindv (upd fi_5 8 v3) (fun fi_8 => some (fi_8, ar))) else (bindv (upd fi_5 8 (-1)) (fun fi_7 => some (fi_7, ar))))))) else (gd v3 1001 (bindv (updA ar 4 (upd (ar 4) (Int32.toNatClampNeg v3) v4)) (fun ar_10 => bindv (v4 + 1 : Int32) (fun x_11 => bind1 (f_X9_stepOf ar_10 v1 v3) (fun r_12 => (f_X9_goFrom_27 n) v1 r_12 x_11 fi ar_10))))))
def f_X9_goFrom_2   : Nat → (Int32) → (Int32) → (Int32) → (Nat → Int32) → (Nat → Nat → Int32) → Option ((Nat → Int32) × (Nat → Nat → Int32))
  | 0, _, _, _, _, _ => none
  | n + 1, v1, v2, v3, fi, ar => if (1000 < v3 : Prop) then (f_X9_goFrom_27  5000 v1 v2 0 fi ar) else (gd v3 1001 (bindv (updA ar 4 (upd (ar 4) (Int32.toNatClampNeg v3) (-1))) (fun ar_16 => bindv (v3 + 1 : Int32) (fun x_17 => (f_X9_goFrom_2 n) v1 v2 x_17 fi ar_16))))
def f_X9_goFrom (fi : Nat → Int32) (ar : Nat → Nat → Int32) (v1 : Int32) (v2 : Int32) : Option ((Nat → Int32) × (Nat → Nat → Int32)) := f_X9_goFrom_2  5000 v1 v2 0 fi ar
set_option maxHeartbeats 4000000 in
set_option maxRecDepth 100000 in
theorem c_X9_goFrom (l : Launch) (D : va_G) (ca : Nat → ClassId) (ak av ad : Nat → Nat) (fi : Nat → Int32) (fl : Nat → Int64) (ar : Nat → Nat → Int32) (v1 : Int32) (v2 : Int32) {fi0 : Nat → Int32} {ar0 : Nat → Nat → Int32} (hf : f_X9_goFrom fi ar v1 v2 = some (fi0, ar0)) : MtV l yX9_goFrom cX9_goFrom 5 { frames := 3, cells := 0, slots := 0, locals := 77 } (EM D ca ak av) [.ref (ad 0), .int v1, .int v2] (wM ad ca fi fl ar) (wM ad ca fi0 fl ar0) := by
  refine MtV.of (own := RX9) (by decide +kernel) rfl (Nat.le_of_ble_eq_true rfl) ?_
  intro p e s m args below meth c A B hr hk w ls hl
  have hx := B.1.1
  have hb := B.1.2.1
  have hown := B.1.2.2.2.1
  have hts := B.1.2.2.2.2
  have hl : lv_has ls 5 [(0, .ref (ad 0)), (1, .int v1), (2, .int v2)] := hl
  have J27 : ∀ (n : Nat) (v1 : Int32) (v3 : Int32) (v4 : Int32) (fi : Nat → Int32) (ar : Nat → Nat → Int32) (H : Heap) (locs : List Loc) (ls : Array Slot), Wd (EM D ca ak av) A s (wM ad ca fi fl ar) H locs → lv_has ls 5 [(0, .ref (ad 0)), (1, .int v1), (3, .int v3), (4, .int v4)] → f_X9_goFrom_27  n v1 v3 v4 fi ar = some (fi0, ar0) → W p l e ({ frames := 3, cells := 0, slots := 0, locals := 77 } : Room) s m args below meth c H locs 0 0 (MQ below (Qv (EM D ca ak av) A (wM ad ca fi0 fl ar0)) args s 0 0 A) (F0 m 27 ls []) := by
    intro  n
    induction n with
    | zero =>
      intro v1 v3 v4 fi ar H locs ls w hl hf
      cases hf
    | succ n ih =>
      intro v1 v3 v4 fi ar H locs ls w hl hf
      rw [f_X9_goFrom_27] at hf
      refine lv_aload_n hx hb dX9_goFrom_27 rfl (lv_at hl 0 rfl) ?_
      refine gfM_0_11 B w kt4_36 dX9_goFrom_28 ?_
      refine lv_iload_n hx hb dX9_goFrom_31 rfl (lv_at hl 2 rfl) ?_
      obtain ⟨hi_1, hf⟩ := gd_eq hf
      refine alM_4 B w hi_1 dX9_goFrom_32 ?_
      refine lv_if_ge (x := (ar 4 (Int32.toNatClampNeg v3))) (tgt := 57) hx hb dX9_goFrom_33 (by decide) (fun c_2 => ?_) (fun c_2 => ?_)
      · have hf := if_t hf c_2
        refine lv_aload_n hx hb dX9_goFrom_57 rfl (lv_at hl 0 rfl) ?_
        refine lv_aload_n hx hb dX9_goFrom_58 rfl (lv_at hl 0 rfl) ?_
        refine gfM_0_11 B w kt4_36 dX9_goFrom_59 ?_
        refine lv_iload_n hx hb dX9_goFrom_62 rfl (lv_at hl 2 rfl) ?_
        obtain ⟨hi_3, hf⟩ := gd_eq hf
        refine alM_4 B w hi_3 dX9_goFrom_63 ?_
        refine pfM_0_13 (v := (ar 4 (Int32.toNatClampNeg v3))) B w kt4_38 dX9_goFrom_64 (fun H locs fi_4 efi_4 w => ?_)
        have hf := bindv_eq hf fi_4 efi_4
        refine lv_aload_n hx hb dX9_goFrom_67 rfl (lv_at hl 0 rfl) ?_
        refine lv_iload hx hb dX9_goFrom_68 (lv_at hl 3 rfl) ?_
        refine lv_aload_n hx hb dX9_goFrom_70 rfl (lv_at hl 0 rfl) ?_
        refine gfM_0_13 B w kt4_38 dX9_goFrom_71 ?_
        refine lv_isub (x := v4) (y := (fi_4 9)) hx hb dX9_goFrom_74 ?_
        refine pfM_0_14 (v := (v4 - (fi_4 9))) B w kt4_39 dX9_goFrom_75 (fun H locs fi_5 efi_5 w => ?_)
        have hf := bindv_eq hf fi_5 efi_5
        refine lv_aload_n hx hb dX9_goFrom_78 rfl (lv_at hl 0 rfl) ?_
        refine lv_aload_n hx hb dX9_goFrom_79 rfl (lv_at hl 0 rfl) ?_
        refine gfM_0_14 B w kt4_39 dX9_goFrom_80 ?_
        refine lv_iconst (v := 1) hx hb dX9_goFrom_83 (by decide) ?_
        refine lv_icmp_ne (x := (fi_5 10)) (y := 1) (tgt := 91) hx hb dX9_goFrom_84 (by decide) (fun c_6 => ?_) (fun c_6 => ?_)
        · have hf := if_f hf c_6
          refine lv_iconst (v := (-1)) hx hb dX9_goFrom_91 (by decide) ?_
          refine pfM_0_12 (v := (-1)) B w kt4_37 dX9_goFrom_92 (fun H locs fi_7 efi_7 w => ?_)
          have hf := bindv_eq hf fi_7 efi_7
          have hf : some (fi_7, ar) = some (fi0, ar0) := hf
          obtain ⟨q0, q1⟩ := so2 hf
          subst q0
          subst q1
          exact retV B hr hk w dX9_goFrom_95
        · have hf := if_t hf c_6
          refine lv_iload_n hx hb dX9_goFrom_87 rfl (lv_at hl 2 rfl) ?_
          refine lv_goto (tgt := 92) hx hb dX9_goFrom_88 (by decide) ?_
          refine pfM_0_12 (v := v3) B w kt4_37 dX9_goFrom_92 (fun H locs fi_8 efi_8 w => ?_)
          have hf := bindv_eq hf fi_8 efi_8
          have hf : some (fi_8, ar) = some (fi0, ar0) := hf
          obtain ⟨q0, q1⟩ := so2 hf
          subst q0
          subst q1
          exact retV B hr hk w dX9_goFrom_95
      · have hf := if_f hf c_2
        refine lv_aload_n hx hb dX9_goFrom_36 rfl (lv_at hl 0 rfl) ?_
        refine gfM_0_11 B w kt4_36 dX9_goFrom_37 ?_
        refine lv_iload_n hx hb dX9_goFrom_40 rfl (lv_at hl 2 rfl) ?_
        refine lv_iload hx hb dX9_goFrom_41 (lv_at hl 3 rfl) ?_
        obtain ⟨hi_9, hf⟩ := gd_eq hf
        refine asM_4 (x := v4) B w hi_9 dX9_goFrom_43 (fun H locs ar_10 ear_10 w => ?_)
        have hf := bindv_eq hf ar_10 ear_10
        obtain ⟨x_11, ex_11⟩ : ∃ y : Int32, y = v4 + 1 := ⟨_, rfl⟩
        have hf := bindv_eq hf x_11 ex_11
        refine lv_iinc (v := x_11) (lv' := [(4, .int x_11), (0, .ref (ad 0)), (1, .int v1), (3, .int v3)]) hx hb dX9_goFrom_44 hl (k := 3) rfl (by rw [ex_11]; rfl) (by decide) rfl (fun ls hl => ?_)
        refine lv_aload_n hx hb dX9_goFrom_47 rfl (lv_at hl 1 rfl) ?_
        refine lv_iload_n hx hb dX9_goFrom_48 rfl (lv_at hl 2 rfl) ?_
        refine lv_iload_n hx hb dX9_goFrom_49 rfl (lv_at hl 3 rfl) ?_
        obtain ⟨r_12, er_13, hf⟩ := bind1_eq hf
        refine callVI (As := [.int v1, .int v3]) (rest := []) B w (c_X9_stepOf l D ca ak av ad fi fl ar_10 v1 v3 er_13) (gV kt4_186 kt4_188 kp2_3 kt1_11 kt4_189) hdV_X9_stepOf 0 rfl rfl rfl rfl ⟨Nat.le_of_ble_eq_true rfl, Nat.le_of_ble_eq_true rfl⟩ rfl hl.1 rfl (Nat.le_of_ble_eq_true rfl) dX9_goFrom_50 ⟨Nat.le_of_ble_eq_true rfl, Nat.le_of_ble_eq_true rfl⟩ (fun H locs w => ?_)
        refine lv_istore_n (lv' := [(3, .int r_12), (4, .int x_11), (0, .ref (ad 0)), (1, .int v1)]) hx hb dX9_goFrom_53 rfl hl (by decide) rfl (fun ls hl => ?_)
        refine lv_goto (tgt := 27) hx hb dX9_goFrom_54 (by decide) ?_
        exact ih v1 r_12 x_11 fi ar_10 H locs ls w (lv_sub hl [2, 3, 0, 1] rfl) hf
  have J2 : ∀ (n : Nat) (v1 : Int32) (v2 : Int32) (v3 : Int32) (fi : Nat → Int32) (ar : Nat → Nat → Int32) (H : Heap) (locs : List Loc) (ls : Array Slot), Wd (EM D ca ak av) A s (wM ad ca fi fl ar) H locs → lv_has ls 5 [(0, .ref (ad 0)), (1, .int v1), (2, .int v2), (3, .int v3)] → f_X9_goFrom_2  n v1 v2 v3 fi ar = some (fi0, ar0) → W p l e ({ frames := 3, cells := 0, slots := 0, locals := 77 } : Room) s m args below meth c H locs 0 0 (MQ below (Qv (EM D ca ak av) A (wM ad ca fi0 fl ar0)) args s 0 0 A) (F0 m 2 ls []) := by
    intro  n
    induction n with
    | zero =>
      intro v1 v2 v3 fi ar H locs ls w hl hf
      cases hf
    | succ n ih =>
      intro v1 v2 v3 fi ar H locs ls w hl hf
      rw [f_X9_goFrom_2] at hf
      refine lv_iload_n hx hb dX9_goFrom_2 rfl (lv_at hl 3 rfl) ?_
      refine lv_sipush (v := 1000) hx hb dX9_goFrom_3 (by decide) ?_
      refine lv_icmp_gt (x := v3) (y := 1000) (tgt := 22) hx hb dX9_goFrom_6 (by decide) (fun c_14 => ?_) (fun c_14 => ?_)
      · have hf := if_t hf c_14
        refine lv_iload_n hx hb dX9_goFrom_22 rfl (lv_at hl 2 rfl) ?_
        refine lv_istore_n (lv' := [(3, .int v2), (0, .ref (ad 0)), (1, .int v1), (2, .int v2)]) hx hb dX9_goFrom_23 rfl hl (by decide) rfl (fun ls hl => ?_)
        refine lv_iconst (v := 0) hx hb dX9_goFrom_24 (by decide) ?_
        refine lv_istore (lv' := [(4, .int 0), (3, .int v2), (0, .ref (ad 0)), (1, .int v1), (2, .int v2)]) hx hb dX9_goFrom_25 hl (by decide) rfl (fun ls hl => ?_)
        exact J27  5000 v1 v2 0 fi ar H locs ls w (lv_sub hl [2, 3, 1, 0] rfl) hf
      · have hf := if_f hf c_14
        refine lv_aload_n hx hb dX9_goFrom_9 rfl (lv_at hl 0 rfl) ?_
        refine gfM_0_11 B w kt4_36 dX9_goFrom_10 ?_
        refine lv_iload_n hx hb dX9_goFrom_13 rfl (lv_at hl 3 rfl) ?_
        refine lv_iconst (v := (-1)) hx hb dX9_goFrom_14 (by decide) ?_
        obtain ⟨hi_15, hf⟩ := gd_eq hf
        refine asM_4 (x := (-1)) B w hi_15 dX9_goFrom_15 (fun H locs ar_16 ear_16 w => ?_)
        have hf := bindv_eq hf ar_16 ear_16
        obtain ⟨x_17, ex_17⟩ : ∃ y : Int32, y = v3 + 1 := ⟨_, rfl⟩
        have hf := bindv_eq hf x_17 ex_17
        refine lv_iinc (v := x_17) (lv' := [(3, .int x_17), (0, .ref (ad 0)), (1, .int v1), (2, .int v2)]) hx hb dX9_goFrom_16 hl (k := 3) rfl (by rw [ex_17]; rfl) (by decide) rfl (fun ls hl => ?_)
        refine lv_goto (tgt := 2) hx hb dX9_goFrom_19 (by decide) ?_
        exact ih v1 v2 x_17 fi ar_16 H locs ls w (lv_sub hl [1, 2, 3, 0] rfl) hf
  unfold f_X9_goFrom at hf
  refine (show ∀ (H : Heap) (locs : List Loc), Wd (EM D ca ak av) A s (wM ad ca fi fl ar) H locs → W p l e ({ frames := 3, cells := 0, slots := 0, locals := 77 } : Room) s m args below meth c H locs 0 0 (MQ below (Qv (EM D ca ak av) A (wM ad ca fi0 fl ar0)) args s 0 0 A) (F0 m 0 ls []) from ?_) s.heap [] w
  intro H locs w
  refine lv_iconst (v := 0) hx hb dX9_goFrom_0 (by decide) ?_
  refine lv_istore_n (lv' := [(3, .int 0), (0, .ref (ad 0)), (1, .int v1), (2, .int v2)]) hx hb dX9_goFrom_1 rfl hl (by decide) rfl (fun ls hl => ?_)
  exact J2  5000 v1 v2 0 fi ar H locs ls w (lv_sub hl [1, 2, 3, 0] rfl) hf
def f_X9_from (fi : Nat → Int32) (ar : Nat → Nat → Int32) (v1 : Int32) (v2 : Int32) (v3 : Int32) : Option (Int32 × (Nat → Int32) × (Nat → Nat → Int32)) := bindv (f_X9_isRule v1) (fun r_1 => if (r_1 = 0 : Prop) then (some ((-1002), fi, ar)) else (bindv (f_X9_isShare v2) (fun r_4 => if (r_4 = 0 : Prop) then (some ((-1002), fi, ar)) else (bindv (f_X9_in (Int32.toInt64 v3) 0 2) (fun r_7 => if (r_7 = 0 : Prop) then (some ((-1002), fi, ar)) else (bind2 (f_X9_goFrom fi ar v1 v2) (fun fi_10 ar_11 => if (v3 = 0 : Prop) then (some ((fi_10 8), fi_10, ar_11)) else (if (v3 = 1 : Prop) then (some ((fi_10 9), fi_10, ar_11)) else (some ((fi_10 10), fi_10, ar_11))))))))))
set_option maxHeartbeats 4000000 in
set_option maxRecDepth 100000 in
theorem c_X9_from (l : Launch) (D : va_G) (ca : Nat → ClassId) (ak av ad : Nat → Nat) (fi : Nat → Int32) (fl : Nat → Int64) (ar : Nat → Nat → Int32) (v1 : Int32) (v2 : Int32) (v3 : Int32) {r0 : Int32} {fi0 : Nat → Int32} {ar0 : Nat → Nat → Int32} (hf : f_X9_from fi ar v1 v2 v3 = some (r0, fi0, ar0)) : MtI l yX9_from cX9_from 4 { frames := 4, cells := 0, slots := 0, locals := 101 } (EM D ca ak av) [.ref (ad 0), .int v1, .int v2, .int v3] (wM ad ca fi fl ar) (wM ad ca fi0 fl ar0) r0 := by
  refine MtI.of (own := RX9) (by decide +kernel) rfl (Nat.le_of_ble_eq_true rfl) ?_
  intro p e s m args below meth c A B hr hk w ls hl
  have hx := B.1.1
  have hb := B.1.2.1
  have hown := B.1.2.2.2.1
  have hts := B.1.2.2.2.2
  have hl : lv_has ls 4 [(0, .ref (ad 0)), (1, .int v1), (2, .int v2), (3, .int v3)] := hl
  unfold f_X9_from at hf
  refine (show ∀ (H : Heap) (locs : List Loc), Wd (EM D ca ak av) A s (wM ad ca fi fl ar) H locs → W p l e ({ frames := 4, cells := 0, slots := 0, locals := 101 } : Room) s m args below meth c H locs 0 0 (MQ below (Qi (EM D ca ak av) A (wM ad ca fi0 fl ar0) r0) args s 0 0 A) (F0 m 0 ls []) from ?_) s.heap [] w
  intro H locs w
  refine lv_iload_n hx hb dX9_from_0 rfl (lv_at hl 1 rfl) ?_
  obtain ⟨r_1, er_2⟩ : ∃ y, f_X9_isRule v1 = y := ⟨_, rfl⟩
  have hf := bindv_eq hf r_1 er_2.symm
  refine callSZ (As := [.int v1]) (rest := []) B w (c_X9_isRule l _ v1 er_2) (gS kt4_164 kt4_165 kt1_11 kt4_166) hdS_X9_isRule rfl rfl ⟨Nat.le_of_ble_eq_true rfl, Nat.le_of_ble_eq_true rfl⟩ rfl hl.1 rfl (Nat.le_of_ble_eq_true rfl) dX9_from_1 ⟨Nat.le_of_ble_eq_true rfl, Nat.le_of_ble_eq_true rfl⟩ (fun H locs w hzr_1 => ?_)
  refine lv_if_eq (x := r_1) (tgt := 26) hx hb dX9_from_4 (by decide) (fun c_3 => ?_) (fun c_3 => ?_)
  · have hf := if_t hf c_3
    refine lv_sipush (v := (-1002)) hx hb dX9_from_26 (by decide) ?_
    have hf : some ((-1002), fi, ar) = some (r0, fi0, ar0) := hf
    obtain ⟨q0, q1, q2⟩ := so3 hf
    subst q0
    subst q1
    subst q2
    exact retI B hr hk w dX9_from_29
  · have hf := if_f hf c_3
    refine lv_iload_n hx hb dX9_from_7 rfl (lv_at hl 2 rfl) ?_
    obtain ⟨r_4, er_5⟩ : ∃ y, f_X9_isShare v2 = y := ⟨_, rfl⟩
    have hf := bindv_eq hf r_4 er_5.symm
    refine callSZ (As := [.int v2]) (rest := []) B w (c_X9_isShare l _ v2 er_5) (gS kt4_182 kt4_183 kt1_11 kt4_184) hdS_X9_isShare rfl rfl ⟨Nat.le_of_ble_eq_true rfl, Nat.le_of_ble_eq_true rfl⟩ rfl hl.1 rfl (Nat.le_of_ble_eq_true rfl) dX9_from_8 ⟨Nat.le_of_ble_eq_true rfl, Nat.le_of_ble_eq_true rfl⟩ (fun H locs w hzr_4 => ?_)
    refine lv_if_eq (x := r_4) (tgt := 26) hx hb dX9_from_11 (by decide) (fun c_6 => ?_) (fun c_6 => ?_)
    · have hf := if_t hf c_6
      refine lv_sipush (v := (-1002)) hx hb dX9_from_26 (by decide) ?_
      have hf : some ((-1002), fi, ar) = some (r0, fi0, ar0) := hf
      obtain ⟨q0, q1, q2⟩ := so3 hf
      subst q0
      subst q1
      subst q2
      exact retI B hr hk w dX9_from_29
    · have hf := if_f hf c_6
      refine lv_iload_n hx hb dX9_from_14 rfl (lv_at hl 3 rfl) ?_
      refine lv_i2l hx hb dX9_from_15 rfl ?_
      refine lv_lconst (v := 0) hx hb dX9_from_16 (by decide) ?_
      refine lv_ldc2 (own := RX9) (v := 2) hx hb hown (hts _ kt4_202) dX9_from_17 ?_
      obtain ⟨r_7, er_8⟩ : ∃ y, f_X9_in (Int32.toInt64 v3) 0 2 = y := ⟨_, rfl⟩
      have hf := bindv_eq hf r_7 er_8.symm
      refine callSZ (As := [.long (Int32.toInt64 v3), .long 0, .long 2]) (rest := []) B w (c_X9_in l _ (Int32.toInt64 v3) 0 2 er_8) (gS kt4_95 kt4_96 kt1_11 kt4_97) hdS_X9_in rfl rfl ⟨Nat.le_of_ble_eq_true rfl, Nat.le_of_ble_eq_true rfl⟩ rfl hl.1 rfl (Nat.le_of_ble_eq_true rfl) dX9_from_20 ⟨Nat.le_of_ble_eq_true rfl, Nat.le_of_ble_eq_true rfl⟩ (fun H locs w hzr_7 => ?_)
      refine lv_if_ne (x := r_7) (tgt := 30) hx hb dX9_from_23 (by decide) (fun c_9 => ?_) (fun c_9 => ?_)
      · have hf := if_f hf c_9
        refine lv_aload_n hx hb dX9_from_30 rfl (lv_at hl 0 rfl) ?_
        refine lv_iload_n hx hb dX9_from_31 rfl (lv_at hl 1 rfl) ?_
        refine lv_iload_n hx hb dX9_from_32 rfl (lv_at hl 2 rfl) ?_
        obtain ⟨fi_10, ar_11, er_12, hf⟩ := bind2_eq hf
        refine callVV (As := [.int v1, .int v2]) (rest := []) B w (c_X9_goFrom l D ca ak av ad fi fl ar v1 v2 er_12) (gV kt4_203 kt4_205 kp2_5 kt1_11 kt4_206) hdV_X9_goFrom 0 rfl rfl rfl rfl ⟨Nat.le_of_ble_eq_true rfl, Nat.le_of_ble_eq_true rfl⟩ rfl hl.1 rfl (Nat.le_of_ble_eq_true rfl) dX9_from_33 ⟨Nat.le_of_ble_eq_true rfl, Nat.le_of_ble_eq_true rfl⟩ (fun H locs w => ?_)
        refine lv_iload_n hx hb dX9_from_36 rfl (lv_at hl 3 rfl) ?_
        refine lv_if_ne (x := v3) (tgt := 47) hx hb dX9_from_37 (by decide) (fun c_13 => ?_) (fun c_13 => ?_)
        · have hf := if_f hf c_13
          refine lv_iload_n hx hb dX9_from_47 rfl (lv_at hl 3 rfl) ?_
          refine lv_iconst (v := 1) hx hb dX9_from_48 (by decide) ?_
          refine lv_icmp_ne (x := v3) (y := 1) (tgt := 59) hx hb dX9_from_49 (by decide) (fun c_14 => ?_) (fun c_14 => ?_)
          · have hf := if_f hf c_14
            refine lv_aload_n hx hb dX9_from_59 rfl (lv_at hl 0 rfl) ?_
            refine gfM_0_14 B w kt4_39 dX9_from_60 ?_
            have hf : some ((fi_10 10), fi_10, ar_11) = some (r0, fi0, ar0) := hf
            obtain ⟨q0, q1, q2⟩ := so3 hf
            subst q0
            subst q1
            subst q2
            exact retI B hr hk w dX9_from_63
          · have hf := if_t hf c_14
            refine lv_aload_n hx hb dX9_from_52 rfl (lv_at hl 0 rfl) ?_
            refine gfM_0_13 B w kt4_38 dX9_from_53 ?_
            refine lv_goto (tgt := 63) hx hb dX9_from_56 (by decide) ?_
            have hf : some ((fi_10 9), fi_10, ar_11) = some (r0, fi0, ar0) := hf
            obtain ⟨q0, q1, q2⟩ := so3 hf
            subst q0
            subst q1
            subst q2
            exact retI B hr hk w dX9_from_63
        · have hf := if_t hf c_13
          refine lv_aload_n hx hb dX9_from_40 rfl (lv_at hl 0 rfl) ?_
          refine gfM_0_12 B w kt4_37 dX9_from_41 ?_
          refine lv_goto (tgt := 63) hx hb dX9_from_44 (by decide) ?_
          have hf : some ((fi_10 8), fi_10, ar_11) = some (r0, fi0, ar0) := hf
          obtain ⟨q0, q1, q2⟩ := so3 hf
          subst q0
          subst q1
          subst q2
          exact retI B hr hk w dX9_from_63
      · have hf := if_t hf c_9
        refine lv_sipush (v := (-1002)) hx hb dX9_from_26 (by decide) ?_
        have hf : some ((-1002), fi, ar) = some (r0, fi0, ar0) := hf
        obtain ⟨q0, q1, q2⟩ := so3 hf
        subst q0
        subst q1
        subst q2
        exact retI B hr hk w dX9_from_29
def f_X9_helpedBy_14 (ar : Nat → Nat → Int32) (k5 : Int32 → Int32 → Int32 → Int32 → Option (Int32)) : Nat → (Int32) → (Int32) → (Int32) → (Int32) → (Int32) → Option (Int32)
  | 0, _, _, _, _, _ => none
  | n + 1, v1, v2, v3, v4, v5 => if (2 ≤ v5 : Prop) then (bindv (v4 + 1 : Int32) (fun x_2 => k5 v1 v2 v3 x_2)) else (bindv (f_X9_means (v1 - v1 / 16 * 16) v4 v5) (fun r_3 => bindv (f_X9_shareOf v4 v2) (fun r_5 => bindv (f_X9_shareOf v5 v2) (fun r_7 => bindv ((v3 + ((r_3 * r_5) * r_7)) : Int32) (fun x_9 => bindv (v5 + 1 : Int32) (fun x_10 => (f_X9_helpedBy_14 ar k5 n) v1 v2 x_9 v4 x_10))))))
def f_X9_helpedBy_5 (ar : Nat → Nat → Int32)  : Nat → (Int32) → (Int32) → (Int32) → (Int32) → Option (Int32)
  | 0, _, _, _, _ => none
  | n + 1, v1, v2, v3, v4 => if (2 ≤ v4 : Prop) then (some ((v3 * (100 - (ar 1 (Int32.toNatClampNeg 2)))) / 100)) else (f_X9_helpedBy_14 ar (f_X9_helpedBy_5 ar n) 5000 v1 v2 v3 v4 0)
def f_X9_helpedBy (ar : Nat → Nat → Int32) (v1 : Int32) (v2 : Int32) : Option (Int32) := f_X9_helpedBy_5 ar 5000 v1 v2 0 0
set_option maxHeartbeats 4000000 in
set_option maxRecDepth 100000 in
theorem c_X9_helpedBy (l : Launch) (D : va_G) (ca : Nat → ClassId) (ak av ad : Nat → Nat) (fi : Nat → Int32) (fl : Nat → Int64) (ar : Nat → Nat → Int32) (v1 : Int32) (v2 : Int32) {r0 : Int32} (hf : f_X9_helpedBy ar v1 v2 = some r0) : MtI l yX9_helpedBy cX9_helpedBy 6 { frames := 1, cells := 0, slots := 0, locals := 22 } (EM D ca ak av) [.ref (ad 0), .int v1, .int v2] (wM ad ca fi fl ar) (wM ad ca fi fl ar) r0 := by
  refine MtI.of (own := RX9) (by decide +kernel) rfl (Nat.le_of_ble_eq_true rfl) ?_
  intro p e s m args below meth c A B hr hk w ls hl
  have hx := B.1.1
  have hb := B.1.2.1
  have hown := B.1.2.2.2.1
  have hts := B.1.2.2.2.2
  have hl : lv_has ls 6 [(0, .ref (ad 0)), (1, .int v1), (2, .int v2)] := hl
  have J14 : ∀ (k5 : Int32 → Int32 → Int32 → Int32 → Option (Int32)) (hk5 : ∀ (v1 : Int32) (v2 : Int32) (v3 : Int32) (v4 : Int32) (H : Heap) (locs : List Loc) (ls : Array Slot), Wd (EM D ca ak av) A s (wM ad ca fi fl ar) H locs → lv_has ls 6 [(0, .ref (ad 0)), (1, .int v1), (2, .int v2), (3, .int v3), (4, .int v4)] → k5 v1 v2 v3 v4 = some r0 → W p l e ({ frames := 1, cells := 0, slots := 0, locals := 22 } : Room) s m args below meth c H locs 0 0 (MQ below (Qi (EM D ca ak av) A (wM ad ca fi fl ar) r0) args s 0 0 A) (F0 m 5 ls [])) (n : Nat) (v1 : Int32) (v2 : Int32) (v3 : Int32) (v4 : Int32) (v5 : Int32) (H : Heap) (locs : List Loc) (ls : Array Slot), Wd (EM D ca ak av) A s (wM ad ca fi fl ar) H locs → lv_has ls 6 [(0, .ref (ad 0)), (1, .int v1), (2, .int v2), (3, .int v3), (4, .int v4), (5, .int v5)] → f_X9_helpedBy_14 ar k5 n v1 v2 v3 v4 v5 = some r0 → W p l e ({ frames := 1, cells := 0, slots := 0, locals := 22 } : Room) s m args below meth c H locs 0 0 (MQ below (Qi (EM D ca ak av) A (wM ad ca fi fl ar) r0) args s 0 0 A) (F0 m 14 ls []) := by
    intro k5 hk5 n
    induction n with
    | zero =>
      intro v1 v2 v3 v4 v5 H locs ls w hl hf
      cases hf
    | succ n ih =>
      intro v1 v2 v3 v4 v5 H locs ls w hl hf
      rw [f_X9_helpedBy_14] at hf
      refine lv_iload hx hb dX9_helpedBy_14 (lv_at hl 5 rfl) ?_
      refine lv_iconst (v := 2) hx hb dX9_helpedBy_16 (by decide) ?_
      refine lv_icmp_ge (x := v5) (y := 2) (tgt := 54) hx hb dX9_helpedBy_17 (by decide) (fun c_1 => ?_) (fun c_1 => ?_)
      · have hf := if_t hf c_1
        obtain ⟨x_2, ex_2⟩ : ∃ y : Int32, y = v4 + 1 := ⟨_, rfl⟩
        have hf := bindv_eq hf x_2 ex_2
        refine lv_iinc (v := x_2) (lv' := [(4, .int x_2), (0, .ref (ad 0)), (1, .int v1), (2, .int v2), (3, .int v3), (5, .int v5)]) hx hb dX9_helpedBy_54 hl (k := 4) rfl (by rw [ex_2]; rfl) (by decide) rfl (fun ls hl => ?_)
        refine lv_goto (tgt := 5) hx hb dX9_helpedBy_57 (by decide) ?_
        exact hk5 v1 v2 v3 x_2 H locs ls w (lv_sub hl [1, 2, 3, 4, 0] rfl) hf
      · have hf := if_f hf c_1
        refine lv_iload_n hx hb dX9_helpedBy_20 rfl (lv_at hl 3 rfl) ?_
        refine lv_iload_n hx hb dX9_helpedBy_21 rfl (lv_at hl 1 rfl) ?_
        refine lv_bipush (v := 16) hx hb dX9_helpedBy_22 (by decide) ?_
        refine lv_irem (x := v1) (y := 16) hx hb dX9_helpedBy_24 (by decide) ?_
        refine lv_iload hx hb dX9_helpedBy_25 (lv_at hl 4 rfl) ?_
        refine lv_iload hx hb dX9_helpedBy_27 (lv_at hl 5 rfl) ?_
        obtain ⟨r_3, er_4⟩ : ∃ y, f_X9_means (v1 - v1 / 16 * 16) v4 v5 = y := ⟨_, rfl⟩
        have hf := bindv_eq hf r_3 er_4.symm
        refine callSI (As := [.int (v1 - v1 / 16 * 16), .int v4, .int v5]) (rest := [.int v3]) B w (c_X9_means l _ (v1 - v1 / 16 * 16) v4 v5 er_4) (gS kt4_172 kt4_173 kt1_11 kt4_174) hdS_X9_means rfl rfl ⟨Nat.le_of_ble_eq_true rfl, Nat.le_of_ble_eq_true rfl⟩ rfl hl.1 rfl (Nat.le_of_ble_eq_true rfl) dX9_helpedBy_29 ⟨Nat.le_of_ble_eq_true rfl, Nat.le_of_ble_eq_true rfl⟩ (fun H locs w => ?_)
        refine lv_iload hx hb dX9_helpedBy_32 (lv_at hl 4 rfl) ?_
        refine lv_iload_n hx hb dX9_helpedBy_34 rfl (lv_at hl 2 rfl) ?_
        obtain ⟨r_5, er_6⟩ : ∃ y, f_X9_shareOf v4 v2 = y := ⟨_, rfl⟩
        have hf := bindv_eq hf r_5 er_6.symm
        refine callSI (As := [.int v4, .int v2]) (rest := [.int r_3, .int v3]) B w (c_X9_shareOf l _ v4 v2 er_6) (gS kt4_190 kt4_191 kt1_11 kt4_192) hdS_X9_shareOf rfl rfl ⟨Nat.le_of_ble_eq_true rfl, Nat.le_of_ble_eq_true rfl⟩ rfl hl.1 rfl (Nat.le_of_ble_eq_true rfl) dX9_helpedBy_35 ⟨Nat.le_of_ble_eq_true rfl, Nat.le_of_ble_eq_true rfl⟩ (fun H locs w => ?_)
        refine lv_imul (x := r_3) (y := r_5) hx hb dX9_helpedBy_38 ?_
        refine lv_iload hx hb dX9_helpedBy_39 (lv_at hl 5 rfl) ?_
        refine lv_iload_n hx hb dX9_helpedBy_41 rfl (lv_at hl 2 rfl) ?_
        obtain ⟨r_7, er_8⟩ : ∃ y, f_X9_shareOf v5 v2 = y := ⟨_, rfl⟩
        have hf := bindv_eq hf r_7 er_8.symm
        refine callSI (As := [.int v5, .int v2]) (rest := [.int (r_3 * r_5), .int v3]) B w (c_X9_shareOf l _ v5 v2 er_8) (gS kt4_190 kt4_191 kt1_11 kt4_192) hdS_X9_shareOf rfl rfl ⟨Nat.le_of_ble_eq_true rfl, Nat.le_of_ble_eq_true rfl⟩ rfl hl.1 rfl (Nat.le_of_ble_eq_true rfl) dX9_helpedBy_42 ⟨Nat.le_of_ble_eq_true rfl, Nat.le_of_ble_eq_true rfl⟩ (fun H locs w => ?_)
        refine lv_imul (x := (r_3 * r_5)) (y := r_7) hx hb dX9_helpedBy_45 ?_
        refine lv_iadd (x := v3) (y := ((r_3 * r_5) * r_7)) hx hb dX9_helpedBy_46 ?_
        refine lv_topi (fun x_9 ex_9 => ?_)
        have hf := bindv_eq hf x_9 ex_9
        refine lv_istore_n (lv' := [(3, .int x_9), (0, .ref (ad 0)), (1, .int v1), (2, .int v2), (4, .int v4), (5, .int v5)]) hx hb dX9_helpedBy_47 rfl hl (by decide) rfl (fun ls hl => ?_)
        obtain ⟨x_10, ex_10⟩ : ∃ y : Int32, y = v5 + 1 := ⟨_, rfl⟩
        have hf := bindv_eq hf x_10 ex_10
        refine lv_iinc (v := x_10) (lv' := [(5, .int x_10), (3, .int x_9), (0, .ref (ad 0)), (1, .int v1), (2, .int v2), (4, .int v4)]) hx hb dX9_helpedBy_48 hl (k := 5) rfl (by rw [ex_10]; rfl) (by decide) rfl (fun ls hl => ?_)
        refine lv_goto (tgt := 14) hx hb dX9_helpedBy_51 (by decide) ?_
        exact ih v1 v2 x_9 v4 x_10 H locs ls w (lv_sub hl [2, 3, 4, 1, 5, 0] rfl) hf
  have J5 : ∀ (n : Nat) (v1 : Int32) (v2 : Int32) (v3 : Int32) (v4 : Int32) (H : Heap) (locs : List Loc) (ls : Array Slot), Wd (EM D ca ak av) A s (wM ad ca fi fl ar) H locs → lv_has ls 6 [(0, .ref (ad 0)), (1, .int v1), (2, .int v2), (3, .int v3), (4, .int v4)] → f_X9_helpedBy_5 ar n v1 v2 v3 v4 = some r0 → W p l e ({ frames := 1, cells := 0, slots := 0, locals := 22 } : Room) s m args below meth c H locs 0 0 (MQ below (Qi (EM D ca ak av) A (wM ad ca fi fl ar) r0) args s 0 0 A) (F0 m 5 ls []) := by
    intro  n
    induction n with
    | zero =>
      intro v1 v2 v3 v4 H locs ls w hl hf
      cases hf
    | succ n ih =>
      intro v1 v2 v3 v4 H locs ls w hl hf
      rw [f_X9_helpedBy_5] at hf
      refine lv_iload hx hb dX9_helpedBy_5 (lv_at hl 4 rfl) ?_
      refine lv_iconst (v := 2) hx hb dX9_helpedBy_7 (by decide) ?_
      refine lv_icmp_ge (x := v4) (y := 2) (tgt := 60) hx hb dX9_helpedBy_8 (by decide) (fun c_11 => ?_) (fun c_11 => ?_)
      · have hf := if_t hf c_11
        refine lv_iload_n hx hb dX9_helpedBy_60 rfl (lv_at hl 3 rfl) ?_
        refine lv_bipush (v := 100) hx hb dX9_helpedBy_61 (by decide) ?_
        refine lv_aload_n hx hb dX9_helpedBy_63 rfl (lv_at hl 0 rfl) ?_
        refine gfM_0_0 B w kt4_25 dX9_helpedBy_64 ?_
        refine lv_iconst (v := 2) hx hb dX9_helpedBy_67 (by decide) ?_
        refine alM_1 B w (vp_in_iff.mpr (by decide)) dX9_helpedBy_68 ?_
        refine lv_isub (x := 100) (y := (ar 1 (Int32.toNatClampNeg 2))) hx hb dX9_helpedBy_69 ?_
        refine lv_imul (x := v3) (y := (100 - (ar 1 (Int32.toNatClampNeg 2)))) hx hb dX9_helpedBy_70 ?_
        refine lv_bipush (v := 100) hx hb dX9_helpedBy_71 (by decide) ?_
        refine lv_idiv (x := (v3 * (100 - (ar 1 (Int32.toNatClampNeg 2))))) (y := 100) hx hb dX9_helpedBy_73 (by decide) ?_
        have hf : some ((v3 * (100 - (ar 1 (Int32.toNatClampNeg 2)))) / 100) = some r0 := hf
        have q0 := so1 hf
        subst q0
        exact retI B hr hk w dX9_helpedBy_74
      · have hf := if_f hf c_11
        refine lv_iconst (v := 0) hx hb dX9_helpedBy_11 (by decide) ?_
        refine lv_istore (lv' := [(5, .int 0), (0, .ref (ad 0)), (1, .int v1), (2, .int v2), (3, .int v3), (4, .int v4)]) hx hb dX9_helpedBy_12 hl (by decide) rfl (fun ls hl => ?_)
        exact J14 _ ih 5000 v1 v2 v3 v4 0 H locs ls w (lv_sub hl [1, 2, 3, 4, 5, 0] rfl) hf
  unfold f_X9_helpedBy at hf
  refine (show ∀ (H : Heap) (locs : List Loc), Wd (EM D ca ak av) A s (wM ad ca fi fl ar) H locs → W p l e ({ frames := 1, cells := 0, slots := 0, locals := 22 } : Room) s m args below meth c H locs 0 0 (MQ below (Qi (EM D ca ak av) A (wM ad ca fi fl ar) r0) args s 0 0 A) (F0 m 0 ls []) from ?_) s.heap [] w
  intro H locs w
  refine lv_iconst (v := 0) hx hb dX9_helpedBy_0 (by decide) ?_
  refine lv_istore_n (lv' := [(3, .int 0), (0, .ref (ad 0)), (1, .int v1), (2, .int v2)]) hx hb dX9_helpedBy_1 rfl hl (by decide) rfl (fun ls hl => ?_)
  refine lv_iconst (v := 0) hx hb dX9_helpedBy_2 (by decide) ?_
  refine lv_istore (lv' := [(4, .int 0), (3, .int 0), (0, .ref (ad 0)), (1, .int v1), (2, .int v2)]) hx hb dX9_helpedBy_3 hl (by decide) rfl (fun ls hl => ?_)
  exact J5  5000 v1 v2 0 0 H locs ls w (lv_sub hl [2, 3, 4, 1, 0] rfl) hf
def f_X9_helped (ar : Nat → Nat → Int32) (v1 : Int32) (v2 : Int32) : Option (Int32) := bindv (f_X9_isRule v1) (fun r_1 => if (r_1 = 0 : Prop) then (some (-1002)) else (bindv (f_X9_isShare v2) (fun r_4 => if (r_4 = 0 : Prop) then (some (-1002)) else (bind1 (f_X9_helpedBy ar v1 v2) (fun r_7 => some r_7)))))
set_option maxHeartbeats 4000000 in
set_option maxRecDepth 100000 in
theorem c_X9_helped (l : Launch) (D : va_G) (ca : Nat → ClassId) (ak av ad : Nat → Nat) (fi : Nat → Int32) (fl : Nat → Int64) (ar : Nat → Nat → Int32) (v1 : Int32) (v2 : Int32) {r0 : Int32} (hf : f_X9_helped ar v1 v2 = some r0) : MtI l yX9_helped cX9_helped 3 { frames := 2, cells := 0, slots := 0, locals := 47 } (EM D ca ak av) [.ref (ad 0), .int v1, .int v2] (wM ad ca fi fl ar) (wM ad ca fi fl ar) r0 := by
  refine MtI.of (own := RX9) (by decide +kernel) rfl (Nat.le_of_ble_eq_true rfl) ?_
  intro p e s m args below meth c A B hr hk w ls hl
  have hx := B.1.1
  have hb := B.1.2.1
  have hown := B.1.2.2.2.1
  have hts := B.1.2.2.2.2
  have hl : lv_has ls 3 [(0, .ref (ad 0)), (1, .int v1), (2, .int v2)] := hl
  unfold f_X9_helped at hf
  refine (show ∀ (H : Heap) (locs : List Loc), Wd (EM D ca ak av) A s (wM ad ca fi fl ar) H locs → W p l e ({ frames := 2, cells := 0, slots := 0, locals := 47 } : Room) s m args below meth c H locs 0 0 (MQ below (Qi (EM D ca ak av) A (wM ad ca fi fl ar) r0) args s 0 0 A) (F0 m 0 ls []) from ?_) s.heap [] w
  intro H locs w
  refine lv_iload_n hx hb dX9_helped_0 rfl (lv_at hl 1 rfl) ?_
  obtain ⟨r_1, er_2⟩ : ∃ y, f_X9_isRule v1 = y := ⟨_, rfl⟩
  have hf := bindv_eq hf r_1 er_2.symm
  refine callSZ (As := [.int v1]) (rest := []) B w (c_X9_isRule l _ v1 er_2) (gS kt4_164 kt4_165 kt1_11 kt4_166) hdS_X9_isRule rfl rfl ⟨Nat.le_of_ble_eq_true rfl, Nat.le_of_ble_eq_true rfl⟩ rfl hl.1 rfl (Nat.le_of_ble_eq_true rfl) dX9_helped_1 ⟨Nat.le_of_ble_eq_true rfl, Nat.le_of_ble_eq_true rfl⟩ (fun H locs w hzr_1 => ?_)
  refine lv_if_eq (x := r_1) (tgt := 23) hx hb dX9_helped_4 (by decide) (fun c_3 => ?_) (fun c_3 => ?_)
  · have hf := if_t hf c_3
    refine lv_sipush (v := (-1002)) hx hb dX9_helped_23 (by decide) ?_
    have hf : some (-1002) = some r0 := hf
    have q0 := so1 hf
    subst q0
    exact retI B hr hk w dX9_helped_26
  · have hf := if_f hf c_3
    refine lv_iload_n hx hb dX9_helped_7 rfl (lv_at hl 2 rfl) ?_
    obtain ⟨r_4, er_5⟩ : ∃ y, f_X9_isShare v2 = y := ⟨_, rfl⟩
    have hf := bindv_eq hf r_4 er_5.symm
    refine callSZ (As := [.int v2]) (rest := []) B w (c_X9_isShare l _ v2 er_5) (gS kt4_182 kt4_183 kt1_11 kt4_184) hdS_X9_isShare rfl rfl ⟨Nat.le_of_ble_eq_true rfl, Nat.le_of_ble_eq_true rfl⟩ rfl hl.1 rfl (Nat.le_of_ble_eq_true rfl) dX9_helped_8 ⟨Nat.le_of_ble_eq_true rfl, Nat.le_of_ble_eq_true rfl⟩ (fun H locs w hzr_4 => ?_)
    refine lv_if_eq (x := r_4) (tgt := 23) hx hb dX9_helped_11 (by decide) (fun c_6 => ?_) (fun c_6 => ?_)
    · have hf := if_t hf c_6
      refine lv_sipush (v := (-1002)) hx hb dX9_helped_23 (by decide) ?_
      have hf : some (-1002) = some r0 := hf
      have q0 := so1 hf
      subst q0
      exact retI B hr hk w dX9_helped_26
    · have hf := if_f hf c_6
      refine lv_aload_n hx hb dX9_helped_14 rfl (lv_at hl 0 rfl) ?_
      refine lv_iload_n hx hb dX9_helped_15 rfl (lv_at hl 1 rfl) ?_
      refine lv_iload_n hx hb dX9_helped_16 rfl (lv_at hl 2 rfl) ?_
      obtain ⟨r_7, er_8, hf⟩ := bind1_eq hf
      refine callVI (As := [.int v1, .int v2]) (rest := []) B w (c_X9_helpedBy l D ca ak av ad fi fl ar v1 v2 er_8) (gV kt4_211 kt4_213 kp2_6 kt1_11 kt4_214) hdV_X9_helpedBy 0 rfl rfl rfl rfl ⟨Nat.le_of_ble_eq_true rfl, Nat.le_of_ble_eq_true rfl⟩ rfl hl.1 rfl (Nat.le_of_ble_eq_true rfl) dX9_helped_17 ⟨Nat.le_of_ble_eq_true rfl, Nat.le_of_ble_eq_true rfl⟩ (fun H locs w => ?_)
      refine lv_goto (tgt := 26) hx hb dX9_helped_20 (by decide) ?_
      have hf : some r_7 = some r0 := hf
      have q0 := so1 hf
      subst q0
      exact retI B hr hk w dX9_helped_26
def f_X9_fit_47 (ar : Nat → Nat → Int32) (k16 : Int32 → Int32 → Int32 → Int32 → Option (Int32)) (v1 : Int32) (v2 : Int32) (v3 : Int32) (v4 : Int32) : Option (Int32) := bindv (v4 + 1 : Int32) (fun x_1 => k16 v1 v2 v3 x_1)
def f_X9_fit_16 (ar : Nat → Nat → Int32)  : Nat → (Int32) → (Int32) → (Int32) → (Int32) → Option (Int32)
  | 0, _, _, _, _ => none
  | n + 1, v1, v2, v3, v4 => if (1000 < v4 : Prop) then (if (v2 = (-1) : Prop) then (some v3) else (some (-1))) else (bind1 (f_X9_stepOf ar v1 v4) (fun r_4 => if (r_4 = v4 : Prop) then (if (v3 = v2 : Prop) then (some v4) else (bindv (v3 + 1 : Int32) (fun x_8 => f_X9_fit_47 ar (f_X9_fit_16 ar n) v1 v2 x_8 v4))) else (f_X9_fit_47 ar (f_X9_fit_16 ar n) v1 v2 v3 v4)))
def f_X9_fit (ar : Nat → Nat → Int32) (v1 : Int32) (v2 : Int32) : Option (Int32) := bindv (f_X9_isRule v1) (fun r_9 => if (r_9 = 0 : Prop) then (some (-1002)) else (f_X9_fit_16 ar 5000 v1 v2 0 0))
set_option maxHeartbeats 4000000 in
set_option maxRecDepth 100000 in
theorem c_X9_fit (l : Launch) (D : va_G) (ca : Nat → ClassId) (ak av ad : Nat → Nat) (fi : Nat → Int32) (fl : Nat → Int64) (ar : Nat → Nat → Int32) (v1 : Int32) (v2 : Int32) {r0 : Int32} (hf : f_X9_fit ar v1 v2 = some r0) : MtI l yX9_fit cX9_fit 5 { frames := 3, cells := 0, slots := 0, locals := 77 } (EM D ca ak av) [.ref (ad 0), .int v1, .int v2] (wM ad ca fi fl ar) (wM ad ca fi fl ar) r0 := by
  refine MtI.of (own := RX9) (by decide +kernel) rfl (Nat.le_of_ble_eq_true rfl) ?_
  intro p e s m args below meth c A B hr hk w ls hl
  have hx := B.1.1
  have hb := B.1.2.1
  have hown := B.1.2.2.2.1
  have hts := B.1.2.2.2.2
  have hl : lv_has ls 5 [(0, .ref (ad 0)), (1, .int v1), (2, .int v2)] := hl
  have J47 : ∀ (k16 : Int32 → Int32 → Int32 → Int32 → Option (Int32)) (hk16 : ∀ (v1 : Int32) (v2 : Int32) (v3 : Int32) (v4 : Int32) (H : Heap) (locs : List Loc) (ls : Array Slot), Wd (EM D ca ak av) A s (wM ad ca fi fl ar) H locs → lv_has ls 5 [(0, .ref (ad 0)), (1, .int v1), (2, .int v2), (3, .int v3), (4, .int v4)] → k16 v1 v2 v3 v4 = some r0 → W p l e ({ frames := 3, cells := 0, slots := 0, locals := 77 } : Room) s m args below meth c H locs 0 0 (MQ below (Qi (EM D ca ak av) A (wM ad ca fi fl ar) r0) args s 0 0 A) (F0 m 16 ls [])) (v1 : Int32) (v2 : Int32) (v3 : Int32) (v4 : Int32) (H : Heap) (locs : List Loc) (ls : Array Slot), Wd (EM D ca ak av) A s (wM ad ca fi fl ar) H locs → lv_has ls 5 [(0, .ref (ad 0)), (1, .int v1), (2, .int v2), (3, .int v3), (4, .int v4)] → f_X9_fit_47 ar k16 v1 v2 v3 v4 = some r0 → W p l e ({ frames := 3, cells := 0, slots := 0, locals := 77 } : Room) s m args below meth c H locs 0 0 (MQ below (Qi (EM D ca ak av) A (wM ad ca fi fl ar) r0) args s 0 0 A) (F0 m 47 ls []) := by
    intro k16 hk16 v1 v2 v3 v4 H locs ls w hl hf
    unfold f_X9_fit_47 at hf
    obtain ⟨x_1, ex_1⟩ : ∃ y : Int32, y = v4 + 1 := ⟨_, rfl⟩
    have hf := bindv_eq hf x_1 ex_1
    refine lv_iinc (v := x_1) (lv' := [(4, .int x_1), (0, .ref (ad 0)), (1, .int v1), (2, .int v2), (3, .int v3)]) hx hb dX9_fit_47 hl (k := 4) rfl (by rw [ex_1]; rfl) (by decide) rfl (fun ls hl => ?_)
    refine lv_goto (tgt := 16) hx hb dX9_fit_50 (by decide) ?_
    exact hk16 v1 v2 v3 x_1 H locs ls w (lv_sub hl [1, 2, 3, 4, 0] rfl) hf
  have J16 : ∀ (n : Nat) (v1 : Int32) (v2 : Int32) (v3 : Int32) (v4 : Int32) (H : Heap) (locs : List Loc) (ls : Array Slot), Wd (EM D ca ak av) A s (wM ad ca fi fl ar) H locs → lv_has ls 5 [(0, .ref (ad 0)), (1, .int v1), (2, .int v2), (3, .int v3), (4, .int v4)] → f_X9_fit_16 ar n v1 v2 v3 v4 = some r0 → W p l e ({ frames := 3, cells := 0, slots := 0, locals := 77 } : Room) s m args below meth c H locs 0 0 (MQ below (Qi (EM D ca ak av) A (wM ad ca fi fl ar) r0) args s 0 0 A) (F0 m 16 ls []) := by
    intro  n
    induction n with
    | zero =>
      intro v1 v2 v3 v4 H locs ls w hl hf
      cases hf
    | succ n ih =>
      intro v1 v2 v3 v4 H locs ls w hl hf
      rw [f_X9_fit_16] at hf
      refine lv_iload hx hb dX9_fit_16 (lv_at hl 4 rfl) ?_
      refine lv_sipush (v := 1000) hx hb dX9_fit_18 (by decide) ?_
      refine lv_icmp_gt (x := v4) (y := 1000) (tgt := 53) hx hb dX9_fit_21 (by decide) (fun c_2 => ?_) (fun c_2 => ?_)
      · have hf := if_t hf c_2
        refine lv_iload_n hx hb dX9_fit_53 rfl (lv_at hl 2 rfl) ?_
        refine lv_iconst (v := (-1)) hx hb dX9_fit_54 (by decide) ?_
        refine lv_icmp_ne (x := v2) (y := (-1)) (tgt := 62) hx hb dX9_fit_55 (by decide) (fun c_3 => ?_) (fun c_3 => ?_)
        · have hf := if_f hf c_3
          refine lv_iconst (v := (-1)) hx hb dX9_fit_62 (by decide) ?_
          have hf : some (-1) = some r0 := hf
          have q0 := so1 hf
          subst q0
          exact retI B hr hk w dX9_fit_63
        · have hf := if_t hf c_3
          refine lv_iload_n hx hb dX9_fit_58 rfl (lv_at hl 3 rfl) ?_
          refine lv_goto (tgt := 63) hx hb dX9_fit_59 (by decide) ?_
          have hf : some v3 = some r0 := hf
          have q0 := so1 hf
          subst q0
          exact retI B hr hk w dX9_fit_63
      · have hf := if_f hf c_2
        refine lv_aload_n hx hb dX9_fit_24 rfl (lv_at hl 0 rfl) ?_
        refine lv_iload_n hx hb dX9_fit_25 rfl (lv_at hl 1 rfl) ?_
        refine lv_iload hx hb dX9_fit_26 (lv_at hl 4 rfl) ?_
        obtain ⟨r_4, er_5, hf⟩ := bind1_eq hf
        refine callVI (As := [.int v1, .int v4]) (rest := []) B w (c_X9_stepOf l D ca ak av ad fi fl ar v1 v4 er_5) (gV kt4_186 kt4_188 kp2_3 kt1_11 kt4_189) hdV_X9_stepOf 0 rfl rfl rfl rfl ⟨Nat.le_of_ble_eq_true rfl, Nat.le_of_ble_eq_true rfl⟩ rfl hl.1 rfl (Nat.le_of_ble_eq_true rfl) dX9_fit_28 ⟨Nat.le_of_ble_eq_true rfl, Nat.le_of_ble_eq_true rfl⟩ (fun H locs w => ?_)
        refine lv_iload hx hb dX9_fit_31 (lv_at hl 4 rfl) ?_
        refine lv_icmp_ne (x := r_4) (y := v4) (tgt := 47) hx hb dX9_fit_33 (by decide) (fun c_6 => ?_) (fun c_6 => ?_)
        · have hf := if_f hf c_6
          exact J47 _ ih v1 v2 v3 v4 H locs ls w (lv_sub hl [0, 1, 2, 3, 4] rfl) hf
        · have hf := if_t hf c_6
          refine lv_iload_n hx hb dX9_fit_36 rfl (lv_at hl 3 rfl) ?_
          refine lv_iload_n hx hb dX9_fit_37 rfl (lv_at hl 2 rfl) ?_
          refine lv_icmp_ne (x := v3) (y := v2) (tgt := 44) hx hb dX9_fit_38 (by decide) (fun c_7 => ?_) (fun c_7 => ?_)
          · have hf := if_f hf c_7
            obtain ⟨x_8, ex_8⟩ : ∃ y : Int32, y = v3 + 1 := ⟨_, rfl⟩
            have hf := bindv_eq hf x_8 ex_8
            refine lv_iinc (v := x_8) (lv' := [(3, .int x_8), (0, .ref (ad 0)), (1, .int v1), (2, .int v2), (4, .int v4)]) hx hb dX9_fit_44 hl (k := 3) rfl (by rw [ex_8]; rfl) (by decide) rfl (fun ls hl => ?_)
            exact J47 _ ih v1 v2 x_8 v4 H locs ls w (lv_sub hl [1, 2, 3, 0, 4] rfl) hf
          · have hf := if_t hf c_7
            refine lv_iload hx hb dX9_fit_41 (lv_at hl 4 rfl) ?_
            have hf : some v4 = some r0 := hf
            have q0 := so1 hf
            subst q0
            exact retI B hr hk w dX9_fit_43
  unfold f_X9_fit at hf
  refine (show ∀ (H : Heap) (locs : List Loc), Wd (EM D ca ak av) A s (wM ad ca fi fl ar) H locs → W p l e ({ frames := 3, cells := 0, slots := 0, locals := 77 } : Room) s m args below meth c H locs 0 0 (MQ below (Qi (EM D ca ak av) A (wM ad ca fi fl ar) r0) args s 0 0 A) (F0 m 0 ls []) from ?_) s.heap [] w
  intro H locs w
  refine lv_iload_n hx hb dX9_fit_0 rfl (lv_at hl 1 rfl) ?_
  obtain ⟨r_9, er_10⟩ : ∃ y, f_X9_isRule v1 = y := ⟨_, rfl⟩
  have hf := bindv_eq hf r_9 er_10.symm
  refine callSZ (As := [.int v1]) (rest := []) B w (c_X9_isRule l _ v1 er_10) (gS kt4_164 kt4_165 kt1_11 kt4_166) hdS_X9_isRule rfl rfl ⟨Nat.le_of_ble_eq_true rfl, Nat.le_of_ble_eq_true rfl⟩ rfl hl.1 rfl (Nat.le_of_ble_eq_true rfl) dX9_fit_1 ⟨Nat.le_of_ble_eq_true rfl, Nat.le_of_ble_eq_true rfl⟩ (fun H locs w hzr_9 => ?_)
  refine lv_if_ne (x := r_9) (tgt := 11) hx hb dX9_fit_4 (by decide) (fun c_11 => ?_) (fun c_11 => ?_)
  · have hf := if_f hf c_11
    refine lv_iconst (v := 0) hx hb dX9_fit_11 (by decide) ?_
    refine lv_istore_n (lv' := [(3, .int 0), (0, .ref (ad 0)), (1, .int v1), (2, .int v2)]) hx hb dX9_fit_12 rfl hl (by decide) rfl (fun ls hl => ?_)
    refine lv_iconst (v := 0) hx hb dX9_fit_13 (by decide) ?_
    refine lv_istore (lv' := [(4, .int 0), (3, .int 0), (0, .ref (ad 0)), (1, .int v1), (2, .int v2)]) hx hb dX9_fit_14 hl (by decide) rfl (fun ls hl => ?_)
    exact J16  5000 v1 v2 0 0 H locs ls w (lv_sub hl [2, 3, 4, 1, 0] rfl) hf
  · have hf := if_t hf c_11
    refine lv_sipush (v := (-1002)) hx hb dX9_fit_7 (by decide) ?_
    have hf : some (-1002) = some r0 := hf
    have q0 := so1 hf
    subst q0
    exact retI B hr hk w dX9_fit_10
def f_X9_gcd_18   : Nat → (Int64) → (Int64) → Option (Int64)
  | 0, _, _ => none
  | n + 1, v4, v6 => if ((lg_cmp v6 0) = 0 : Prop) then (some v4) else (dvL v6 (bindv ((v4 - v4 / v6 * v6) : Int64) (fun x_3 => (f_X9_gcd_18 n) v6 x_3)))
def f_X9_gcd_13   (v2 : Int64) (t0 : Int64) : Option (Int64) := f_X9_gcd_18  5000 t0 v2
def f_X9_gcd (v0 : Int64) (v2 : Int64) : Option (Int64) := if (0 ≤ (lg_cmp v0 0) : Prop) then (f_X9_gcd_13  v2 v0) else (f_X9_gcd_13  v2 (0 - v0))
set_option maxHeartbeats 4000000 in
set_option maxRecDepth 100000 in
theorem c_X9_gcd (l : Launch) (E : VE) (v0 : Int64) (v2 : Int64) {r0 : Int64} (hf : f_X9_gcd v0 v2 = some r0) : MtL l yX9_gcd cX9_gcd 10 { frames := 0, cells := 0, slots := 0, locals := 0 } E [.long v0, .long v2] [] [] r0 := by
  refine MtL.of (own := RX9) (by decide +kernel) rfl (Nat.le_of_ble_eq_true rfl) ?_
  intro p e s m args below meth c A B hr hk w ls hl
  have hx := B.1.1
  have hb := B.1.2.1
  have hown := B.1.2.2.2.1
  have hts := B.1.2.2.2.2
  have hl : lv_has ls 10 [(0, .long v0), (2, .long v2)] := hl
  have J18 : ∀ (n : Nat) (v4 : Int64) (v6 : Int64) (H : Heap) (locs : List Loc) (ls : Array Slot), Wd E A s [] H locs → lv_has ls 10 [(4, .long v4), (6, .long v6)] → f_X9_gcd_18  n v4 v6 = some r0 → W p l e ({ frames := 0, cells := 0, slots := 0, locals := 0 } : Room) s m args below meth c H locs 0 0 (MQ below (Ql E A [] r0) args s 0 0 A) (F0 m 18 ls []) := by
    intro  n
    induction n with
    | zero =>
      intro v4 v6 H locs ls w hl hf
      cases hf
    | succ n ih =>
      intro v4 v6 H locs ls w hl hf
      rw [f_X9_gcd_18] at hf
      refine lv_lload hx hb dX9_gcd_18 (lv_at hl 1 rfl) ?_
      refine lv_lconst (v := 0) hx hb dX9_gcd_20 (by decide) ?_
      refine W.lcmp hx hb dX9_gcd_21 ?_
      refine lv_if_eq (x := (lg_cmp v6 0)) (tgt := 43) hx hb dX9_gcd_22 (by decide) (fun c_1 => ?_) (fun c_1 => ?_)
      · have hf := if_t hf c_1
        refine lv_lload hx hb dX9_gcd_43 (lv_at hl 0 rfl) ?_
        have hf : some v4 = some r0 := hf
        have q0 := so1 hf
        subst q0
        exact retL B hr hk w dX9_gcd_45
      · have hf := if_f hf c_1
        refine lv_lload hx hb dX9_gcd_25 (lv_at hl 0 rfl) ?_
        refine lv_lload hx hb dX9_gcd_27 (lv_at hl 1 rfl) ?_
        obtain ⟨hd_2, hf⟩ := dvL_eq hf
        refine lv_lrem (x := v4) (y := v6) hx hb dX9_gcd_29 hd_2 ?_
        refine lv_topl (fun x_3 ex_3 => ?_)
        have hf := bindv_eq hf x_3 ex_3
        refine lv_lstore (lv' := [(8, .long x_3), (4, .long v4), (6, .long v6)]) hx hb dX9_gcd_30 hl (by decide) rfl (fun ls hl => ?_)
        refine lv_lload hx hb dX9_gcd_32 (lv_at hl 2 rfl) ?_
        refine lv_lstore (lv' := [(4, .long v6), (8, .long x_3), (6, .long v6)]) hx hb dX9_gcd_34 hl (by decide) rfl (fun ls hl => ?_)
        refine lv_lload hx hb dX9_gcd_36 (lv_at hl 1 rfl) ?_
        refine lv_lstore (lv' := [(6, .long x_3), (4, .long v6), (8, .long x_3)]) hx hb dX9_gcd_38 hl (by decide) rfl (fun ls hl => ?_)
        refine lv_goto (tgt := 18) hx hb dX9_gcd_40 (by decide) ?_
        exact ih v6 x_3 H locs ls w (lv_sub hl [1, 0] rfl) hf
  have J13 : ∀ (v2 : Int64) (t0 : Int64) (H : Heap) (locs : List Loc) (ls : Array Slot), Wd E A s [] H locs → lv_has ls 10 [(2, .long v2)] → f_X9_gcd_13  v2 t0 = some r0 → W p l e ({ frames := 0, cells := 0, slots := 0, locals := 0 } : Room) s m args below meth c H locs 0 0 (MQ below (Ql E A [] r0) args s 0 0 A) (F0 m 13 ls [.long t0]) := by
    intro  v2 t0 H locs ls w hl hf
    unfold f_X9_gcd_13 at hf
    refine lv_lstore (lv' := [(4, .long t0), (2, .long v2)]) hx hb dX9_gcd_13 hl (by decide) rfl (fun ls hl => ?_)
    refine lv_lload_n hx hb dX9_gcd_15 rfl (lv_at hl 1 rfl) ?_
    refine lv_lstore (lv' := [(6, .long v2), (4, .long t0), (2, .long v2)]) hx hb dX9_gcd_16 hl (by decide) rfl (fun ls hl => ?_)
    exact J18  5000 t0 v2 H locs ls w (lv_sub hl [1, 0] rfl) hf
  unfold f_X9_gcd at hf
  refine (show ∀ (H : Heap) (locs : List Loc), Wd E A s [] H locs → W p l e ({ frames := 0, cells := 0, slots := 0, locals := 0 } : Room) s m args below meth c H locs 0 0 (MQ below (Ql E A [] r0) args s 0 0 A) (F0 m 0 ls []) from ?_) s.heap [] w
  intro H locs w
  refine lv_lload_n hx hb dX9_gcd_0 rfl (lv_at hl 0 rfl) ?_
  refine lv_lconst (v := 0) hx hb dX9_gcd_1 (by decide) ?_
  refine W.lcmp hx hb dX9_gcd_2 ?_
  refine lv_if_ge (x := (lg_cmp v0 0)) (tgt := 12) hx hb dX9_gcd_3 (by decide) (fun c_4 => ?_) (fun c_4 => ?_)
  · have hf := if_t hf c_4
    refine lv_lload_n hx hb dX9_gcd_12 rfl (lv_at hl 0 rfl) ?_
    exact J13  v2 v0 H locs ls w (lv_sub hl [1] rfl) hf
  · have hf := if_f hf c_4
    refine lv_lconst (v := 0) hx hb dX9_gcd_6 (by decide) ?_
    refine lv_lload_n hx hb dX9_gcd_7 rfl (lv_at hl 0 rfl) ?_
    refine lv_lsub (x := 0) (y := v0) hx hb dX9_gcd_8 ?_
    refine lv_goto (tgt := 13) hx hb dX9_gcd_9 (by decide) ?_
    exact J13  v2 (0 - v0) H locs ls w (lv_sub hl [1] rfl) hf
def f_X9_findOther_241 (ar : Nat → Nat → Int32) (k162 : Int32 → Int32 → Int32 → Int64 → Int64 → Int32 → Int32 → (Nat → Int64) → Option ((Nat → Int64))) (v1 : Int32) (v2 : Int32) (v3 : Int32) (v12 : Int64) (v14 : Int64) (v16 : Int32) (v17 : Int32) (t0 : Int64) (fl : Nat → Int64) : Option ((Nat → Int64)) := bindv (f_X9_means v2 v16 v17) (fun r_1 => bindv (f_X9_shareOf v17 v3) (fun r_3 => bindv ((v14 + ((Int32.toInt64 (r_1 * r_3)) * t0)) : Int64) (fun x_5 => bindv (v17 + 1 : Int32) (fun x_6 => k162 v1 v2 v3 v12 x_5 v16 x_6 fl))))
def f_X9_findOther_190 (ar : Nat → Nat → Int32) (k162 : Int32 → Int32 → Int32 → Int64 → Int64 → Int32 → Int32 → (Nat → Int64) → Option ((Nat → Int64))) (v1 : Int32) (v2 : Int32) (v3 : Int32) (v12 : Int64) (v14 : Int64) (v16 : Int32) (v17 : Int32) (t0 : Int64) (fl : Nat → Int64) : Option ((Nat → Int64)) := bindv (f_X9_means (v1 - v1 / 16 * 16) v16 v17) (fun r_7 => bindv (f_X9_shareOf v16 v3) (fun r_9 => bindv ((v12 + ((Int32.toInt64 (r_7 * r_9)) * t0)) : Int64) (fun x_11 => if (v16 = 1 : Prop) then (f_X9_findOther_241 ar k162 v1 v2 v3 x_11 v14 v16 v17 (fl 0) fl) else (f_X9_findOther_241 ar k162 v1 v2 v3 x_11 v14 v16 v17 ((fl 1) - (fl 0)) fl))))
def f_X9_findOther_162 (ar : Nat → Nat → Int32) (k153 : Int32 → Int32 → Int32 → Int64 → Int64 → Int32 → (Nat → Int64) → Option ((Nat → Int64))) : Nat → (Int32) → (Int32) → (Int32) → (Int64) → (Int64) → (Int32) → (Int32) → (Nat → Int64) → Option ((Nat → Int64))
  | 0, _, _, _, _, _, _, _, _ => none
  | n + 1, v1, v2, v3, v12, v14, v16, v17, fl => if (2 ≤ v17 : Prop) then (bindv (v16 + 1 : Int32) (fun x_14 => k153 v1 v2 v3 v12 v14 x_14 fl)) else (if (v17 = 1 : Prop) then (f_X9_findOther_190 ar (f_X9_findOther_162 ar k153 n) v1 v2 v3 v12 v14 v16 v17 (fl 0) fl) else (f_X9_findOther_190 ar (f_X9_findOther_162 ar k153 n) v1 v2 v3 v12 v14 v16 v17 ((fl 1) - (fl 0)) fl))
def f_X9_findOther_153 (ar : Nat → Nat → Int32)  : Nat → (Int32) → (Int32) → (Int32) → (Int64) → (Int64) → (Int32) → (Nat → Int64) → Option ((Nat → Int64))
  | 0, _, _, _, _, _, _, _ => none
  | n + 1, v1, v2, v3, v12, v14, v16, fl => if (2 ≤ v16 : Prop) then (bindv (((((Int32.toInt64 (ar 1 (Int32.toNatClampNeg 1))) * v12) - ((Int32.toInt64 (ar 1 (Int32.toNatClampNeg 0))) * v14)) * (Int32.toInt64 (100 - (ar 1 (Int32.toNatClampNeg 2))))) : Int64) (fun x_17 => bindv ((((fl 1) * 1000) * 100) : Int64) (fun x_18 => bind1 (f_X9_gcd x_17 x_18) (fun r_19 => dvL r_19 (bindv (vp_updL fl 2 (x_17 / r_19)) (fun fl_22 => dvL r_19 (bindv (vp_updL fl_22 3 (x_18 / r_19)) (fun fl_24 => some fl_24)))))))) else (f_X9_findOther_162 ar (f_X9_findOther_153 ar n) 5000 v1 v2 v3 v12 v14 v16 0 fl)
def f_X9_findOther_141 (ar : Nat → Nat → Int32)  (v1 : Int32) (v2 : Int32) (v3 : Int32) (t1 : Int64) (fl : Nat → Int64) : Option ((Nat → Int64)) := bindv (vp_updL fl 1 t1) (fun fl_25 => f_X9_findOther_153 ar 5000 v1 v2 v3 0 0 0 fl_25)
def f_X9_findOther_121 (ar : Nat → Nat → Int32)  (v1 : Int32) (v2 : Int32) (v3 : Int32) (v8 : Int64) (v10 : Int64) (t1 : Int64) (fl : Nat → Int64) : Option ((Nat → Int64)) := bindv (vp_updL fl 0 t1) (fun fl_26 => if ((lg_cmp v8 0) = 0 : Prop) then (f_X9_findOther_141 ar v1 v2 v3 1 fl_26) else (dvL v10 (f_X9_findOther_141 ar v1 v2 v3 (v8 / v10) fl_26)))
def f_X9_findOther_102 (ar : Nat → Nat → Int32)  (v1 : Int32) (v2 : Int32) (v3 : Int32) (v6 : Int64) (v8 : Int64) (t0 : Int64) (fl : Nat → Int64) : Option ((Nat → Int64)) := if ((lg_cmp v8 0) = 0 : Prop) then (f_X9_findOther_121 ar v1 v2 v3 v8 t0 0 fl) else (dvL t0 (f_X9_findOther_121 ar v1 v2 v3 v8 t0 (v6 / t0) fl))
def f_X9_findOther_9 (ar : Nat → Nat → Int32)  : Nat → (Int32) → (Int32) → (Int32) → (Int64) → (Int64) → (Int32) → (Nat → Int64) → Option ((Nat → Int64))
  | 0, _, _, _, _, _, _, _ => none
  | n + 1, v1, v2, v3, v4, v6, v8, fl => if (2 ≤ v8 : Prop) then (bindv (((10000000 - v4) + v6) : Int64) (fun x_32 => if ((lg_cmp x_32 0) = 0 : Prop) then (f_X9_findOther_102 ar v1 v2 v3 v6 x_32 1 fl) else (bind1 (f_X9_gcd v6 x_32) (fun r_34 => f_X9_findOther_102 ar v1 v2 v3 v6 x_32 r_34 fl)))) else (bindv (f_X9_shareOf v8 v3) (fun r_36 => bind1 (f_X9_calledGood ar v2 (v1 / 16) 1 v8) (fun r_38 => bindv ((v4 + ((Int32.toInt64 r_36) * (Int32.toInt64 r_38))) : Int64) (fun x_40 => bindv (f_X9_shareOf v8 v3) (fun r_41 => bind1 (f_X9_calledGood ar v2 (v1 / 16) 0 v8) (fun r_43 => bindv ((v6 + ((Int32.toInt64 r_41) * (Int32.toInt64 r_43))) : Int64) (fun x_45 => bindv (v8 + 1 : Int32) (fun x_46 => (f_X9_findOther_9 ar n) v1 v2 v3 x_40 x_45 x_46 fl))))))))
def f_X9_findOther (fl : Nat → Int64) (ar : Nat → Nat → Int32) (v1 : Int32) (v2 : Int32) (v3 : Int32) : Option ((Nat → Int64)) := f_X9_findOther_9 ar 5000 v1 v2 v3 0 0 0 fl
set_option maxHeartbeats 4000000 in
set_option maxRecDepth 100000 in
theorem c_X9_findOther (l : Launch) (D : va_G) (ca : Nat → ClassId) (ak av ad : Nat → Nat) (fi : Nat → Int32) (fl : Nat → Int64) (ar : Nat → Nat → Int32) (v1 : Int32) (v2 : Int32) (v3 : Int32) {fl0 : Nat → Int64} (hf : f_X9_findOther fl ar v1 v2 v3 = some fl0) : MtV l yX9_findOther cX9_findOther 22 { frames := 2, cells := 0, slots := 0, locals := 51 } (EM D ca ak av) [.ref (ad 0), .int v1, .int v2, .int v3] (wM ad ca fi fl ar) (wM ad ca fi fl0 ar) := by
  refine MtV.of (own := RX9) (by decide +kernel) rfl (Nat.le_of_ble_eq_true rfl) ?_
  intro p e s m args below meth c A B hr hk w ls hl
  have hx := B.1.1
  have hb := B.1.2.1
  have hown := B.1.2.2.2.1
  have hts := B.1.2.2.2.2
  have hl : lv_has ls 22 [(0, .ref (ad 0)), (1, .int v1), (2, .int v2), (3, .int v3)] := hl
  have J241 : ∀ (k162 : Int32 → Int32 → Int32 → Int64 → Int64 → Int32 → Int32 → (Nat → Int64) → Option ((Nat → Int64))) (hk162 : ∀ (v1 : Int32) (v2 : Int32) (v3 : Int32) (v12 : Int64) (v14 : Int64) (v16 : Int32) (v17 : Int32) (fl : Nat → Int64) (H : Heap) (locs : List Loc) (ls : Array Slot), Wd (EM D ca ak av) A s (wM ad ca fi fl ar) H locs → lv_has ls 22 [(0, .ref (ad 0)), (1, .int v1), (2, .int v2), (3, .int v3), (12, .long v12), (14, .long v14), (16, .int v16), (17, .int v17)] → k162 v1 v2 v3 v12 v14 v16 v17 fl = some fl0 → W p l e ({ frames := 2, cells := 0, slots := 0, locals := 51 } : Room) s m args below meth c H locs 0 0 (MQ below (Qv (EM D ca ak av) A (wM ad ca fi fl0 ar)) args s 0 0 A) (F0 m 162 ls [])) (v1 : Int32) (v2 : Int32) (v3 : Int32) (v12 : Int64) (v14 : Int64) (v16 : Int32) (v17 : Int32) (t0 : Int64) (fl : Nat → Int64) (H : Heap) (locs : List Loc) (ls : Array Slot), Wd (EM D ca ak av) A s (wM ad ca fi fl ar) H locs → lv_has ls 22 [(0, .ref (ad 0)), (1, .int v1), (2, .int v2), (3, .int v3), (12, .long v12), (14, .long v14), (16, .int v16), (17, .int v17)] → f_X9_findOther_241 ar k162 v1 v2 v3 v12 v14 v16 v17 t0 fl = some fl0 → W p l e ({ frames := 2, cells := 0, slots := 0, locals := 51 } : Room) s m args below meth c H locs 0 0 (MQ below (Qv (EM D ca ak av) A (wM ad ca fi fl0 ar)) args s 0 0 A) (F0 m 241 ls [.long t0]) := by
    intro k162 hk162 v1 v2 v3 v12 v14 v16 v17 t0 fl H locs ls w hl hf
    unfold f_X9_findOther_241 at hf
    refine lv_lstore (lv' := [(20, .long t0), (0, .ref (ad 0)), (1, .int v1), (2, .int v2), (3, .int v3), (12, .long v12), (14, .long v14), (16, .int v16), (17, .int v17)]) hx hb dX9_findOther_241 hl (by decide) rfl (fun ls hl => ?_)
    refine lv_lload hx hb dX9_findOther_243 (lv_at hl 6 rfl) ?_
    refine lv_iload_n hx hb dX9_findOther_245 rfl (lv_at hl 3 rfl) ?_
    refine lv_iload hx hb dX9_findOther_246 (lv_at hl 7 rfl) ?_
    refine lv_iload hx hb dX9_findOther_248 (lv_at hl 8 rfl) ?_
    obtain ⟨r_1, er_2⟩ : ∃ y, f_X9_means v2 v16 v17 = y := ⟨_, rfl⟩
    have hf := bindv_eq hf r_1 er_2.symm
    refine callSI (As := [.int v2, .int v16, .int v17]) (rest := [.long v14]) B w (c_X9_means l _ v2 v16 v17 er_2) (gS kt4_172 kt4_173 kt1_11 kt4_174) hdS_X9_means rfl rfl ⟨Nat.le_of_ble_eq_true rfl, Nat.le_of_ble_eq_true rfl⟩ rfl hl.1 rfl (Nat.le_of_ble_eq_true rfl) dX9_findOther_250 ⟨Nat.le_of_ble_eq_true rfl, Nat.le_of_ble_eq_true rfl⟩ (fun H locs w => ?_)
    refine lv_iload hx hb dX9_findOther_253 (lv_at hl 8 rfl) ?_
    refine lv_iload_n hx hb dX9_findOther_255 rfl (lv_at hl 4 rfl) ?_
    obtain ⟨r_3, er_4⟩ : ∃ y, f_X9_shareOf v17 v3 = y := ⟨_, rfl⟩
    have hf := bindv_eq hf r_3 er_4.symm
    refine callSI (As := [.int v17, .int v3]) (rest := [.int r_1, .long v14]) B w (c_X9_shareOf l _ v17 v3 er_4) (gS kt4_190 kt4_191 kt1_11 kt4_192) hdS_X9_shareOf rfl rfl ⟨Nat.le_of_ble_eq_true rfl, Nat.le_of_ble_eq_true rfl⟩ rfl hl.1 rfl (Nat.le_of_ble_eq_true rfl) dX9_findOther_256 ⟨Nat.le_of_ble_eq_true rfl, Nat.le_of_ble_eq_true rfl⟩ (fun H locs w => ?_)
    refine lv_imul (x := r_1) (y := r_3) hx hb dX9_findOther_259 ?_
    refine lv_i2l hx hb dX9_findOther_260 rfl ?_
    refine lv_lload hx hb dX9_findOther_261 (lv_at hl 0 rfl) ?_
    refine lv_lmul (x := (Int32.toInt64 (r_1 * r_3))) (y := t0) hx hb dX9_findOther_263 ?_
    refine lv_ladd (x := v14) (y := ((Int32.toInt64 (r_1 * r_3)) * t0)) hx hb dX9_findOther_264 ?_
    refine lv_topl (fun x_5 ex_5 => ?_)
    have hf := bindv_eq hf x_5 ex_5
    refine lv_lstore (lv' := [(14, .long x_5), (20, .long t0), (0, .ref (ad 0)), (1, .int v1), (2, .int v2), (3, .int v3), (12, .long v12), (16, .int v16), (17, .int v17)]) hx hb dX9_findOther_265 hl (by decide) rfl (fun ls hl => ?_)
    obtain ⟨x_6, ex_6⟩ : ∃ y : Int32, y = v17 + 1 := ⟨_, rfl⟩
    have hf := bindv_eq hf x_6 ex_6
    refine lv_iinc (v := x_6) (lv' := [(17, .int x_6), (14, .long x_5), (20, .long t0), (0, .ref (ad 0)), (1, .int v1), (2, .int v2), (3, .int v3), (12, .long v12), (16, .int v16)]) hx hb dX9_findOther_267 hl (k := 8) rfl (by rw [ex_6]; rfl) (by decide) rfl (fun ls hl => ?_)
    refine lv_goto (tgt := 162) hx hb dX9_findOther_270 (by decide) ?_
    exact hk162 v1 v2 v3 v12 x_5 v16 x_6 fl H locs ls w (lv_sub hl [3, 4, 5, 6, 7, 1, 8, 0] rfl) hf
  have J190 : ∀ (k162 : Int32 → Int32 → Int32 → Int64 → Int64 → Int32 → Int32 → (Nat → Int64) → Option ((Nat → Int64))) (hk162 : ∀ (v1 : Int32) (v2 : Int32) (v3 : Int32) (v12 : Int64) (v14 : Int64) (v16 : Int32) (v17 : Int32) (fl : Nat → Int64) (H : Heap) (locs : List Loc) (ls : Array Slot), Wd (EM D ca ak av) A s (wM ad ca fi fl ar) H locs → lv_has ls 22 [(0, .ref (ad 0)), (1, .int v1), (2, .int v2), (3, .int v3), (12, .long v12), (14, .long v14), (16, .int v16), (17, .int v17)] → k162 v1 v2 v3 v12 v14 v16 v17 fl = some fl0 → W p l e ({ frames := 2, cells := 0, slots := 0, locals := 51 } : Room) s m args below meth c H locs 0 0 (MQ below (Qv (EM D ca ak av) A (wM ad ca fi fl0 ar)) args s 0 0 A) (F0 m 162 ls [])) (v1 : Int32) (v2 : Int32) (v3 : Int32) (v12 : Int64) (v14 : Int64) (v16 : Int32) (v17 : Int32) (t0 : Int64) (fl : Nat → Int64) (H : Heap) (locs : List Loc) (ls : Array Slot), Wd (EM D ca ak av) A s (wM ad ca fi fl ar) H locs → lv_has ls 22 [(0, .ref (ad 0)), (1, .int v1), (2, .int v2), (3, .int v3), (12, .long v12), (14, .long v14), (16, .int v16), (17, .int v17)] → f_X9_findOther_190 ar k162 v1 v2 v3 v12 v14 v16 v17 t0 fl = some fl0 → W p l e ({ frames := 2, cells := 0, slots := 0, locals := 51 } : Room) s m args below meth c H locs 0 0 (MQ below (Qv (EM D ca ak av) A (wM ad ca fi fl0 ar)) args s 0 0 A) (F0 m 190 ls [.long t0]) := by
    intro k162 hk162 v1 v2 v3 v12 v14 v16 v17 t0 fl H locs ls w hl hf
    unfold f_X9_findOther_190 at hf
    refine lv_lstore (lv' := [(18, .long t0), (0, .ref (ad 0)), (1, .int v1), (2, .int v2), (3, .int v3), (12, .long v12), (14, .long v14), (16, .int v16), (17, .int v17)]) hx hb dX9_findOther_190 hl (by decide) rfl (fun ls hl => ?_)
    refine lv_lload hx hb dX9_findOther_192 (lv_at hl 5 rfl) ?_
    refine lv_iload_n hx hb dX9_findOther_194 rfl (lv_at hl 2 rfl) ?_
    refine lv_bipush (v := 16) hx hb dX9_findOther_195 (by decide) ?_
    refine lv_irem (x := v1) (y := 16) hx hb dX9_findOther_197 (by decide) ?_
    refine lv_iload hx hb dX9_findOther_198 (lv_at hl 7 rfl) ?_
    refine lv_iload hx hb dX9_findOther_200 (lv_at hl 8 rfl) ?_
    obtain ⟨r_7, er_8⟩ : ∃ y, f_X9_means (v1 - v1 / 16 * 16) v16 v17 = y := ⟨_, rfl⟩
    have hf := bindv_eq hf r_7 er_8.symm
    refine callSI (As := [.int (v1 - v1 / 16 * 16), .int v16, .int v17]) (rest := [.long v12]) B w (c_X9_means l _ (v1 - v1 / 16 * 16) v16 v17 er_8) (gS kt4_172 kt4_173 kt1_11 kt4_174) hdS_X9_means rfl rfl ⟨Nat.le_of_ble_eq_true rfl, Nat.le_of_ble_eq_true rfl⟩ rfl hl.1 rfl (Nat.le_of_ble_eq_true rfl) dX9_findOther_202 ⟨Nat.le_of_ble_eq_true rfl, Nat.le_of_ble_eq_true rfl⟩ (fun H locs w => ?_)
    refine lv_iload hx hb dX9_findOther_205 (lv_at hl 7 rfl) ?_
    refine lv_iload_n hx hb dX9_findOther_207 rfl (lv_at hl 4 rfl) ?_
    obtain ⟨r_9, er_10⟩ : ∃ y, f_X9_shareOf v16 v3 = y := ⟨_, rfl⟩
    have hf := bindv_eq hf r_9 er_10.symm
    refine callSI (As := [.int v16, .int v3]) (rest := [.int r_7, .long v12]) B w (c_X9_shareOf l _ v16 v3 er_10) (gS kt4_190 kt4_191 kt1_11 kt4_192) hdS_X9_shareOf rfl rfl ⟨Nat.le_of_ble_eq_true rfl, Nat.le_of_ble_eq_true rfl⟩ rfl hl.1 rfl (Nat.le_of_ble_eq_true rfl) dX9_findOther_208 ⟨Nat.le_of_ble_eq_true rfl, Nat.le_of_ble_eq_true rfl⟩ (fun H locs w => ?_)
    refine lv_imul (x := r_7) (y := r_9) hx hb dX9_findOther_211 ?_
    refine lv_i2l hx hb dX9_findOther_212 rfl ?_
    refine lv_lload hx hb dX9_findOther_213 (lv_at hl 0 rfl) ?_
    refine lv_lmul (x := (Int32.toInt64 (r_7 * r_9))) (y := t0) hx hb dX9_findOther_215 ?_
    refine lv_ladd (x := v12) (y := ((Int32.toInt64 (r_7 * r_9)) * t0)) hx hb dX9_findOther_216 ?_
    refine lv_topl (fun x_11 ex_11 => ?_)
    have hf := bindv_eq hf x_11 ex_11
    refine lv_lstore (lv' := [(12, .long x_11), (18, .long t0), (0, .ref (ad 0)), (1, .int v1), (2, .int v2), (3, .int v3), (14, .long v14), (16, .int v16), (17, .int v17)]) hx hb dX9_findOther_217 hl (by decide) rfl (fun ls hl => ?_)
    refine lv_iload hx hb dX9_findOther_219 (lv_at hl 7 rfl) ?_
    refine lv_iconst (v := 1) hx hb dX9_findOther_221 (by decide) ?_
    refine lv_icmp_ne (x := v16) (y := 1) (tgt := 232) hx hb dX9_findOther_222 (by decide) (fun c_12 => ?_) (fun c_12 => ?_)
    · have hf := if_f hf c_12
      refine lv_aload_n hx hb dX9_findOther_232 rfl (lv_at hl 2 rfl) ?_
      refine gfM_0_16 B w kt4_41 dX9_findOther_233 ?_
      refine lv_aload_n hx hb dX9_findOther_236 rfl (lv_at hl 2 rfl) ?_
      refine gfM_0_15 B w kt4_40 dX9_findOther_237 ?_
      refine lv_lsub (x := (fl 1)) (y := (fl 0)) hx hb dX9_findOther_240 ?_
      exact J241 _ hk162 v1 v2 v3 x_11 v14 v16 v17 ((fl 1) - (fl 0)) fl H locs ls w (lv_sub hl [2, 3, 4, 5, 0, 6, 7, 8] rfl) hf
    · have hf := if_t hf c_12
      refine lv_aload_n hx hb dX9_findOther_225 rfl (lv_at hl 2 rfl) ?_
      refine gfM_0_15 B w kt4_40 dX9_findOther_226 ?_
      refine lv_goto (tgt := 241) hx hb dX9_findOther_229 (by decide) ?_
      exact J241 _ hk162 v1 v2 v3 x_11 v14 v16 v17 (fl 0) fl H locs ls w (lv_sub hl [2, 3, 4, 5, 0, 6, 7, 8] rfl) hf
  have J162 : ∀ (k153 : Int32 → Int32 → Int32 → Int64 → Int64 → Int32 → (Nat → Int64) → Option ((Nat → Int64))) (hk153 : ∀ (v1 : Int32) (v2 : Int32) (v3 : Int32) (v12 : Int64) (v14 : Int64) (v16 : Int32) (fl : Nat → Int64) (H : Heap) (locs : List Loc) (ls : Array Slot), Wd (EM D ca ak av) A s (wM ad ca fi fl ar) H locs → lv_has ls 22 [(0, .ref (ad 0)), (1, .int v1), (2, .int v2), (3, .int v3), (12, .long v12), (14, .long v14), (16, .int v16)] → k153 v1 v2 v3 v12 v14 v16 fl = some fl0 → W p l e ({ frames := 2, cells := 0, slots := 0, locals := 51 } : Room) s m args below meth c H locs 0 0 (MQ below (Qv (EM D ca ak av) A (wM ad ca fi fl0 ar)) args s 0 0 A) (F0 m 153 ls [])) (n : Nat) (v1 : Int32) (v2 : Int32) (v3 : Int32) (v12 : Int64) (v14 : Int64) (v16 : Int32) (v17 : Int32) (fl : Nat → Int64) (H : Heap) (locs : List Loc) (ls : Array Slot), Wd (EM D ca ak av) A s (wM ad ca fi fl ar) H locs → lv_has ls 22 [(0, .ref (ad 0)), (1, .int v1), (2, .int v2), (3, .int v3), (12, .long v12), (14, .long v14), (16, .int v16), (17, .int v17)] → f_X9_findOther_162 ar k153 n v1 v2 v3 v12 v14 v16 v17 fl = some fl0 → W p l e ({ frames := 2, cells := 0, slots := 0, locals := 51 } : Room) s m args below meth c H locs 0 0 (MQ below (Qv (EM D ca ak av) A (wM ad ca fi fl0 ar)) args s 0 0 A) (F0 m 162 ls []) := by
    intro k153 hk153 n
    induction n with
    | zero =>
      intro v1 v2 v3 v12 v14 v16 v17 fl H locs ls w hl hf
      cases hf
    | succ n ih =>
      intro v1 v2 v3 v12 v14 v16 v17 fl H locs ls w hl hf
      rw [f_X9_findOther_162] at hf
      refine lv_iload hx hb dX9_findOther_162 (lv_at hl 7 rfl) ?_
      refine lv_iconst (v := 2) hx hb dX9_findOther_164 (by decide) ?_
      refine lv_icmp_ge (x := v17) (y := 2) (tgt := 273) hx hb dX9_findOther_165 (by decide) (fun c_13 => ?_) (fun c_13 => ?_)
      · have hf := if_t hf c_13
        obtain ⟨x_14, ex_14⟩ : ∃ y : Int32, y = v16 + 1 := ⟨_, rfl⟩
        have hf := bindv_eq hf x_14 ex_14
        refine lv_iinc (v := x_14) (lv' := [(16, .int x_14), (0, .ref (ad 0)), (1, .int v1), (2, .int v2), (3, .int v3), (12, .long v12), (14, .long v14), (17, .int v17)]) hx hb dX9_findOther_273 hl (k := 6) rfl (by rw [ex_14]; rfl) (by decide) rfl (fun ls hl => ?_)
        refine lv_goto (tgt := 153) hx hb dX9_findOther_276 (by decide) ?_
        exact hk153 v1 v2 v3 v12 v14 x_14 fl H locs ls w (lv_sub hl [1, 2, 3, 4, 5, 6, 0] rfl) hf
      · have hf := if_f hf c_13
        refine lv_iload hx hb dX9_findOther_168 (lv_at hl 7 rfl) ?_
        refine lv_iconst (v := 1) hx hb dX9_findOther_170 (by decide) ?_
        refine lv_icmp_ne (x := v17) (y := 1) (tgt := 181) hx hb dX9_findOther_171 (by decide) (fun c_15 => ?_) (fun c_15 => ?_)
        · have hf := if_f hf c_15
          refine lv_aload_n hx hb dX9_findOther_181 rfl (lv_at hl 0 rfl) ?_
          refine gfM_0_16 B w kt4_41 dX9_findOther_182 ?_
          refine lv_aload_n hx hb dX9_findOther_185 rfl (lv_at hl 0 rfl) ?_
          refine gfM_0_15 B w kt4_40 dX9_findOther_186 ?_
          refine lv_lsub (x := (fl 1)) (y := (fl 0)) hx hb dX9_findOther_189 ?_
          exact J190 _ ih v1 v2 v3 v12 v14 v16 v17 ((fl 1) - (fl 0)) fl H locs ls w (lv_sub hl [0, 1, 2, 3, 4, 5, 6, 7] rfl) hf
        · have hf := if_t hf c_15
          refine lv_aload_n hx hb dX9_findOther_174 rfl (lv_at hl 0 rfl) ?_
          refine gfM_0_15 B w kt4_40 dX9_findOther_175 ?_
          refine lv_goto (tgt := 190) hx hb dX9_findOther_178 (by decide) ?_
          exact J190 _ ih v1 v2 v3 v12 v14 v16 v17 (fl 0) fl H locs ls w (lv_sub hl [0, 1, 2, 3, 4, 5, 6, 7] rfl) hf
  have J153 : ∀ (n : Nat) (v1 : Int32) (v2 : Int32) (v3 : Int32) (v12 : Int64) (v14 : Int64) (v16 : Int32) (fl : Nat → Int64) (H : Heap) (locs : List Loc) (ls : Array Slot), Wd (EM D ca ak av) A s (wM ad ca fi fl ar) H locs → lv_has ls 22 [(0, .ref (ad 0)), (1, .int v1), (2, .int v2), (3, .int v3), (12, .long v12), (14, .long v14), (16, .int v16)] → f_X9_findOther_153 ar n v1 v2 v3 v12 v14 v16 fl = some fl0 → W p l e ({ frames := 2, cells := 0, slots := 0, locals := 51 } : Room) s m args below meth c H locs 0 0 (MQ below (Qv (EM D ca ak av) A (wM ad ca fi fl0 ar)) args s 0 0 A) (F0 m 153 ls []) := by
    intro  n
    induction n with
    | zero =>
      intro v1 v2 v3 v12 v14 v16 fl H locs ls w hl hf
      cases hf
    | succ n ih =>
      intro v1 v2 v3 v12 v14 v16 fl H locs ls w hl hf
      rw [f_X9_findOther_153] at hf
      refine lv_iload hx hb dX9_findOther_153 (lv_at hl 6 rfl) ?_
      refine lv_iconst (v := 2) hx hb dX9_findOther_155 (by decide) ?_
      refine lv_icmp_ge (x := v16) (y := 2) (tgt := 279) hx hb dX9_findOther_156 (by decide) (fun c_16 => ?_) (fun c_16 => ?_)
      · have hf := if_t hf c_16
        refine lv_aload_n hx hb dX9_findOther_279 rfl (lv_at hl 0 rfl) ?_
        refine gfM_0_0 B w kt4_25 dX9_findOther_280 ?_
        refine lv_iconst (v := 1) hx hb dX9_findOther_283 (by decide) ?_
        refine alM_1 B w (vp_in_iff.mpr (by decide)) dX9_findOther_284 ?_
        refine lv_i2l hx hb dX9_findOther_285 rfl ?_
        refine lv_lload hx hb dX9_findOther_286 (lv_at hl 4 rfl) ?_
        refine lv_lmul (x := (Int32.toInt64 (ar 1 (Int32.toNatClampNeg 1)))) (y := v12) hx hb dX9_findOther_288 ?_
        refine lv_aload_n hx hb dX9_findOther_289 rfl (lv_at hl 0 rfl) ?_
        refine gfM_0_0 B w kt4_25 dX9_findOther_290 ?_
        refine lv_iconst (v := 0) hx hb dX9_findOther_293 (by decide) ?_
        refine alM_1 B w (vp_in_iff.mpr (by decide)) dX9_findOther_294 ?_
        refine lv_i2l hx hb dX9_findOther_295 rfl ?_
        refine lv_lload hx hb dX9_findOther_296 (lv_at hl 5 rfl) ?_
        refine lv_lmul (x := (Int32.toInt64 (ar 1 (Int32.toNatClampNeg 0)))) (y := v14) hx hb dX9_findOther_298 ?_
        refine lv_lsub (x := ((Int32.toInt64 (ar 1 (Int32.toNatClampNeg 1))) * v12)) (y := ((Int32.toInt64 (ar 1 (Int32.toNatClampNeg 0))) * v14)) hx hb dX9_findOther_299 ?_
        refine lv_bipush (v := 100) hx hb dX9_findOther_300 (by decide) ?_
        refine lv_aload_n hx hb dX9_findOther_302 rfl (lv_at hl 0 rfl) ?_
        refine gfM_0_0 B w kt4_25 dX9_findOther_303 ?_
        refine lv_iconst (v := 2) hx hb dX9_findOther_306 (by decide) ?_
        refine alM_1 B w (vp_in_iff.mpr (by decide)) dX9_findOther_307 ?_
        refine lv_isub (x := 100) (y := (ar 1 (Int32.toNatClampNeg 2))) hx hb dX9_findOther_308 ?_
        refine lv_i2l hx hb dX9_findOther_309 rfl ?_
        refine lv_lmul (x := (((Int32.toInt64 (ar 1 (Int32.toNatClampNeg 1))) * v12) - ((Int32.toInt64 (ar 1 (Int32.toNatClampNeg 0))) * v14))) (y := (Int32.toInt64 (100 - (ar 1 (Int32.toNatClampNeg 2))))) hx hb dX9_findOther_310 ?_
        refine lv_topl (fun x_17 ex_17 => ?_)
        have hf := bindv_eq hf x_17 ex_17
        refine lv_lstore (lv' := [(16, .long x_17), (0, .ref (ad 0)), (1, .int v1), (2, .int v2), (3, .int v3), (12, .long v12), (14, .long v14)]) hx hb dX9_findOther_311 hl (by decide) rfl (fun ls hl => ?_)
        refine lv_aload_n hx hb dX9_findOther_313 rfl (lv_at hl 1 rfl) ?_
        refine gfM_0_16 B w kt4_41 dX9_findOther_314 ?_
        refine lv_ldc2 (own := RX9) (v := 1000) hx hb hown (hts _ kt4_185) dX9_findOther_317 ?_
        refine lv_lmul (x := (fl 1)) (y := 1000) hx hb dX9_findOther_320 ?_
        refine lv_ldc2 (own := RX9) (v := 100) hx hb hown (hts _ kt4_233) dX9_findOther_321 ?_
        refine lv_lmul (x := ((fl 1) * 1000)) (y := 100) hx hb dX9_findOther_324 ?_
        refine lv_topl (fun x_18 ex_18 => ?_)
        have hf := bindv_eq hf x_18 ex_18
        refine lv_lstore (lv' := [(18, .long x_18), (16, .long x_17), (0, .ref (ad 0)), (1, .int v1), (2, .int v2), (3, .int v3), (12, .long v12), (14, .long v14)]) hx hb dX9_findOther_325 hl (by decide) rfl (fun ls hl => ?_)
        refine lv_lload hx hb dX9_findOther_327 (lv_at hl 1 rfl) ?_
        refine lv_lload hx hb dX9_findOther_329 (lv_at hl 0 rfl) ?_
        obtain ⟨r_19, er_20, hf⟩ := bind1_eq hf
        refine callSL (As := [.long x_17, .long x_18]) (rest := []) B w (c_X9_gcd l _ x_17 x_18 er_20) (gS kt4_230 kt4_231 kt1_11 kt4_232) hdS_X9_gcd rfl rfl ⟨Nat.le_of_ble_eq_true rfl, Nat.le_of_ble_eq_true rfl⟩ rfl hl.1 rfl (Nat.le_of_ble_eq_true rfl) dX9_findOther_331 ⟨Nat.le_of_ble_eq_true rfl, Nat.le_of_ble_eq_true rfl⟩ (fun H locs w => ?_)
        refine lv_lstore (lv' := [(20, .long r_19), (18, .long x_18), (16, .long x_17), (0, .ref (ad 0)), (1, .int v1), (2, .int v2), (3, .int v3), (12, .long v12), (14, .long v14)]) hx hb dX9_findOther_334 hl (by decide) rfl (fun ls hl => ?_)
        refine lv_aload_n hx hb dX9_findOther_336 rfl (lv_at hl 3 rfl) ?_
        refine lv_lload hx hb dX9_findOther_337 (lv_at hl 2 rfl) ?_
        refine lv_lload hx hb dX9_findOther_339 (lv_at hl 0 rfl) ?_
        obtain ⟨hd_21, hf⟩ := dvL_eq hf
        refine lv_ldiv (x := x_17) (y := r_19) hx hb dX9_findOther_341 hd_21 ?_
        refine pfM_0_17 (v := (x_17 / r_19)) B w kt4_42 dX9_findOther_342 (fun H locs fl_22 efl_22 w => ?_)
        have hf := bindv_eq hf fl_22 efl_22
        refine lv_aload_n hx hb dX9_findOther_345 rfl (lv_at hl 3 rfl) ?_
        refine lv_lload hx hb dX9_findOther_346 (lv_at hl 1 rfl) ?_
        refine lv_lload hx hb dX9_findOther_348 (lv_at hl 0 rfl) ?_
        obtain ⟨hd_23, hf⟩ := dvL_eq hf
        refine lv_ldiv (x := x_18) (y := r_19) hx hb dX9_findOther_350 hd_23 ?_
        refine pfM_0_18 (v := (x_18 / r_19)) B w kt4_43 dX9_findOther_351 (fun H locs fl_24 efl_24 w => ?_)
        have hf := bindv_eq hf fl_24 efl_24
        have hf : some fl_24 = some fl0 := hf
        have q0 := so1 hf
        subst q0
        exact retV B hr hk w dX9_findOther_354
      · have hf := if_f hf c_16
        refine lv_iconst (v := 0) hx hb dX9_findOther_159 (by decide) ?_
        refine lv_istore (lv' := [(17, .int 0), (0, .ref (ad 0)), (1, .int v1), (2, .int v2), (3, .int v3), (12, .long v12), (14, .long v14), (16, .int v16)]) hx hb dX9_findOther_160 hl (by decide) rfl (fun ls hl => ?_)
        exact J162 _ ih 5000 v1 v2 v3 v12 v14 v16 0 fl H locs ls w (lv_sub hl [1, 2, 3, 4, 5, 6, 7, 0] rfl) hf
  have J141 : ∀ (v1 : Int32) (v2 : Int32) (v3 : Int32) (t1 : Int64) (fl : Nat → Int64) (H : Heap) (locs : List Loc) (ls : Array Slot), Wd (EM D ca ak av) A s (wM ad ca fi fl ar) H locs → lv_has ls 22 [(0, .ref (ad 0)), (1, .int v1), (2, .int v2), (3, .int v3)] → f_X9_findOther_141 ar v1 v2 v3 t1 fl = some fl0 → W p l e ({ frames := 2, cells := 0, slots := 0, locals := 51 } : Room) s m args below meth c H locs 0 0 (MQ below (Qv (EM D ca ak av) A (wM ad ca fi fl0 ar)) args s 0 0 A) (F0 m 141 ls [.long t1, .ref (ad 0)]) := by
    intro  v1 v2 v3 t1 fl H locs ls w hl hf
    unfold f_X9_findOther_141 at hf
    refine pfM_0_16 (v := t1) B w kt4_41 dX9_findOther_141 (fun H locs fl_25 efl_25 w => ?_)
    have hf := bindv_eq hf fl_25 efl_25
    refine lv_lconst (v := 0) hx hb dX9_findOther_144 (by decide) ?_
    refine lv_lstore (lv' := [(12, .long 0), (0, .ref (ad 0)), (1, .int v1), (2, .int v2), (3, .int v3)]) hx hb dX9_findOther_145 hl (by decide) rfl (fun ls hl => ?_)
    refine lv_lconst (v := 0) hx hb dX9_findOther_147 (by decide) ?_
    refine lv_lstore (lv' := [(14, .long 0), (12, .long 0), (0, .ref (ad 0)), (1, .int v1), (2, .int v2), (3, .int v3)]) hx hb dX9_findOther_148 hl (by decide) rfl (fun ls hl => ?_)
    refine lv_iconst (v := 0) hx hb dX9_findOther_150 (by decide) ?_
    refine lv_istore (lv' := [(16, .int 0), (14, .long 0), (12, .long 0), (0, .ref (ad 0)), (1, .int v1), (2, .int v2), (3, .int v3)]) hx hb dX9_findOther_151 hl (by decide) rfl (fun ls hl => ?_)
    exact J153  5000 v1 v2 v3 0 0 0 fl_25 H locs ls w (lv_sub hl [3, 4, 5, 6, 2, 1, 0] rfl) hf
  have J121 : ∀ (v1 : Int32) (v2 : Int32) (v3 : Int32) (v8 : Int64) (v10 : Int64) (t1 : Int64) (fl : Nat → Int64) (H : Heap) (locs : List Loc) (ls : Array Slot), Wd (EM D ca ak av) A s (wM ad ca fi fl ar) H locs → lv_has ls 22 [(0, .ref (ad 0)), (1, .int v1), (2, .int v2), (3, .int v3), (8, .long v8), (10, .long v10)] → f_X9_findOther_121 ar v1 v2 v3 v8 v10 t1 fl = some fl0 → W p l e ({ frames := 2, cells := 0, slots := 0, locals := 51 } : Room) s m args below meth c H locs 0 0 (MQ below (Qv (EM D ca ak av) A (wM ad ca fi fl0 ar)) args s 0 0 A) (F0 m 121 ls [.long t1, .ref (ad 0)]) := by
    intro  v1 v2 v3 v8 v10 t1 fl H locs ls w hl hf
    unfold f_X9_findOther_121 at hf
    refine pfM_0_15 (v := t1) B w kt4_40 dX9_findOther_121 (fun H locs fl_26 efl_26 w => ?_)
    have hf := bindv_eq hf fl_26 efl_26
    refine lv_aload_n hx hb dX9_findOther_124 rfl (lv_at hl 0 rfl) ?_
    refine lv_lload hx hb dX9_findOther_125 (lv_at hl 4 rfl) ?_
    refine lv_lconst (v := 0) hx hb dX9_findOther_127 (by decide) ?_
    refine W.lcmp hx hb dX9_findOther_128 ?_
    refine lv_if_ne (x := (lg_cmp v8 0)) (tgt := 136) hx hb dX9_findOther_129 (by decide) (fun c_27 => ?_) (fun c_27 => ?_)
    · have hf := if_f hf c_27
      refine lv_lload hx hb dX9_findOther_136 (lv_at hl 4 rfl) ?_
      refine lv_lload hx hb dX9_findOther_138 (lv_at hl 5 rfl) ?_
      obtain ⟨hd_28, hf⟩ := dvL_eq hf
      refine lv_ldiv (x := v8) (y := v10) hx hb dX9_findOther_140 hd_28 ?_
      exact J141  v1 v2 v3 (v8 / v10) fl_26 H locs ls w (lv_sub hl [0, 1, 2, 3] rfl) hf
    · have hf := if_t hf c_27
      refine lv_lconst (v := 1) hx hb dX9_findOther_132 (by decide) ?_
      refine lv_goto (tgt := 141) hx hb dX9_findOther_133 (by decide) ?_
      exact J141  v1 v2 v3 1 fl_26 H locs ls w (lv_sub hl [0, 1, 2, 3] rfl) hf
  have J102 : ∀ (v1 : Int32) (v2 : Int32) (v3 : Int32) (v6 : Int64) (v8 : Int64) (t0 : Int64) (fl : Nat → Int64) (H : Heap) (locs : List Loc) (ls : Array Slot), Wd (EM D ca ak av) A s (wM ad ca fi fl ar) H locs → lv_has ls 22 [(0, .ref (ad 0)), (1, .int v1), (2, .int v2), (3, .int v3), (6, .long v6), (8, .long v8)] → f_X9_findOther_102 ar v1 v2 v3 v6 v8 t0 fl = some fl0 → W p l e ({ frames := 2, cells := 0, slots := 0, locals := 51 } : Room) s m args below meth c H locs 0 0 (MQ below (Qv (EM D ca ak av) A (wM ad ca fi fl0 ar)) args s 0 0 A) (F0 m 102 ls [.long t0]) := by
    intro  v1 v2 v3 v6 v8 t0 fl H locs ls w hl hf
    unfold f_X9_findOther_102 at hf
    refine lv_lstore (lv' := [(10, .long t0), (0, .ref (ad 0)), (1, .int v1), (2, .int v2), (3, .int v3), (6, .long v6), (8, .long v8)]) hx hb dX9_findOther_102 hl (by decide) rfl (fun ls hl => ?_)
    refine lv_aload_n hx hb dX9_findOther_104 rfl (lv_at hl 1 rfl) ?_
    refine lv_lload hx hb dX9_findOther_105 (lv_at hl 6 rfl) ?_
    refine lv_lconst (v := 0) hx hb dX9_findOther_107 (by decide) ?_
    refine W.lcmp hx hb dX9_findOther_108 ?_
    refine lv_if_ne (x := (lg_cmp v8 0)) (tgt := 116) hx hb dX9_findOther_109 (by decide) (fun c_29 => ?_) (fun c_29 => ?_)
    · have hf := if_f hf c_29
      refine lv_lload hx hb dX9_findOther_116 (lv_at hl 5 rfl) ?_
      refine lv_lload hx hb dX9_findOther_118 (lv_at hl 0 rfl) ?_
      obtain ⟨hd_30, hf⟩ := dvL_eq hf
      refine lv_ldiv (x := v6) (y := t0) hx hb dX9_findOther_120 hd_30 ?_
      exact J121  v1 v2 v3 v8 t0 (v6 / t0) fl H locs ls w (lv_sub hl [1, 2, 3, 4, 6, 0] rfl) hf
    · have hf := if_t hf c_29
      refine lv_lconst (v := 0) hx hb dX9_findOther_112 (by decide) ?_
      refine lv_goto (tgt := 121) hx hb dX9_findOther_113 (by decide) ?_
      exact J121  v1 v2 v3 v8 t0 0 fl H locs ls w (lv_sub hl [1, 2, 3, 4, 6, 0] rfl) hf
  have J9 : ∀ (n : Nat) (v1 : Int32) (v2 : Int32) (v3 : Int32) (v4 : Int64) (v6 : Int64) (v8 : Int32) (fl : Nat → Int64) (H : Heap) (locs : List Loc) (ls : Array Slot), Wd (EM D ca ak av) A s (wM ad ca fi fl ar) H locs → lv_has ls 22 [(0, .ref (ad 0)), (1, .int v1), (2, .int v2), (3, .int v3), (4, .long v4), (6, .long v6), (8, .int v8)] → f_X9_findOther_9 ar n v1 v2 v3 v4 v6 v8 fl = some fl0 → W p l e ({ frames := 2, cells := 0, slots := 0, locals := 51 } : Room) s m args below meth c H locs 0 0 (MQ below (Qv (EM D ca ak av) A (wM ad ca fi fl0 ar)) args s 0 0 A) (F0 m 9 ls []) := by
    intro  n
    induction n with
    | zero =>
      intro v1 v2 v3 v4 v6 v8 fl H locs ls w hl hf
      cases hf
    | succ n ih =>
      intro v1 v2 v3 v4 v6 v8 fl H locs ls w hl hf
      rw [f_X9_findOther_9] at hf
      refine lv_iload hx hb dX9_findOther_9 (lv_at hl 6 rfl) ?_
      refine lv_iconst (v := 2) hx hb dX9_findOther_11 (by decide) ?_
      refine lv_icmp_ge (x := v8) (y := 2) (tgt := 73) hx hb dX9_findOther_12 (by decide) (fun c_31 => ?_) (fun c_31 => ?_)
      · have hf := if_t hf c_31
        refine lv_ldc2 (own := RX9) (v := 10000000) hx hb hown (hts _ kt4_197) dX9_findOther_73 ?_
        refine lv_lload hx hb dX9_findOther_76 (lv_at hl 4 rfl) ?_
        refine lv_lsub (x := 10000000) (y := v4) hx hb dX9_findOther_78 ?_
        refine lv_lload hx hb dX9_findOther_79 (lv_at hl 5 rfl) ?_
        refine lv_ladd (x := (10000000 - v4)) (y := v6) hx hb dX9_findOther_81 ?_
        refine lv_topl (fun x_32 ex_32 => ?_)
        have hf := bindv_eq hf x_32 ex_32
        refine lv_lstore (lv' := [(8, .long x_32), (0, .ref (ad 0)), (1, .int v1), (2, .int v2), (3, .int v3), (4, .long v4), (6, .long v6)]) hx hb dX9_findOther_82 hl (by decide) rfl (fun ls hl => ?_)
        refine lv_lload hx hb dX9_findOther_84 (lv_at hl 0 rfl) ?_
        refine lv_lconst (v := 0) hx hb dX9_findOther_86 (by decide) ?_
        refine W.lcmp hx hb dX9_findOther_87 ?_
        refine lv_if_ne (x := (lg_cmp x_32 0)) (tgt := 95) hx hb dX9_findOther_88 (by decide) (fun c_33 => ?_) (fun c_33 => ?_)
        · have hf := if_f hf c_33
          refine lv_lload hx hb dX9_findOther_95 (lv_at hl 6 rfl) ?_
          refine lv_lload hx hb dX9_findOther_97 (lv_at hl 0 rfl) ?_
          obtain ⟨r_34, er_35, hf⟩ := bind1_eq hf
          refine callSL (As := [.long v6, .long x_32]) (rest := []) B w (c_X9_gcd l _ v6 x_32 er_35) (gS kt4_230 kt4_231 kt1_11 kt4_232) hdS_X9_gcd rfl rfl ⟨Nat.le_of_ble_eq_true rfl, Nat.le_of_ble_eq_true rfl⟩ rfl hl.1 rfl (Nat.le_of_ble_eq_true rfl) dX9_findOther_99 ⟨Nat.le_of_ble_eq_true rfl, Nat.le_of_ble_eq_true rfl⟩ (fun H locs w => ?_)
          exact J102  v1 v2 v3 v6 x_32 r_34 fl H locs ls w (lv_sub hl [1, 2, 3, 4, 6, 0] rfl) hf
        · have hf := if_t hf c_33
          refine lv_lconst (v := 1) hx hb dX9_findOther_91 (by decide) ?_
          refine lv_goto (tgt := 102) hx hb dX9_findOther_92 (by decide) ?_
          exact J102  v1 v2 v3 v6 x_32 1 fl H locs ls w (lv_sub hl [1, 2, 3, 4, 6, 0] rfl) hf
      · have hf := if_f hf c_31
        refine lv_lload hx hb dX9_findOther_15 (lv_at hl 4 rfl) ?_
        refine lv_iload hx hb dX9_findOther_17 (lv_at hl 6 rfl) ?_
        refine lv_iload_n hx hb dX9_findOther_19 rfl (lv_at hl 3 rfl) ?_
        obtain ⟨r_36, er_37⟩ : ∃ y, f_X9_shareOf v8 v3 = y := ⟨_, rfl⟩
        have hf := bindv_eq hf r_36 er_37.symm
        refine callSI (As := [.int v8, .int v3]) (rest := [.long v4]) B w (c_X9_shareOf l _ v8 v3 er_37) (gS kt4_190 kt4_191 kt1_11 kt4_192) hdS_X9_shareOf rfl rfl ⟨Nat.le_of_ble_eq_true rfl, Nat.le_of_ble_eq_true rfl⟩ rfl hl.1 rfl (Nat.le_of_ble_eq_true rfl) dX9_findOther_20 ⟨Nat.le_of_ble_eq_true rfl, Nat.le_of_ble_eq_true rfl⟩ (fun H locs w => ?_)
        refine lv_i2l hx hb dX9_findOther_23 rfl ?_
        refine lv_aload_n hx hb dX9_findOther_24 rfl (lv_at hl 0 rfl) ?_
        refine lv_iload_n hx hb dX9_findOther_25 rfl (lv_at hl 2 rfl) ?_
        refine lv_iload_n hx hb dX9_findOther_26 rfl (lv_at hl 1 rfl) ?_
        refine lv_bipush (v := 16) hx hb dX9_findOther_27 (by decide) ?_
        refine lv_idiv (x := v1) (y := 16) hx hb dX9_findOther_29 (by decide) ?_
        refine lv_iconst (v := 1) hx hb dX9_findOther_30 (by decide) ?_
        refine lv_iload hx hb dX9_findOther_31 (lv_at hl 6 rfl) ?_
        obtain ⟨r_38, er_39, hf⟩ := bind1_eq hf
        refine callVI (As := [.int v2, .int (v1 / 16), .int 1, .int v8]) (rest := [.long (Int32.toInt64 r_36), .long v4]) B w (c_X9_calledGood l D ca ak av ad fi fl ar v2 (v1 / 16) 1 v8 er_39) (gV kt4_193 kt4_195 kp2_4 kt1_11 kt4_196) hdV_X9_calledGood 0 rfl rfl rfl rfl ⟨Nat.le_of_ble_eq_true rfl, Nat.le_of_ble_eq_true rfl⟩ rfl hl.1 rfl (Nat.le_of_ble_eq_true rfl) dX9_findOther_33 ⟨Nat.le_of_ble_eq_true rfl, Nat.le_of_ble_eq_true rfl⟩ (fun H locs w => ?_)
        refine lv_i2l hx hb dX9_findOther_36 rfl ?_
        refine lv_lmul (x := (Int32.toInt64 r_36)) (y := (Int32.toInt64 r_38)) hx hb dX9_findOther_37 ?_
        refine lv_ladd (x := v4) (y := ((Int32.toInt64 r_36) * (Int32.toInt64 r_38))) hx hb dX9_findOther_38 ?_
        refine lv_topl (fun x_40 ex_40 => ?_)
        have hf := bindv_eq hf x_40 ex_40
        refine lv_lstore (lv' := [(4, .long x_40), (0, .ref (ad 0)), (1, .int v1), (2, .int v2), (3, .int v3), (6, .long v6), (8, .int v8)]) hx hb dX9_findOther_39 hl (by decide) rfl (fun ls hl => ?_)
        refine lv_lload hx hb dX9_findOther_41 (lv_at hl 5 rfl) ?_
        refine lv_iload hx hb dX9_findOther_43 (lv_at hl 6 rfl) ?_
        refine lv_iload_n hx hb dX9_findOther_45 rfl (lv_at hl 4 rfl) ?_
        obtain ⟨r_41, er_42⟩ : ∃ y, f_X9_shareOf v8 v3 = y := ⟨_, rfl⟩
        have hf := bindv_eq hf r_41 er_42.symm
        refine callSI (As := [.int v8, .int v3]) (rest := [.long v6]) B w (c_X9_shareOf l _ v8 v3 er_42) (gS kt4_190 kt4_191 kt1_11 kt4_192) hdS_X9_shareOf rfl rfl ⟨Nat.le_of_ble_eq_true rfl, Nat.le_of_ble_eq_true rfl⟩ rfl hl.1 rfl (Nat.le_of_ble_eq_true rfl) dX9_findOther_46 ⟨Nat.le_of_ble_eq_true rfl, Nat.le_of_ble_eq_true rfl⟩ (fun H locs w => ?_)
        refine lv_i2l hx hb dX9_findOther_49 rfl ?_
        refine lv_aload_n hx hb dX9_findOther_50 rfl (lv_at hl 1 rfl) ?_
        refine lv_iload_n hx hb dX9_findOther_51 rfl (lv_at hl 3 rfl) ?_
        refine lv_iload_n hx hb dX9_findOther_52 rfl (lv_at hl 2 rfl) ?_
        refine lv_bipush (v := 16) hx hb dX9_findOther_53 (by decide) ?_
        refine lv_idiv (x := v1) (y := 16) hx hb dX9_findOther_55 (by decide) ?_
        refine lv_iconst (v := 0) hx hb dX9_findOther_56 (by decide) ?_
        refine lv_iload hx hb dX9_findOther_57 (lv_at hl 6 rfl) ?_
        obtain ⟨r_43, er_44, hf⟩ := bind1_eq hf
        refine callVI (As := [.int v2, .int (v1 / 16), .int 0, .int v8]) (rest := [.long (Int32.toInt64 r_41), .long v6]) B w (c_X9_calledGood l D ca ak av ad fi fl ar v2 (v1 / 16) 0 v8 er_44) (gV kt4_193 kt4_195 kp2_4 kt1_11 kt4_196) hdV_X9_calledGood 0 rfl rfl rfl rfl ⟨Nat.le_of_ble_eq_true rfl, Nat.le_of_ble_eq_true rfl⟩ rfl hl.1 rfl (Nat.le_of_ble_eq_true rfl) dX9_findOther_59 ⟨Nat.le_of_ble_eq_true rfl, Nat.le_of_ble_eq_true rfl⟩ (fun H locs w => ?_)
        refine lv_i2l hx hb dX9_findOther_62 rfl ?_
        refine lv_lmul (x := (Int32.toInt64 r_41)) (y := (Int32.toInt64 r_43)) hx hb dX9_findOther_63 ?_
        refine lv_ladd (x := v6) (y := ((Int32.toInt64 r_41) * (Int32.toInt64 r_43))) hx hb dX9_findOther_64 ?_
        refine lv_topl (fun x_45 ex_45 => ?_)
        have hf := bindv_eq hf x_45 ex_45
        refine lv_lstore (lv' := [(6, .long x_45), (4, .long x_40), (0, .ref (ad 0)), (1, .int v1), (2, .int v2), (3, .int v3), (8, .int v8)]) hx hb dX9_findOther_65 hl (by decide) rfl (fun ls hl => ?_)
        obtain ⟨x_46, ex_46⟩ : ∃ y : Int32, y = v8 + 1 := ⟨_, rfl⟩
        have hf := bindv_eq hf x_46 ex_46
        refine lv_iinc (v := x_46) (lv' := [(8, .int x_46), (6, .long x_45), (4, .long x_40), (0, .ref (ad 0)), (1, .int v1), (2, .int v2), (3, .int v3)]) hx hb dX9_findOther_67 hl (k := 6) rfl (by rw [ex_46]; rfl) (by decide) rfl (fun ls hl => ?_)
        refine lv_goto (tgt := 9) hx hb dX9_findOther_70 (by decide) ?_
        exact ih v1 v2 v3 x_40 x_45 x_46 fl H locs ls w (lv_sub hl [3, 4, 5, 6, 2, 1, 0] rfl) hf
  unfold f_X9_findOther at hf
  refine (show ∀ (H : Heap) (locs : List Loc), Wd (EM D ca ak av) A s (wM ad ca fi fl ar) H locs → W p l e ({ frames := 2, cells := 0, slots := 0, locals := 51 } : Room) s m args below meth c H locs 0 0 (MQ below (Qv (EM D ca ak av) A (wM ad ca fi fl0 ar)) args s 0 0 A) (F0 m 0 ls []) from ?_) s.heap [] w
  intro H locs w
  refine lv_lconst (v := 0) hx hb dX9_findOther_0 (by decide) ?_
  refine lv_lstore (lv' := [(4, .long 0), (0, .ref (ad 0)), (1, .int v1), (2, .int v2), (3, .int v3)]) hx hb dX9_findOther_1 hl (by decide) rfl (fun ls hl => ?_)
  refine lv_lconst (v := 0) hx hb dX9_findOther_3 (by decide) ?_
  refine lv_lstore (lv' := [(6, .long 0), (4, .long 0), (0, .ref (ad 0)), (1, .int v1), (2, .int v2), (3, .int v3)]) hx hb dX9_findOther_4 hl (by decide) rfl (fun ls hl => ?_)
  refine lv_iconst (v := 0) hx hb dX9_findOther_6 (by decide) ?_
  refine lv_istore (lv' := [(8, .int 0), (6, .long 0), (4, .long 0), (0, .ref (ad 0)), (1, .int v1), (2, .int v2), (3, .int v3)]) hx hb dX9_findOther_7 hl (by decide) rfl (fun ls hl => ?_)
  exact J9  5000 v1 v2 v3 0 0 0 fl H locs ls w (lv_sub hl [3, 4, 5, 6, 2, 1, 0] rfl) hf
def f_X9_other (fl : Nat → Int64) (ar : Nat → Nat → Int32) (v1 : Int32) (v2 : Int32) (v3 : Int32) (v4 : Int32) : Option (Int64 × (Nat → Int64)) := bindv (f_X9_isRule v1) (fun r_1 => if (r_1 = 0 : Prop) then (some ((-1002), fl)) else (bindv (f_X9_in (Int32.toInt64 v2) 0 15) (fun r_4 => if (r_4 = 0 : Prop) then (some ((-1002), fl)) else (bindv (f_X9_isShare v3) (fun r_7 => if (r_7 = 0 : Prop) then (some ((-1002), fl)) else (bindv (f_X9_in (Int32.toInt64 v4) 0 3) (fun r_10 => if (r_10 = 0 : Prop) then (some ((-1002), fl)) else (bind1 (f_X9_findOther fl ar v1 v2 v3) (fun fl_13 => if (v4 = 0 : Prop) then (some ((fl_13 0), fl_13)) else (if (v4 = 1 : Prop) then (some ((fl_13 1), fl_13)) else (if (v4 = 2 : Prop) then (some ((fl_13 2), fl_13)) else (some ((fl_13 3), fl_13)))))))))))))
set_option maxHeartbeats 4000000 in
set_option maxRecDepth 100000 in
theorem c_X9_other (l : Launch) (D : va_G) (ca : Nat → ClassId) (ak av ad : Nat → Nat) (fi : Nat → Int32) (fl : Nat → Int64) (ar : Nat → Nat → Int32) (v1 : Int32) (v2 : Int32) (v3 : Int32) (v4 : Int32) {r0 : Int64} {fl0 : Nat → Int64} (hf : f_X9_other fl ar v1 v2 v3 v4 = some (r0, fl0)) : MtL l yX9_other cX9_other 5 { frames := 3, cells := 0, slots := 0, locals := 92 } (EM D ca ak av) [.ref (ad 0), .int v1, .int v2, .int v3, .int v4] (wM ad ca fi fl ar) (wM ad ca fi fl0 ar) r0 := by
  refine MtL.of (own := RX9) (by decide +kernel) rfl (Nat.le_of_ble_eq_true rfl) ?_
  intro p e s m args below meth c A B hr hk w ls hl
  have hx := B.1.1
  have hb := B.1.2.1
  have hown := B.1.2.2.2.1
  have hts := B.1.2.2.2.2
  have hl : lv_has ls 5 [(0, .ref (ad 0)), (1, .int v1), (2, .int v2), (3, .int v3), (4, .int v4)] := hl
  unfold f_X9_other at hf
  refine (show ∀ (H : Heap) (locs : List Loc), Wd (EM D ca ak av) A s (wM ad ca fi fl ar) H locs → W p l e ({ frames := 3, cells := 0, slots := 0, locals := 92 } : Room) s m args below meth c H locs 0 0 (MQ below (Ql (EM D ca ak av) A (wM ad ca fi fl0 ar) r0) args s 0 0 A) (F0 m 0 ls []) from ?_) s.heap [] w
  intro H locs w
  refine lv_iload_n hx hb dX9_other_0 rfl (lv_at hl 1 rfl) ?_
  obtain ⟨r_1, er_2⟩ : ∃ y, f_X9_isRule v1 = y := ⟨_, rfl⟩
  have hf := bindv_eq hf r_1 er_2.symm
  refine callSZ (As := [.int v1]) (rest := []) B w (c_X9_isRule l _ v1 er_2) (gS kt4_164 kt4_165 kt1_11 kt4_166) hdS_X9_isRule rfl rfl ⟨Nat.le_of_ble_eq_true rfl, Nat.le_of_ble_eq_true rfl⟩ rfl hl.1 rfl (Nat.le_of_ble_eq_true rfl) dX9_other_1 ⟨Nat.le_of_ble_eq_true rfl, Nat.le_of_ble_eq_true rfl⟩ (fun H locs w hzr_1 => ?_)
  refine lv_if_eq (x := r_1) (tgt := 39) hx hb dX9_other_4 (by decide) (fun c_3 => ?_) (fun c_3 => ?_)
  · have hf := if_t hf c_3
    refine lv_ldc2 (own := RX9) (v := (-1002)) hx hb hown (hts _ kt4_225) dX9_other_39 ?_
    have hf : some ((-1002), fl) = some (r0, fl0) := hf
    obtain ⟨q0, q1⟩ := so2 hf
    subst q0
    subst q1
    exact retL B hr hk w dX9_other_42
  · have hf := if_f hf c_3
    refine lv_iload_n hx hb dX9_other_7 rfl (lv_at hl 2 rfl) ?_
    refine lv_i2l hx hb dX9_other_8 rfl ?_
    refine lv_lconst (v := 0) hx hb dX9_other_9 (by decide) ?_
    refine lv_ldc2 (own := RX9) (v := 15) hx hb hown (hts _ kt4_223) dX9_other_10 ?_
    obtain ⟨r_4, er_5⟩ : ∃ y, f_X9_in (Int32.toInt64 v2) 0 15 = y := ⟨_, rfl⟩
    have hf := bindv_eq hf r_4 er_5.symm
    refine callSZ (As := [.long (Int32.toInt64 v2), .long 0, .long 15]) (rest := []) B w (c_X9_in l _ (Int32.toInt64 v2) 0 15 er_5) (gS kt4_95 kt4_96 kt1_11 kt4_97) hdS_X9_in rfl rfl ⟨Nat.le_of_ble_eq_true rfl, Nat.le_of_ble_eq_true rfl⟩ rfl hl.1 rfl (Nat.le_of_ble_eq_true rfl) dX9_other_13 ⟨Nat.le_of_ble_eq_true rfl, Nat.le_of_ble_eq_true rfl⟩ (fun H locs w hzr_4 => ?_)
    refine lv_if_eq (x := r_4) (tgt := 39) hx hb dX9_other_16 (by decide) (fun c_6 => ?_) (fun c_6 => ?_)
    · have hf := if_t hf c_6
      refine lv_ldc2 (own := RX9) (v := (-1002)) hx hb hown (hts _ kt4_225) dX9_other_39 ?_
      have hf : some ((-1002), fl) = some (r0, fl0) := hf
      obtain ⟨q0, q1⟩ := so2 hf
      subst q0
      subst q1
      exact retL B hr hk w dX9_other_42
    · have hf := if_f hf c_6
      refine lv_iload_n hx hb dX9_other_19 rfl (lv_at hl 3 rfl) ?_
      obtain ⟨r_7, er_8⟩ : ∃ y, f_X9_isShare v3 = y := ⟨_, rfl⟩
      have hf := bindv_eq hf r_7 er_8.symm
      refine callSZ (As := [.int v3]) (rest := []) B w (c_X9_isShare l _ v3 er_8) (gS kt4_182 kt4_183 kt1_11 kt4_184) hdS_X9_isShare rfl rfl ⟨Nat.le_of_ble_eq_true rfl, Nat.le_of_ble_eq_true rfl⟩ rfl hl.1 rfl (Nat.le_of_ble_eq_true rfl) dX9_other_20 ⟨Nat.le_of_ble_eq_true rfl, Nat.le_of_ble_eq_true rfl⟩ (fun H locs w hzr_7 => ?_)
      refine lv_if_eq (x := r_7) (tgt := 39) hx hb dX9_other_23 (by decide) (fun c_9 => ?_) (fun c_9 => ?_)
      · have hf := if_t hf c_9
        refine lv_ldc2 (own := RX9) (v := (-1002)) hx hb hown (hts _ kt4_225) dX9_other_39 ?_
        have hf : some ((-1002), fl) = some (r0, fl0) := hf
        obtain ⟨q0, q1⟩ := so2 hf
        subst q0
        subst q1
        exact retL B hr hk w dX9_other_42
      · have hf := if_f hf c_9
        refine lv_iload hx hb dX9_other_26 (lv_at hl 4 rfl) ?_
        refine lv_i2l hx hb dX9_other_28 rfl ?_
        refine lv_lconst (v := 0) hx hb dX9_other_29 (by decide) ?_
        refine lv_ldc2 (own := RX9) (v := 3) hx hb hown (hts _ kt4_224) dX9_other_30 ?_
        obtain ⟨r_10, er_11⟩ : ∃ y, f_X9_in (Int32.toInt64 v4) 0 3 = y := ⟨_, rfl⟩
        have hf := bindv_eq hf r_10 er_11.symm
        refine callSZ (As := [.long (Int32.toInt64 v4), .long 0, .long 3]) (rest := []) B w (c_X9_in l _ (Int32.toInt64 v4) 0 3 er_11) (gS kt4_95 kt4_96 kt1_11 kt4_97) hdS_X9_in rfl rfl ⟨Nat.le_of_ble_eq_true rfl, Nat.le_of_ble_eq_true rfl⟩ rfl hl.1 rfl (Nat.le_of_ble_eq_true rfl) dX9_other_33 ⟨Nat.le_of_ble_eq_true rfl, Nat.le_of_ble_eq_true rfl⟩ (fun H locs w hzr_10 => ?_)
        refine lv_if_ne (x := r_10) (tgt := 43) hx hb dX9_other_36 (by decide) (fun c_12 => ?_) (fun c_12 => ?_)
        · have hf := if_f hf c_12
          refine lv_aload_n hx hb dX9_other_43 rfl (lv_at hl 0 rfl) ?_
          refine lv_iload_n hx hb dX9_other_44 rfl (lv_at hl 1 rfl) ?_
          refine lv_iload_n hx hb dX9_other_45 rfl (lv_at hl 2 rfl) ?_
          refine lv_iload_n hx hb dX9_other_46 rfl (lv_at hl 3 rfl) ?_
          obtain ⟨fl_13, er_14, hf⟩ := bind1_eq hf
          refine callVV (As := [.int v1, .int v2, .int v3]) (rest := []) B w (c_X9_findOther l D ca ak av ad fi fl ar v1 v2 v3 er_14) (gV kt4_226 kt4_228 kp2_7 kt1_11 kt4_229) hdV_X9_findOther 0 rfl rfl rfl rfl ⟨Nat.le_of_ble_eq_true rfl, Nat.le_of_ble_eq_true rfl⟩ rfl hl.1 rfl (Nat.le_of_ble_eq_true rfl) dX9_other_47 ⟨Nat.le_of_ble_eq_true rfl, Nat.le_of_ble_eq_true rfl⟩ (fun H locs w => ?_)
          refine lv_iload hx hb dX9_other_50 (lv_at hl 4 rfl) ?_
          refine lv_if_ne (x := v4) (tgt := 62) hx hb dX9_other_52 (by decide) (fun c_15 => ?_) (fun c_15 => ?_)
          · have hf := if_f hf c_15
            refine lv_iload hx hb dX9_other_62 (lv_at hl 4 rfl) ?_
            refine lv_iconst (v := 1) hx hb dX9_other_64 (by decide) ?_
            refine lv_icmp_ne (x := v4) (y := 1) (tgt := 75) hx hb dX9_other_65 (by decide) (fun c_16 => ?_) (fun c_16 => ?_)
            · have hf := if_f hf c_16
              refine lv_iload hx hb dX9_other_75 (lv_at hl 4 rfl) ?_
              refine lv_iconst (v := 2) hx hb dX9_other_77 (by decide) ?_
              refine lv_icmp_ne (x := v4) (y := 2) (tgt := 88) hx hb dX9_other_78 (by decide) (fun c_17 => ?_) (fun c_17 => ?_)
              · have hf := if_f hf c_17
                refine lv_aload_n hx hb dX9_other_88 rfl (lv_at hl 0 rfl) ?_
                refine gfM_0_18 B w kt4_43 dX9_other_89 ?_
                have hf : some ((fl_13 3), fl_13) = some (r0, fl0) := hf
                obtain ⟨q0, q1⟩ := so2 hf
                subst q0
                subst q1
                exact retL B hr hk w dX9_other_92
              · have hf := if_t hf c_17
                refine lv_aload_n hx hb dX9_other_81 rfl (lv_at hl 0 rfl) ?_
                refine gfM_0_17 B w kt4_42 dX9_other_82 ?_
                refine lv_goto (tgt := 92) hx hb dX9_other_85 (by decide) ?_
                have hf : some ((fl_13 2), fl_13) = some (r0, fl0) := hf
                obtain ⟨q0, q1⟩ := so2 hf
                subst q0
                subst q1
                exact retL B hr hk w dX9_other_92
            · have hf := if_t hf c_16
              refine lv_aload_n hx hb dX9_other_68 rfl (lv_at hl 0 rfl) ?_
              refine gfM_0_16 B w kt4_41 dX9_other_69 ?_
              refine lv_goto (tgt := 92) hx hb dX9_other_72 (by decide) ?_
              have hf : some ((fl_13 1), fl_13) = some (r0, fl0) := hf
              obtain ⟨q0, q1⟩ := so2 hf
              subst q0
              subst q1
              exact retL B hr hk w dX9_other_92
          · have hf := if_t hf c_15
            refine lv_aload_n hx hb dX9_other_55 rfl (lv_at hl 0 rfl) ?_
            refine gfM_0_15 B w kt4_40 dX9_other_56 ?_
            refine lv_goto (tgt := 92) hx hb dX9_other_59 (by decide) ?_
            have hf : some ((fl_13 0), fl_13) = some (r0, fl0) := hf
            obtain ⟨q0, q1⟩ := so2 hf
            subst q0
            subst q1
            exact retL B hr hk w dX9_other_92
        · have hf := if_t hf c_12
          refine lv_ldc2 (own := RX9) (v := (-1002)) hx hb hown (hts _ kt4_225) dX9_other_39 ?_
          have hf : some ((-1002), fl) = some (r0, fl0) := hf
          obtain ⟨q0, q1⟩ := so2 hf
          subst q0
          subst q1
          exact retL B hr hk w dX9_other_42
def f_X9_floor (v0 : Int64) (v2 : Int64) : Option (Int64) := dvL v2 (bindv ((v0 / v2) : Int64) (fun x_2 => if (0 ≤ (lg_cmp v0 0) : Prop) then (some x_2) else (if ((lg_cmp (x_2 * v2) v0) = 0 : Prop) then (some x_2) else (some (x_2 - 1)))))
set_option maxHeartbeats 4000000 in
set_option maxRecDepth 100000 in
theorem c_X9_floor (l : Launch) (E : VE) (v0 : Int64) (v2 : Int64) {r0 : Int64} (hf : f_X9_floor v0 v2 = some r0) : MtL l yX9_floor cX9_floor 6 { frames := 0, cells := 0, slots := 0, locals := 0 } E [.long v0, .long v2] [] [] r0 := by
  refine MtL.of (own := RX9) (by decide +kernel) rfl (Nat.le_of_ble_eq_true rfl) ?_
  intro p e s m args below meth c A B hr hk w ls hl
  have hx := B.1.1
  have hb := B.1.2.1
  have hown := B.1.2.2.2.1
  have hts := B.1.2.2.2.2
  have hl : lv_has ls 6 [(0, .long v0), (2, .long v2)] := hl
  unfold f_X9_floor at hf
  refine (show ∀ (H : Heap) (locs : List Loc), Wd E A s [] H locs → W p l e ({ frames := 0, cells := 0, slots := 0, locals := 0 } : Room) s m args below meth c H locs 0 0 (MQ below (Ql E A [] r0) args s 0 0 A) (F0 m 0 ls []) from ?_) s.heap [] w
  intro H locs w
  refine lv_lload_n hx hb dX9_floor_0 rfl (lv_at hl 0 rfl) ?_
  refine lv_lload_n hx hb dX9_floor_1 rfl (lv_at hl 1 rfl) ?_
  obtain ⟨hd_1, hf⟩ := dvL_eq hf
  refine lv_ldiv (x := v0) (y := v2) hx hb dX9_floor_2 hd_1 ?_
  refine lv_topl (fun x_2 ex_2 => ?_)
  have hf := bindv_eq hf x_2 ex_2
  refine lv_lstore (lv' := [(4, .long x_2), (0, .long v0), (2, .long v2)]) hx hb dX9_floor_3 hl (by decide) rfl (fun ls hl => ?_)
  refine lv_lload_n hx hb dX9_floor_5 rfl (lv_at hl 1 rfl) ?_
  refine lv_lconst (v := 0) hx hb dX9_floor_6 (by decide) ?_
  refine W.lcmp hx hb dX9_floor_7 ?_
  refine lv_if_ge (x := (lg_cmp v0 0)) (tgt := 27) hx hb dX9_floor_8 (by decide) (fun c_3 => ?_) (fun c_3 => ?_)
  · have hf := if_t hf c_3
    refine lv_lload hx hb dX9_floor_27 (lv_at hl 0 rfl) ?_
    have hf : some x_2 = some r0 := hf
    have q0 := so1 hf
    subst q0
    exact retL B hr hk w dX9_floor_29
  · have hf := if_f hf c_3
    refine lv_lload hx hb dX9_floor_11 (lv_at hl 0 rfl) ?_
    refine lv_lload_n hx hb dX9_floor_13 rfl (lv_at hl 2 rfl) ?_
    refine lv_lmul (x := x_2) (y := v2) hx hb dX9_floor_14 ?_
    refine lv_lload_n hx hb dX9_floor_15 rfl (lv_at hl 1 rfl) ?_
    refine W.lcmp hx hb dX9_floor_16 ?_
    refine lv_if_eq (x := (lg_cmp (x_2 * v2) v0)) (tgt := 27) hx hb dX9_floor_17 (by decide) (fun c_4 => ?_) (fun c_4 => ?_)
    · have hf := if_t hf c_4
      refine lv_lload hx hb dX9_floor_27 (lv_at hl 0 rfl) ?_
      have hf : some x_2 = some r0 := hf
      have q0 := so1 hf
      subst q0
      exact retL B hr hk w dX9_floor_29
    · have hf := if_f hf c_4
      refine lv_lload hx hb dX9_floor_20 (lv_at hl 0 rfl) ?_
      refine lv_lconst (v := 1) hx hb dX9_floor_22 (by decide) ?_
      refine lv_lsub (x := x_2) (y := 1) hx hb dX9_floor_23 ?_
      refine lv_goto (tgt := 29) hx hb dX9_floor_24 (by decide) ?_
      have hf : some (x_2 - 1) = some r0 := hf
      have q0 := so1 hf
      subst q0
      exact retL B hr hk w dX9_floor_29
def f_X9_compare_120   (v10 : Int64) (v14 : Int64) (v16 : Int32) : Option (Int32) := if ((lg_cmp v10 v14) = 0 : Prop) then (some 0) else (if ((lg_cmp v10 0) = 0 : Prop) then (some v16) else (some (0 - v16)))
def f_X9_compare_17   : Nat → (Int64) → (Int64) → (Int64) → (Int64) → (Int32) → Option (Int32)
  | 0, _, _, _, _, _ => none
  | n + 1, v8, v10, v12, v14, v16 => if ((lg_cmp v10 0) = 0 : Prop) then (f_X9_compare_120  v10 v14 v16) else (if ((lg_cmp v14 0) = 0 : Prop) then (f_X9_compare_120  v10 v14 v16) else (bind1 (f_X9_floor v8 v10) (fun r_5 => bind1 (f_X9_floor v12 v14) (fun r_7 => if ((lg_cmp r_5 r_7) = 0 : Prop) then (bindv ((v8 - (r_5 * v10)) : Int64) (fun x_10 => bindv ((v12 - (r_7 * v14)) : Int64) (fun x_11 => bindv ((0 - v16) : Int32) (fun x_12 => (f_X9_compare_17 n) v10 x_10 v14 x_11 x_12)))) else (if (0 ≤ (lg_cmp r_5 r_7) : Prop) then (some v16) else (some (0 - v16)))))))
def f_X9_compare (v0 : Int64) (v2 : Int64) (v4 : Int64) (v6 : Int64) : Option (Int32) := f_X9_compare_17  5000 v0 v2 v4 v6 1
set_option maxHeartbeats 4000000 in
set_option maxRecDepth 100000 in
theorem c_X9_compare (l : Launch) (E : VE) (v0 : Int64) (v2 : Int64) (v4 : Int64) (v6 : Int64) {r0 : Int32} (hf : f_X9_compare v0 v2 v4 v6 = some r0) : MtI l yX9_compare cX9_compare 25 { frames := 1, cells := 0, slots := 0, locals := 25 } E [.long v0, .long v2, .long v4, .long v6] [] [] r0 := by
  refine MtI.of (own := RX9) (by decide +kernel) rfl (Nat.le_of_ble_eq_true rfl) ?_
  intro p e s m args below meth c A B hr hk w ls hl
  have hx := B.1.1
  have hb := B.1.2.1
  have hown := B.1.2.2.2.1
  have hts := B.1.2.2.2.2
  have hl : lv_has ls 25 [(0, .long v0), (2, .long v2), (4, .long v4), (6, .long v6)] := hl
  have J120 : ∀ (v10 : Int64) (v14 : Int64) (v16 : Int32) (H : Heap) (locs : List Loc) (ls : Array Slot), Wd E A s [] H locs → lv_has ls 25 [(10, .long v10), (14, .long v14), (16, .int v16)] → f_X9_compare_120  v10 v14 v16 = some r0 → W p l e ({ frames := 1, cells := 0, slots := 0, locals := 25 } : Room) s m args below meth c H locs 0 0 (MQ below (Qi E A [] r0) args s 0 0 A) (F0 m 120 ls []) := by
    intro  v10 v14 v16 H locs ls w hl hf
    unfold f_X9_compare_120 at hf
    refine lv_lload hx hb dX9_compare_120 (lv_at hl 0 rfl) ?_
    refine lv_lload hx hb dX9_compare_122 (lv_at hl 1 rfl) ?_
    refine W.lcmp hx hb dX9_compare_124 ?_
    refine lv_if_ne (x := (lg_cmp v10 v14)) (tgt := 132) hx hb dX9_compare_125 (by decide) (fun c_1 => ?_) (fun c_1 => ?_)
    · have hf := if_f hf c_1
      refine lv_lload hx hb dX9_compare_132 (lv_at hl 0 rfl) ?_
      refine lv_lconst (v := 0) hx hb dX9_compare_134 (by decide) ?_
      refine W.lcmp hx hb dX9_compare_135 ?_
      refine lv_if_ne (x := (lg_cmp v10 0)) (tgt := 144) hx hb dX9_compare_136 (by decide) (fun c_2 => ?_) (fun c_2 => ?_)
      · have hf := if_f hf c_2
        refine lv_iconst (v := 0) hx hb dX9_compare_144 (by decide) ?_
        refine lv_iload hx hb dX9_compare_145 (lv_at hl 2 rfl) ?_
        refine lv_isub (x := 0) (y := v16) hx hb dX9_compare_147 ?_
        have hf : some (0 - v16) = some r0 := hf
        have q0 := so1 hf
        subst q0
        exact retI B hr hk w dX9_compare_148
      · have hf := if_t hf c_2
        refine lv_iload hx hb dX9_compare_139 (lv_at hl 2 rfl) ?_
        refine lv_goto (tgt := 148) hx hb dX9_compare_141 (by decide) ?_
        have hf : some v16 = some r0 := hf
        have q0 := so1 hf
        subst q0
        exact retI B hr hk w dX9_compare_148
    · have hf := if_t hf c_1
      refine lv_iconst (v := 0) hx hb dX9_compare_128 (by decide) ?_
      refine lv_goto (tgt := 148) hx hb dX9_compare_129 (by decide) ?_
      have hf : some 0 = some r0 := hf
      have q0 := so1 hf
      subst q0
      exact retI B hr hk w dX9_compare_148
  have J17 : ∀ (n : Nat) (v8 : Int64) (v10 : Int64) (v12 : Int64) (v14 : Int64) (v16 : Int32) (H : Heap) (locs : List Loc) (ls : Array Slot), Wd E A s [] H locs → lv_has ls 25 [(8, .long v8), (10, .long v10), (12, .long v12), (14, .long v14), (16, .int v16)] → f_X9_compare_17  n v8 v10 v12 v14 v16 = some r0 → W p l e ({ frames := 1, cells := 0, slots := 0, locals := 25 } : Room) s m args below meth c H locs 0 0 (MQ below (Qi E A [] r0) args s 0 0 A) (F0 m 17 ls []) := by
    intro  n
    induction n with
    | zero =>
      intro v8 v10 v12 v14 v16 H locs ls w hl hf
      cases hf
    | succ n ih =>
      intro v8 v10 v12 v14 v16 H locs ls w hl hf
      rw [f_X9_compare_17] at hf
      refine lv_lload hx hb dX9_compare_17 (lv_at hl 1 rfl) ?_
      refine lv_lconst (v := 0) hx hb dX9_compare_19 (by decide) ?_
      refine W.lcmp hx hb dX9_compare_20 ?_
      refine lv_if_eq (x := (lg_cmp v10 0)) (tgt := 120) hx hb dX9_compare_21 (by decide) (fun c_3 => ?_) (fun c_3 => ?_)
      · have hf := if_t hf c_3
        exact J120  v10 v14 v16 H locs ls w (lv_sub hl [1, 3, 4] rfl) hf
      · have hf := if_f hf c_3
        refine lv_lload hx hb dX9_compare_24 (lv_at hl 3 rfl) ?_
        refine lv_lconst (v := 0) hx hb dX9_compare_26 (by decide) ?_
        refine W.lcmp hx hb dX9_compare_27 ?_
        refine lv_if_eq (x := (lg_cmp v14 0)) (tgt := 120) hx hb dX9_compare_28 (by decide) (fun c_4 => ?_) (fun c_4 => ?_)
        · have hf := if_t hf c_4
          exact J120  v10 v14 v16 H locs ls w (lv_sub hl [1, 3, 4] rfl) hf
        · have hf := if_f hf c_4
          refine lv_lload hx hb dX9_compare_31 (lv_at hl 0 rfl) ?_
          refine lv_lload hx hb dX9_compare_33 (lv_at hl 1 rfl) ?_
          obtain ⟨r_5, er_6, hf⟩ := bind1_eq hf
          refine callSL (As := [.long v8, .long v10]) (rest := []) B w (c_X9_floor l _ v8 v10 er_6) (gS kt5_5 kt5_6 kt1_11 kt5_7) hdS_X9_floor rfl rfl ⟨Nat.le_of_ble_eq_true rfl, Nat.le_of_ble_eq_true rfl⟩ rfl hl.1 rfl (Nat.le_of_ble_eq_true rfl) dX9_compare_35 ⟨Nat.le_of_ble_eq_true rfl, Nat.le_of_ble_eq_true rfl⟩ (fun H locs w => ?_)
          refine lv_lstore (lv' := [(17, .long r_5), (8, .long v8), (10, .long v10), (12, .long v12), (14, .long v14), (16, .int v16)]) hx hb dX9_compare_38 hl (by decide) rfl (fun ls hl => ?_)
          refine lv_lload hx hb dX9_compare_40 (lv_at hl 3 rfl) ?_
          refine lv_lload hx hb dX9_compare_42 (lv_at hl 4 rfl) ?_
          obtain ⟨r_7, er_8, hf⟩ := bind1_eq hf
          refine callSL (As := [.long v12, .long v14]) (rest := []) B w (c_X9_floor l _ v12 v14 er_8) (gS kt5_5 kt5_6 kt1_11 kt5_7) hdS_X9_floor rfl rfl ⟨Nat.le_of_ble_eq_true rfl, Nat.le_of_ble_eq_true rfl⟩ rfl hl.1 rfl (Nat.le_of_ble_eq_true rfl) dX9_compare_44 ⟨Nat.le_of_ble_eq_true rfl, Nat.le_of_ble_eq_true rfl⟩ (fun H locs w => ?_)
          refine lv_lstore (lv' := [(19, .long r_7), (17, .long r_5), (8, .long v8), (10, .long v10), (12, .long v12), (14, .long v14), (16, .int v16)]) hx hb dX9_compare_47 hl (by decide) rfl (fun ls hl => ?_)
          refine lv_lload hx hb dX9_compare_49 (lv_at hl 1 rfl) ?_
          refine lv_lload hx hb dX9_compare_51 (lv_at hl 0 rfl) ?_
          refine W.lcmp hx hb dX9_compare_53 ?_
          refine lv_if_eq (x := (lg_cmp r_5 r_7)) (tgt := 75) hx hb dX9_compare_54 (by decide) (fun c_9 => ?_) (fun c_9 => ?_)
          · have hf := if_t hf c_9
            refine lv_lload hx hb dX9_compare_75 (lv_at hl 2 rfl) ?_
            refine lv_lload hx hb dX9_compare_77 (lv_at hl 1 rfl) ?_
            refine lv_lload hx hb dX9_compare_79 (lv_at hl 3 rfl) ?_
            refine lv_lmul (x := r_5) (y := v10) hx hb dX9_compare_81 ?_
            refine lv_lsub (x := v8) (y := (r_5 * v10)) hx hb dX9_compare_82 ?_
            refine lv_topl (fun x_10 ex_10 => ?_)
            have hf := bindv_eq hf x_10 ex_10
            refine lv_lstore (lv' := [(21, .long x_10), (19, .long r_7), (17, .long r_5), (8, .long v8), (10, .long v10), (12, .long v12), (14, .long v14), (16, .int v16)]) hx hb dX9_compare_83 hl (by decide) rfl (fun ls hl => ?_)
            refine lv_lload hx hb dX9_compare_85 (lv_at hl 5 rfl) ?_
            refine lv_lload hx hb dX9_compare_87 (lv_at hl 1 rfl) ?_
            refine lv_lload hx hb dX9_compare_89 (lv_at hl 6 rfl) ?_
            refine lv_lmul (x := r_7) (y := v14) hx hb dX9_compare_91 ?_
            refine lv_lsub (x := v12) (y := (r_7 * v14)) hx hb dX9_compare_92 ?_
            refine lv_topl (fun x_11 ex_11 => ?_)
            have hf := bindv_eq hf x_11 ex_11
            refine lv_lstore (lv' := [(23, .long x_11), (21, .long x_10), (19, .long r_7), (17, .long r_5), (8, .long v8), (10, .long v10), (12, .long v12), (14, .long v14), (16, .int v16)]) hx hb dX9_compare_93 hl (by decide) rfl (fun ls hl => ?_)
            refine lv_lload hx hb dX9_compare_95 (lv_at hl 5 rfl) ?_
            refine lv_lstore (lv' := [(8, .long v10), (23, .long x_11), (21, .long x_10), (19, .long r_7), (17, .long r_5), (10, .long v10), (12, .long v12), (14, .long v14), (16, .int v16)]) hx hb dX9_compare_97 hl (by decide) rfl (fun ls hl => ?_)
            refine lv_lload hx hb dX9_compare_99 (lv_at hl 2 rfl) ?_
            refine lv_lstore (lv' := [(10, .long x_10), (8, .long v10), (23, .long x_11), (21, .long x_10), (19, .long r_7), (17, .long r_5), (12, .long v12), (14, .long v14), (16, .int v16)]) hx hb dX9_compare_101 hl (by decide) rfl (fun ls hl => ?_)
            refine lv_lload hx hb dX9_compare_103 (lv_at hl 7 rfl) ?_
            refine lv_lstore (lv' := [(12, .long v14), (10, .long x_10), (8, .long v10), (23, .long x_11), (21, .long x_10), (19, .long r_7), (17, .long r_5), (14, .long v14), (16, .int v16)]) hx hb dX9_compare_105 hl (by decide) rfl (fun ls hl => ?_)
            refine lv_lload hx hb dX9_compare_107 (lv_at hl 3 rfl) ?_
            refine lv_lstore (lv' := [(14, .long x_11), (12, .long v14), (10, .long x_10), (8, .long v10), (23, .long x_11), (21, .long x_10), (19, .long r_7), (17, .long r_5), (16, .int v16)]) hx hb dX9_compare_109 hl (by decide) rfl (fun ls hl => ?_)
            refine lv_iconst (v := 0) hx hb dX9_compare_111 (by decide) ?_
            refine lv_iload hx hb dX9_compare_112 (lv_at hl 8 rfl) ?_
            refine lv_isub (x := 0) (y := v16) hx hb dX9_compare_114 ?_
            refine lv_topi (fun x_12 ex_12 => ?_)
            have hf := bindv_eq hf x_12 ex_12
            refine lv_istore (lv' := [(16, .int x_12), (14, .long x_11), (12, .long v14), (10, .long x_10), (8, .long v10), (23, .long x_11), (21, .long x_10), (19, .long r_7), (17, .long r_5)]) hx hb dX9_compare_115 hl (by decide) rfl (fun ls hl => ?_)
            refine lv_goto (tgt := 17) hx hb dX9_compare_117 (by decide) ?_
            exact ih v10 x_10 v14 x_11 x_12 H locs ls w (lv_sub hl [4, 3, 2, 1, 0] rfl) hf
          · have hf := if_f hf c_9
            refine lv_lload hx hb dX9_compare_57 (lv_at hl 1 rfl) ?_
            refine lv_lload hx hb dX9_compare_59 (lv_at hl 0 rfl) ?_
            refine W.lcmp hx hb dX9_compare_61 ?_
            refine lv_if_ge (x := (lg_cmp r_5 r_7)) (tgt := 72) hx hb dX9_compare_62 (by decide) (fun c_13 => ?_) (fun c_13 => ?_)
            · have hf := if_t hf c_13
              refine lv_iload hx hb dX9_compare_72 (lv_at hl 6 rfl) ?_
              have hf : some v16 = some r0 := hf
              have q0 := so1 hf
              subst q0
              exact retI B hr hk w dX9_compare_74
            · have hf := if_f hf c_13
              refine lv_iconst (v := 0) hx hb dX9_compare_65 (by decide) ?_
              refine lv_iload hx hb dX9_compare_66 (lv_at hl 6 rfl) ?_
              refine lv_isub (x := 0) (y := v16) hx hb dX9_compare_68 ?_
              refine lv_goto (tgt := 74) hx hb dX9_compare_69 (by decide) ?_
              have hf : some (0 - v16) = some r0 := hf
              have q0 := so1 hf
              subst q0
              exact retI B hr hk w dX9_compare_74
  unfold f_X9_compare at hf
  refine (show ∀ (H : Heap) (locs : List Loc), Wd E A s [] H locs → W p l e ({ frames := 1, cells := 0, slots := 0, locals := 25 } : Room) s m args below meth c H locs 0 0 (MQ below (Qi E A [] r0) args s 0 0 A) (F0 m 0 ls []) from ?_) s.heap [] w
  intro H locs w
  refine lv_lload_n hx hb dX9_compare_0 rfl (lv_at hl 0 rfl) ?_
  refine lv_lstore (lv' := [(8, .long v0), (0, .long v0), (2, .long v2), (4, .long v4), (6, .long v6)]) hx hb dX9_compare_1 hl (by decide) rfl (fun ls hl => ?_)
  refine lv_lload_n hx hb dX9_compare_3 rfl (lv_at hl 2 rfl) ?_
  refine lv_lstore (lv' := [(10, .long v2), (8, .long v0), (0, .long v0), (2, .long v2), (4, .long v4), (6, .long v6)]) hx hb dX9_compare_4 hl (by decide) rfl (fun ls hl => ?_)
  refine lv_lload hx hb dX9_compare_6 (lv_at hl 4 rfl) ?_
  refine lv_lstore (lv' := [(12, .long v4), (10, .long v2), (8, .long v0), (0, .long v0), (2, .long v2), (4, .long v4), (6, .long v6)]) hx hb dX9_compare_8 hl (by decide) rfl (fun ls hl => ?_)
  refine lv_lload hx hb dX9_compare_10 (lv_at hl 6 rfl) ?_
  refine lv_lstore (lv' := [(14, .long v6), (12, .long v4), (10, .long v2), (8, .long v0), (0, .long v0), (2, .long v2), (4, .long v4), (6, .long v6)]) hx hb dX9_compare_12 hl (by decide) rfl (fun ls hl => ?_)
  refine lv_iconst (v := 1) hx hb dX9_compare_14 (by decide) ?_
  refine lv_istore (lv' := [(16, .int 1), (14, .long v6), (12, .long v4), (10, .long v2), (8, .long v0), (0, .long v0), (2, .long v2), (4, .long v4), (6, .long v6)]) hx hb dX9_compare_15 hl (by decide) rfl (fun ls hl => ?_)
  exact J17  5000 v0 v2 v4 v6 1 H locs ls w (lv_sub hl [4, 3, 2, 1, 0] rfl) hf
def f_X9_gainOf (fl : Nat → Int64) (ar : Nat → Nat → Int32) (v1 : Int32) (v2 : Int32) (v3 : Int32) : Option (Int32 × (Nat → Int64)) := bind1 (f_X9_findOther fl ar v1 (v1 - v1 / 16 * 16) v3) (fun fl_1 => bindv ((fl_1 2) : Int64) (fun x_3 => bindv ((fl_1 3) : Int64) (fun x_4 => bind1 (f_X9_findOther fl_1 ar v1 v2 v3) (fun fl_5 => bind1 (f_X9_compare (fl_5 2) (fl_5 3) x_3 x_4) (fun r_7 => some (r_7, fl_5))))))
set_option maxHeartbeats 4000000 in
set_option maxRecDepth 100000 in
theorem c_X9_gainOf (l : Launch) (D : va_G) (ca : Nat → ClassId) (ak av ad : Nat → Nat) (fi : Nat → Int32) (fl : Nat → Int64) (ar : Nat → Nat → Int32) (v1 : Int32) (v2 : Int32) (v3 : Int32) {r0 : Int32} {fl0 : Nat → Int64} (hf : f_X9_gainOf fl ar v1 v2 v3 = some (r0, fl0)) : MtI l yX9_gainOf cX9_gainOf 8 { frames := 3, cells := 0, slots := 0, locals := 92 } (EM D ca ak av) [.ref (ad 0), .int v1, .int v2, .int v3] (wM ad ca fi fl ar) (wM ad ca fi fl0 ar) r0 := by
  refine MtI.of (own := RX9) (by decide +kernel) rfl (Nat.le_of_ble_eq_true rfl) ?_
  intro p e s m args below meth c A B hr hk w ls hl
  have hx := B.1.1
  have hb := B.1.2.1
  have hown := B.1.2.2.2.1
  have hts := B.1.2.2.2.2
  have hl : lv_has ls 8 [(0, .ref (ad 0)), (1, .int v1), (2, .int v2), (3, .int v3)] := hl
  unfold f_X9_gainOf at hf
  refine (show ∀ (H : Heap) (locs : List Loc), Wd (EM D ca ak av) A s (wM ad ca fi fl ar) H locs → W p l e ({ frames := 3, cells := 0, slots := 0, locals := 92 } : Room) s m args below meth c H locs 0 0 (MQ below (Qi (EM D ca ak av) A (wM ad ca fi fl0 ar) r0) args s 0 0 A) (F0 m 0 ls []) from ?_) s.heap [] w
  intro H locs w
  refine lv_aload_n hx hb dX9_gainOf_0 rfl (lv_at hl 0 rfl) ?_
  refine lv_iload_n hx hb dX9_gainOf_1 rfl (lv_at hl 1 rfl) ?_
  refine lv_iload_n hx hb dX9_gainOf_2 rfl (lv_at hl 1 rfl) ?_
  refine lv_bipush (v := 16) hx hb dX9_gainOf_3 (by decide) ?_
  refine lv_irem (x := v1) (y := 16) hx hb dX9_gainOf_5 (by decide) ?_
  refine lv_iload_n hx hb dX9_gainOf_6 rfl (lv_at hl 3 rfl) ?_
  obtain ⟨fl_1, er_2, hf⟩ := bind1_eq hf
  refine callVV (As := [.int v1, .int (v1 - v1 / 16 * 16), .int v3]) (rest := []) B w (c_X9_findOther l D ca ak av ad fi fl ar v1 (v1 - v1 / 16 * 16) v3 er_2) (gV kt4_226 kt4_228 kp2_7 kt1_11 kt4_229) hdV_X9_findOther 0 rfl rfl rfl rfl ⟨Nat.le_of_ble_eq_true rfl, Nat.le_of_ble_eq_true rfl⟩ rfl hl.1 rfl (Nat.le_of_ble_eq_true rfl) dX9_gainOf_7 ⟨Nat.le_of_ble_eq_true rfl, Nat.le_of_ble_eq_true rfl⟩ (fun H locs w => ?_)
  refine lv_aload_n hx hb dX9_gainOf_10 rfl (lv_at hl 0 rfl) ?_
  refine gfM_0_17 B w kt4_42 dX9_gainOf_11 ?_
  refine lv_topl (fun x_3 ex_3 => ?_)
  have hf := bindv_eq hf x_3 ex_3
  refine lv_lstore (lv' := [(4, .long x_3), (0, .ref (ad 0)), (1, .int v1), (2, .int v2), (3, .int v3)]) hx hb dX9_gainOf_14 hl (by decide) rfl (fun ls hl => ?_)
  refine lv_aload_n hx hb dX9_gainOf_16 rfl (lv_at hl 1 rfl) ?_
  refine gfM_0_18 B w kt4_43 dX9_gainOf_17 ?_
  refine lv_topl (fun x_4 ex_4 => ?_)
  have hf := bindv_eq hf x_4 ex_4
  refine lv_lstore (lv' := [(6, .long x_4), (4, .long x_3), (0, .ref (ad 0)), (1, .int v1), (2, .int v2), (3, .int v3)]) hx hb dX9_gainOf_20 hl (by decide) rfl (fun ls hl => ?_)
  refine lv_aload_n hx hb dX9_gainOf_22 rfl (lv_at hl 2 rfl) ?_
  refine lv_iload_n hx hb dX9_gainOf_23 rfl (lv_at hl 3 rfl) ?_
  refine lv_iload_n hx hb dX9_gainOf_24 rfl (lv_at hl 4 rfl) ?_
  refine lv_iload_n hx hb dX9_gainOf_25 rfl (lv_at hl 5 rfl) ?_
  obtain ⟨fl_5, er_6, hf⟩ := bind1_eq hf
  refine callVV (As := [.int v1, .int v2, .int v3]) (rest := []) B w (c_X9_findOther l D ca ak av ad fi fl_1 ar v1 v2 v3 er_6) (gV kt4_226 kt4_228 kp2_7 kt1_11 kt4_229) hdV_X9_findOther 0 rfl rfl rfl rfl ⟨Nat.le_of_ble_eq_true rfl, Nat.le_of_ble_eq_true rfl⟩ rfl hl.1 rfl (Nat.le_of_ble_eq_true rfl) dX9_gainOf_26 ⟨Nat.le_of_ble_eq_true rfl, Nat.le_of_ble_eq_true rfl⟩ (fun H locs w => ?_)
  refine lv_aload_n hx hb dX9_gainOf_29 rfl (lv_at hl 2 rfl) ?_
  refine gfM_0_17 B w kt4_42 dX9_gainOf_30 ?_
  refine lv_aload_n hx hb dX9_gainOf_33 rfl (lv_at hl 2 rfl) ?_
  refine gfM_0_18 B w kt4_43 dX9_gainOf_34 ?_
  refine lv_lload hx hb dX9_gainOf_37 (lv_at hl 1 rfl) ?_
  refine lv_lload hx hb dX9_gainOf_39 (lv_at hl 0 rfl) ?_
  obtain ⟨r_7, er_8, hf⟩ := bind1_eq hf
  refine callSI (As := [.long (fl_5 2), .long (fl_5 3), .long x_3, .long x_4]) (rest := []) B w (c_X9_compare l _ (fl_5 2) (fl_5 3) x_3 x_4 er_8) (gS kt5_2 kt5_3 kt1_11 kt5_4) hdS_X9_compare rfl rfl ⟨Nat.le_of_ble_eq_true rfl, Nat.le_of_ble_eq_true rfl⟩ rfl hl.1 rfl (Nat.le_of_ble_eq_true rfl) dX9_gainOf_41 ⟨Nat.le_of_ble_eq_true rfl, Nat.le_of_ble_eq_true rfl⟩ (fun H locs w => ?_)
  have hf : some (r_7, fl_5) = some (r0, fl0) := hf
  obtain ⟨q0, q1⟩ := so2 hf
  subst q0
  subst q1
  exact retI B hr hk w dX9_gainOf_44
def f_X9_gain (fl : Nat → Int64) (ar : Nat → Nat → Int32) (v1 : Int32) (v2 : Int32) (v3 : Int32) : Option (Int32 × (Nat → Int64)) := bindv (f_X9_isRule v1) (fun r_1 => if (r_1 = 0 : Prop) then (some ((-1002), fl)) else (bindv (f_X9_in (Int32.toInt64 v2) 0 15) (fun r_4 => if (r_4 = 0 : Prop) then (some ((-1002), fl)) else (bindv (f_X9_isShare v3) (fun r_7 => if (r_7 = 0 : Prop) then (some ((-1002), fl)) else (bind2 (f_X9_gainOf fl ar v1 v2 v3) (fun r_10 fl_11 => some (r_10, fl_11))))))))
set_option maxHeartbeats 4000000 in
set_option maxRecDepth 100000 in
theorem c_X9_gain (l : Launch) (D : va_G) (ca : Nat → ClassId) (ak av ad : Nat → Nat) (fi : Nat → Int32) (fl : Nat → Int64) (ar : Nat → Nat → Int32) (v1 : Int32) (v2 : Int32) (v3 : Int32) {r0 : Int32} {fl0 : Nat → Int64} (hf : f_X9_gain fl ar v1 v2 v3 = some (r0, fl0)) : MtI l yX9_gain cX9_gain 4 { frames := 4, cells := 0, slots := 0, locals := 119 } (EM D ca ak av) [.ref (ad 0), .int v1, .int v2, .int v3] (wM ad ca fi fl ar) (wM ad ca fi fl0 ar) r0 := by
  refine MtI.of (own := RX9) (by decide +kernel) rfl (Nat.le_of_ble_eq_true rfl) ?_
  intro p e s m args below meth c A B hr hk w ls hl
  have hx := B.1.1
  have hb := B.1.2.1
  have hown := B.1.2.2.2.1
  have hts := B.1.2.2.2.2
  have hl : lv_has ls 4 [(0, .ref (ad 0)), (1, .int v1), (2, .int v2), (3, .int v3)] := hl
  unfold f_X9_gain at hf
  refine (show ∀ (H : Heap) (locs : List Loc), Wd (EM D ca ak av) A s (wM ad ca fi fl ar) H locs → W p l e ({ frames := 4, cells := 0, slots := 0, locals := 119 } : Room) s m args below meth c H locs 0 0 (MQ below (Qi (EM D ca ak av) A (wM ad ca fi fl0 ar) r0) args s 0 0 A) (F0 m 0 ls []) from ?_) s.heap [] w
  intro H locs w
  refine lv_iload_n hx hb dX9_gain_0 rfl (lv_at hl 1 rfl) ?_
  obtain ⟨r_1, er_2⟩ : ∃ y, f_X9_isRule v1 = y := ⟨_, rfl⟩
  have hf := bindv_eq hf r_1 er_2.symm
  refine callSZ (As := [.int v1]) (rest := []) B w (c_X9_isRule l _ v1 er_2) (gS kt4_164 kt4_165 kt1_11 kt4_166) hdS_X9_isRule rfl rfl ⟨Nat.le_of_ble_eq_true rfl, Nat.le_of_ble_eq_true rfl⟩ rfl hl.1 rfl (Nat.le_of_ble_eq_true rfl) dX9_gain_1 ⟨Nat.le_of_ble_eq_true rfl, Nat.le_of_ble_eq_true rfl⟩ (fun H locs w hzr_1 => ?_)
  refine lv_if_eq (x := r_1) (tgt := 36) hx hb dX9_gain_4 (by decide) (fun c_3 => ?_) (fun c_3 => ?_)
  · have hf := if_t hf c_3
    refine lv_sipush (v := (-1002)) hx hb dX9_gain_36 (by decide) ?_
    have hf : some ((-1002), fl) = some (r0, fl0) := hf
    obtain ⟨q0, q1⟩ := so2 hf
    subst q0
    subst q1
    exact retI B hr hk w dX9_gain_39
  · have hf := if_f hf c_3
    refine lv_iload_n hx hb dX9_gain_7 rfl (lv_at hl 2 rfl) ?_
    refine lv_i2l hx hb dX9_gain_8 rfl ?_
    refine lv_lconst (v := 0) hx hb dX9_gain_9 (by decide) ?_
    refine lv_ldc2 (own := RX9) (v := 15) hx hb hown (hts _ kt4_223) dX9_gain_10 ?_
    obtain ⟨r_4, er_5⟩ : ∃ y, f_X9_in (Int32.toInt64 v2) 0 15 = y := ⟨_, rfl⟩
    have hf := bindv_eq hf r_4 er_5.symm
    refine callSZ (As := [.long (Int32.toInt64 v2), .long 0, .long 15]) (rest := []) B w (c_X9_in l _ (Int32.toInt64 v2) 0 15 er_5) (gS kt4_95 kt4_96 kt1_11 kt4_97) hdS_X9_in rfl rfl ⟨Nat.le_of_ble_eq_true rfl, Nat.le_of_ble_eq_true rfl⟩ rfl hl.1 rfl (Nat.le_of_ble_eq_true rfl) dX9_gain_13 ⟨Nat.le_of_ble_eq_true rfl, Nat.le_of_ble_eq_true rfl⟩ (fun H locs w hzr_4 => ?_)
    refine lv_if_eq (x := r_4) (tgt := 36) hx hb dX9_gain_16 (by decide) (fun c_6 => ?_) (fun c_6 => ?_)
    · have hf := if_t hf c_6
      refine lv_sipush (v := (-1002)) hx hb dX9_gain_36 (by decide) ?_
      have hf : some ((-1002), fl) = some (r0, fl0) := hf
      obtain ⟨q0, q1⟩ := so2 hf
      subst q0
      subst q1
      exact retI B hr hk w dX9_gain_39
    · have hf := if_f hf c_6
      refine lv_iload_n hx hb dX9_gain_19 rfl (lv_at hl 3 rfl) ?_
      obtain ⟨r_7, er_8⟩ : ∃ y, f_X9_isShare v3 = y := ⟨_, rfl⟩
      have hf := bindv_eq hf r_7 er_8.symm
      refine callSZ (As := [.int v3]) (rest := []) B w (c_X9_isShare l _ v3 er_8) (gS kt4_182 kt4_183 kt1_11 kt4_184) hdS_X9_isShare rfl rfl ⟨Nat.le_of_ble_eq_true rfl, Nat.le_of_ble_eq_true rfl⟩ rfl hl.1 rfl (Nat.le_of_ble_eq_true rfl) dX9_gain_20 ⟨Nat.le_of_ble_eq_true rfl, Nat.le_of_ble_eq_true rfl⟩ (fun H locs w hzr_7 => ?_)
      refine lv_if_eq (x := r_7) (tgt := 36) hx hb dX9_gain_23 (by decide) (fun c_9 => ?_) (fun c_9 => ?_)
      · have hf := if_t hf c_9
        refine lv_sipush (v := (-1002)) hx hb dX9_gain_36 (by decide) ?_
        have hf : some ((-1002), fl) = some (r0, fl0) := hf
        obtain ⟨q0, q1⟩ := so2 hf
        subst q0
        subst q1
        exact retI B hr hk w dX9_gain_39
      · have hf := if_f hf c_9
        refine lv_aload_n hx hb dX9_gain_26 rfl (lv_at hl 0 rfl) ?_
        refine lv_iload_n hx hb dX9_gain_27 rfl (lv_at hl 1 rfl) ?_
        refine lv_iload_n hx hb dX9_gain_28 rfl (lv_at hl 2 rfl) ?_
        refine lv_iload_n hx hb dX9_gain_29 rfl (lv_at hl 3 rfl) ?_
        obtain ⟨r_10, fl_11, er_12, hf⟩ := bind2_eq hf
        refine callVI (As := [.int v1, .int v2, .int v3]) (rest := []) B w (c_X9_gainOf l D ca ak av ad fi fl ar v1 v2 v3 er_12) (gV kt4_238 kt5_0 kp2_8 kt1_11 kt5_1) hdV_X9_gainOf 0 rfl rfl rfl rfl ⟨Nat.le_of_ble_eq_true rfl, Nat.le_of_ble_eq_true rfl⟩ rfl hl.1 rfl (Nat.le_of_ble_eq_true rfl) dX9_gain_30 ⟨Nat.le_of_ble_eq_true rfl, Nat.le_of_ble_eq_true rfl⟩ (fun H locs w => ?_)
        refine lv_goto (tgt := 39) hx hb dX9_gain_33 (by decide) ?_
        have hf : some (r_10, fl_11) = some (r0, fl0) := hf
        obtain ⟨q0, q1⟩ := so2 hf
        subst q0
        subst q1
        exact retI B hr hk w dX9_gain_39
def f_X9_holdsOf_19   : Nat → (Int32) → (Int32) → (Nat → Int32) → (Nat → Int64) → (Nat → Nat → Int32) → Option (Int32 × (Nat → Int32) × (Nat → Int64) × (Nat → Nat → Int32))
  | 0, _, _, _, _, _ => none
  | n + 1, v1, v2, fi, fl, ar => if (16 ≤ v2 : Prop) then (some (1, fi, fl, ar)) else (bind2 (f_X9_gainOf fl ar v1 v2 (fi 8)) (fun r_2 fl_3 => if (r_2 ≤ 0 : Prop) then (bindv (v2 + 1 : Int32) (fun x_6 => (f_X9_holdsOf_19 n) v1 x_6 fi fl_3 ar)) else (some (((-2) - v2), fi, fl_3, ar))))
def f_X9_holdsOf (fi : Nat → Int32) (fl : Nat → Int64) (ar : Nat → Nat → Int32) (v1 : Int32) : Option (Int32 × (Nat → Int32) × (Nat → Int64) × (Nat → Nat → Int32)) := bind2 (f_X9_goFrom fi ar v1 500) (fun fi_7 ar_8 => if (0 ≤ (fi_7 8) : Prop) then (f_X9_holdsOf_19  5000 v1 0 fi_7 fl ar_8) else (some (0, fi_7, fl, ar_8)))
set_option maxHeartbeats 4000000 in
set_option maxRecDepth 100000 in
theorem c_X9_holdsOf (l : Launch) (D : va_G) (ca : Nat → ClassId) (ak av ad : Nat → Nat) (fi : Nat → Int32) (fl : Nat → Int64) (ar : Nat → Nat → Int32) (v1 : Int32) {r0 : Int32} {fi0 : Nat → Int32} {fl0 : Nat → Int64} {ar0 : Nat → Nat → Int32} (hf : f_X9_holdsOf fi fl ar v1 = some (r0, fi0, fl0, ar0)) : MtI l yX9_holdsOf cX9_holdsOf 3 { frames := 4, cells := 0, slots := 0, locals := 119 } (EM D ca ak av) [.ref (ad 0), .int v1] (wM ad ca fi fl ar) (wM ad ca fi0 fl0 ar0) r0 := by
  refine MtI.of (own := RX9) (by decide +kernel) rfl (Nat.le_of_ble_eq_true rfl) ?_
  intro p e s m args below meth c A B hr hk w ls hl
  have hx := B.1.1
  have hb := B.1.2.1
  have hown := B.1.2.2.2.1
  have hts := B.1.2.2.2.2
  have hl : lv_has ls 3 [(0, .ref (ad 0)), (1, .int v1)] := hl
  have J19 : ∀ (n : Nat) (v1 : Int32) (v2 : Int32) (fi : Nat → Int32) (fl : Nat → Int64) (ar : Nat → Nat → Int32) (H : Heap) (locs : List Loc) (ls : Array Slot), Wd (EM D ca ak av) A s (wM ad ca fi fl ar) H locs → lv_has ls 3 [(0, .ref (ad 0)), (1, .int v1), (2, .int v2)] → f_X9_holdsOf_19  n v1 v2 fi fl ar = some (r0, fi0, fl0, ar0) → W p l e ({ frames := 4, cells := 0, slots := 0, locals := 119 } : Room) s m args below meth c H locs 0 0 (MQ below (Qi (EM D ca ak av) A (wM ad ca fi0 fl0 ar0) r0) args s 0 0 A) (F0 m 19 ls []) := by
    intro  n
    induction n with
    | zero =>
      intro v1 v2 fi fl ar H locs ls w hl hf
      cases hf
    | succ n ih =>
      intro v1 v2 fi fl ar H locs ls w hl hf
      rw [f_X9_holdsOf_19] at hf
      refine lv_iload_n hx hb dX9_holdsOf_19 rfl (lv_at hl 2 rfl) ?_
      refine lv_bipush (v := 16) hx hb dX9_holdsOf_20 (by decide) ?_
      refine lv_icmp_ge (x := v2) (y := 16) (tgt := 49) hx hb dX9_holdsOf_22 (by decide) (fun c_1 => ?_) (fun c_1 => ?_)
      · have hf := if_t hf c_1
        refine lv_iconst (v := 1) hx hb dX9_holdsOf_49 (by decide) ?_
        have hf : some (1, fi, fl, ar) = some (r0, fi0, fl0, ar0) := hf
        obtain ⟨q0, q1, q2, q3⟩ := so4 hf
        subst q0
        subst q1
        subst q2
        subst q3
        exact retI B hr hk w dX9_holdsOf_50
      · have hf := if_f hf c_1
        refine lv_aload_n hx hb dX9_holdsOf_25 rfl (lv_at hl 0 rfl) ?_
        refine lv_iload_n hx hb dX9_holdsOf_26 rfl (lv_at hl 1 rfl) ?_
        refine lv_iload_n hx hb dX9_holdsOf_27 rfl (lv_at hl 2 rfl) ?_
        refine lv_aload_n hx hb dX9_holdsOf_28 rfl (lv_at hl 0 rfl) ?_
        refine gfM_0_12 B w kt4_37 dX9_holdsOf_29 ?_
        obtain ⟨r_2, fl_3, er_4, hf⟩ := bind2_eq hf
        refine callVI (As := [.int v1, .int v2, .int (fi 8)]) (rest := []) B w (c_X9_gainOf l D ca ak av ad fi fl ar v1 v2 (fi 8) er_4) (gV kt4_238 kt5_0 kp2_8 kt1_11 kt5_1) hdV_X9_gainOf 0 rfl rfl rfl rfl ⟨Nat.le_of_ble_eq_true rfl, Nat.le_of_ble_eq_true rfl⟩ rfl hl.1 rfl (Nat.le_of_ble_eq_true rfl) dX9_holdsOf_32 ⟨Nat.le_of_ble_eq_true rfl, Nat.le_of_ble_eq_true rfl⟩ (fun H locs w => ?_)
        refine lv_if_le (x := r_2) (tgt := 43) hx hb dX9_holdsOf_35 (by decide) (fun c_5 => ?_) (fun c_5 => ?_)
        · have hf := if_t hf c_5
          obtain ⟨x_6, ex_6⟩ : ∃ y : Int32, y = v2 + 1 := ⟨_, rfl⟩
          have hf := bindv_eq hf x_6 ex_6
          refine lv_iinc (v := x_6) (lv' := [(2, .int x_6), (0, .ref (ad 0)), (1, .int v1)]) hx hb dX9_holdsOf_43 hl (k := 2) rfl (by rw [ex_6]; rfl) (by decide) rfl (fun ls hl => ?_)
          refine lv_goto (tgt := 19) hx hb dX9_holdsOf_46 (by decide) ?_
          exact ih v1 x_6 fi fl_3 ar H locs ls w (lv_sub hl [1, 2, 0] rfl) hf
        · have hf := if_f hf c_5
          refine lv_bipush (v := (-2)) hx hb dX9_holdsOf_38 (by decide) ?_
          refine lv_iload_n hx hb dX9_holdsOf_40 rfl (lv_at hl 2 rfl) ?_
          refine lv_isub (x := (-2)) (y := v2) hx hb dX9_holdsOf_41 ?_
          have hf : some (((-2) - v2), fi, fl_3, ar) = some (r0, fi0, fl0, ar0) := hf
          obtain ⟨q0, q1, q2, q3⟩ := so4 hf
          subst q0
          subst q1
          subst q2
          subst q3
          exact retI B hr hk w dX9_holdsOf_42
  unfold f_X9_holdsOf at hf
  refine (show ∀ (H : Heap) (locs : List Loc), Wd (EM D ca ak av) A s (wM ad ca fi fl ar) H locs → W p l e ({ frames := 4, cells := 0, slots := 0, locals := 119 } : Room) s m args below meth c H locs 0 0 (MQ below (Qi (EM D ca ak av) A (wM ad ca fi0 fl0 ar0) r0) args s 0 0 A) (F0 m 0 ls []) from ?_) s.heap [] w
  intro H locs w
  refine lv_aload_n hx hb dX9_holdsOf_0 rfl (lv_at hl 0 rfl) ?_
  refine lv_iload_n hx hb dX9_holdsOf_1 rfl (lv_at hl 1 rfl) ?_
  refine lv_sipush (v := 500) hx hb dX9_holdsOf_2 (by decide) ?_
  obtain ⟨fi_7, ar_8, er_9, hf⟩ := bind2_eq hf
  refine callVV (As := [.int v1, .int 500]) (rest := []) B w (c_X9_goFrom l D ca ak av ad fi fl ar v1 500 er_9) (gV kt4_203 kt4_205 kp2_5 kt1_11 kt4_206) hdV_X9_goFrom 0 rfl rfl rfl rfl ⟨Nat.le_of_ble_eq_true rfl, Nat.le_of_ble_eq_true rfl⟩ rfl hl.1 rfl (Nat.le_of_ble_eq_true rfl) dX9_holdsOf_5 ⟨Nat.le_of_ble_eq_true rfl, Nat.le_of_ble_eq_true rfl⟩ (fun H locs w => ?_)
  refine lv_aload_n hx hb dX9_holdsOf_8 rfl (lv_at hl 0 rfl) ?_
  refine gfM_0_12 B w kt4_37 dX9_holdsOf_9 ?_
  refine lv_if_ge (x := (fi_7 8)) (tgt := 17) hx hb dX9_holdsOf_12 (by decide) (fun c_10 => ?_) (fun c_10 => ?_)
  · have hf := if_t hf c_10
    refine lv_iconst (v := 0) hx hb dX9_holdsOf_17 (by decide) ?_
    refine lv_istore_n (lv' := [(2, .int 0), (0, .ref (ad 0)), (1, .int v1)]) hx hb dX9_holdsOf_18 rfl hl (by decide) rfl (fun ls hl => ?_)
    exact J19  5000 v1 0 fi_7 fl ar_8 H locs ls w (lv_sub hl [1, 2, 0] rfl) hf
  · have hf := if_f hf c_10
    refine lv_iconst (v := 0) hx hb dX9_holdsOf_15 (by decide) ?_
    have hf : some (0, fi_7, fl, ar_8) = some (r0, fi0, fl0, ar0) := hf
    obtain ⟨q0, q1, q2, q3⟩ := so4 hf
    subst q0
    subst q1
    subst q2
    subst q3
    exact retI B hr hk w dX9_holdsOf_16
def f_X9_holds (fi : Nat → Int32) (fl : Nat → Int64) (ar : Nat → Nat → Int32) (v1 : Int32) : Option (Int32 × (Nat → Int32) × (Nat → Int64) × (Nat → Nat → Int32)) := bindv (f_X9_isRule v1) (fun r_1 => if (r_1 = 0 : Prop) then (some ((-1002), fi, fl, ar)) else (bind4 (f_X9_holdsOf fi fl ar v1) (fun r_4 fi_5 fl_6 ar_7 => some (r_4, fi_5, fl_6, ar_7))))
set_option maxHeartbeats 4000000 in
set_option maxRecDepth 100000 in
theorem c_X9_holds (l : Launch) (D : va_G) (ca : Nat → ClassId) (ak av ad : Nat → Nat) (fi : Nat → Int32) (fl : Nat → Int64) (ar : Nat → Nat → Int32) (v1 : Int32) {r0 : Int32} {fi0 : Nat → Int32} {fl0 : Nat → Int64} {ar0 : Nat → Nat → Int32} (hf : f_X9_holds fi fl ar v1 = some (r0, fi0, fl0, ar0)) : MtI l yX9_holds cX9_holds 2 { frames := 5, cells := 0, slots := 0, locals := 141 } (EM D ca ak av) [.ref (ad 0), .int v1] (wM ad ca fi fl ar) (wM ad ca fi0 fl0 ar0) r0 := by
  refine MtI.of (own := RX9) (by decide +kernel) rfl (Nat.le_of_ble_eq_true rfl) ?_
  intro p e s m args below meth c A B hr hk w ls hl
  have hx := B.1.1
  have hb := B.1.2.1
  have hown := B.1.2.2.2.1
  have hts := B.1.2.2.2.2
  have hl : lv_has ls 2 [(0, .ref (ad 0)), (1, .int v1)] := hl
  unfold f_X9_holds at hf
  refine (show ∀ (H : Heap) (locs : List Loc), Wd (EM D ca ak av) A s (wM ad ca fi fl ar) H locs → W p l e ({ frames := 5, cells := 0, slots := 0, locals := 141 } : Room) s m args below meth c H locs 0 0 (MQ below (Qi (EM D ca ak av) A (wM ad ca fi0 fl0 ar0) r0) args s 0 0 A) (F0 m 0 ls []) from ?_) s.heap [] w
  intro H locs w
  refine lv_iload_n hx hb dX9_holds_0 rfl (lv_at hl 1 rfl) ?_
  obtain ⟨r_1, er_2⟩ : ∃ y, f_X9_isRule v1 = y := ⟨_, rfl⟩
  have hf := bindv_eq hf r_1 er_2.symm
  refine callSZ (As := [.int v1]) (rest := []) B w (c_X9_isRule l _ v1 er_2) (gS kt4_164 kt4_165 kt1_11 kt4_166) hdS_X9_isRule rfl rfl ⟨Nat.le_of_ble_eq_true rfl, Nat.le_of_ble_eq_true rfl⟩ rfl hl.1 rfl (Nat.le_of_ble_eq_true rfl) dX9_holds_1 ⟨Nat.le_of_ble_eq_true rfl, Nat.le_of_ble_eq_true rfl⟩ (fun H locs w hzr_1 => ?_)
  refine lv_if_eq (x := r_1) (tgt := 15) hx hb dX9_holds_4 (by decide) (fun c_3 => ?_) (fun c_3 => ?_)
  · have hf := if_t hf c_3
    refine lv_sipush (v := (-1002)) hx hb dX9_holds_15 (by decide) ?_
    have hf : some ((-1002), fi, fl, ar) = some (r0, fi0, fl0, ar0) := hf
    obtain ⟨q0, q1, q2, q3⟩ := so4 hf
    subst q0
    subst q1
    subst q2
    subst q3
    exact retI B hr hk w dX9_holds_18
  · have hf := if_f hf c_3
    refine lv_aload_n hx hb dX9_holds_7 rfl (lv_at hl 0 rfl) ?_
    refine lv_iload_n hx hb dX9_holds_8 rfl (lv_at hl 1 rfl) ?_
    obtain ⟨r_4, fi_5, fl_6, ar_7, er_8, hf⟩ := bind4_eq hf
    refine callVI (As := [.int v1]) (rest := []) B w (c_X9_holdsOf l D ca ak av ad fi fl ar v1 er_8) (gV kt5_12 kt5_14 kp2_9 kt1_11 kt5_15) hdV_X9_holdsOf 0 rfl rfl rfl rfl ⟨Nat.le_of_ble_eq_true rfl, Nat.le_of_ble_eq_true rfl⟩ rfl hl.1 rfl (Nat.le_of_ble_eq_true rfl) dX9_holds_9 ⟨Nat.le_of_ble_eq_true rfl, Nat.le_of_ble_eq_true rfl⟩ (fun H locs w => ?_)
    refine lv_goto (tgt := 18) hx hb dX9_holds_12 (by decide) ?_
    have hf : some (r_4, fi_5, fl_6, ar_7) = some (r0, fi0, fl0, ar0) := hf
    obtain ⟨q0, q1, q2, q3⟩ := so4 hf
    subst q0
    subst q1
    subst q2
    subst q3
    exact retI B hr hk w dX9_holds_18
def f_X9_isHolding (fi : Nat → Int32) (fl : Nat → Int64) (ar : Nat → Nat → Int32) (v1 : Int32) : Option (Int32 × (Nat → Int32) × (Nat → Int64) × (Nat → Nat → Int32)) := bind4 (f_X9_holdsOf fi fl ar v1) (fun r_1 fi_2 fl_3 ar_4 => if (r_1 = 1 : Prop) then (bind1 (f_X9_helpedBy ar_4 v1 (fi_2 8)) (fun r_7 => if (r_7 ≤ (fi_2 0) : Prop) then (some (0, fi_2, fl_3, ar_4)) else (some (1, fi_2, fl_3, ar_4)))) else (some (0, fi_2, fl_3, ar_4)))
set_option maxHeartbeats 4000000 in
set_option maxRecDepth 100000 in
theorem c_X9_isHolding (l : Launch) (D : va_G) (ca : Nat → ClassId) (ak av ad : Nat → Nat) (fi : Nat → Int32) (fl : Nat → Int64) (ar : Nat → Nat → Int32) (v1 : Int32) {r0 : Int32} {fi0 : Nat → Int32} {fl0 : Nat → Int64} {ar0 : Nat → Nat → Int32} (hf : f_X9_isHolding fi fl ar v1 = some (r0, fi0, fl0, ar0)) : MtZ l yX9_isHolding cX9_isHolding 2 { frames := 5, cells := 0, slots := 0, locals := 141 } (EM D ca ak av) [.ref (ad 0), .int v1] (wM ad ca fi fl ar) (wM ad ca fi0 fl0 ar0) r0 := by
  refine MtZ.of (own := RX9) (by decide +kernel) rfl (Nat.le_of_ble_eq_true rfl) ?_
  intro p e s m args below meth c A B hr hk w ls hl
  have hx := B.1.1
  have hb := B.1.2.1
  have hown := B.1.2.2.2.1
  have hts := B.1.2.2.2.2
  have hl : lv_has ls 2 [(0, .ref (ad 0)), (1, .int v1)] := hl
  unfold f_X9_isHolding at hf
  refine (show ∀ (H : Heap) (locs : List Loc), Wd (EM D ca ak av) A s (wM ad ca fi fl ar) H locs → W p l e ({ frames := 5, cells := 0, slots := 0, locals := 141 } : Room) s m args below meth c H locs 0 0 (MQ below (Qz (EM D ca ak av) A (wM ad ca fi0 fl0 ar0) r0) args s 0 0 A) (F0 m 0 ls []) from ?_) s.heap [] w
  intro H locs w
  refine lv_aload_n hx hb dX9_isHolding_0 rfl (lv_at hl 0 rfl) ?_
  refine lv_iload_n hx hb dX9_isHolding_1 rfl (lv_at hl 1 rfl) ?_
  obtain ⟨r_1, fi_2, fl_3, ar_4, er_5, hf⟩ := bind4_eq hf
  refine callVI (As := [.int v1]) (rest := []) B w (c_X9_holdsOf l D ca ak av ad fi fl ar v1 er_5) (gV kt5_12 kt5_14 kp2_9 kt1_11 kt5_15) hdV_X9_holdsOf 0 rfl rfl rfl rfl ⟨Nat.le_of_ble_eq_true rfl, Nat.le_of_ble_eq_true rfl⟩ rfl hl.1 rfl (Nat.le_of_ble_eq_true rfl) dX9_isHolding_2 ⟨Nat.le_of_ble_eq_true rfl, Nat.le_of_ble_eq_true rfl⟩ (fun H locs w => ?_)
  refine lv_iconst (v := 1) hx hb dX9_isHolding_5 (by decide) ?_
  refine lv_icmp_ne (x := r_1) (y := 1) (tgt := 29) hx hb dX9_isHolding_6 (by decide) (fun c_6 => ?_) (fun c_6 => ?_)
  · have hf := if_f hf c_6
    refine lv_iconst (v := 0) hx hb dX9_isHolding_29 (by decide) ?_
    have hf : some (0, fi_2, fl_3, ar_4) = some (r0, fi0, fl0, ar0) := hf
    obtain ⟨q0, q1, q2, q3⟩ := so4 hf
    subst q0
    subst q1
    subst q2
    subst q3
    exact retZ B hr hk w rfl dX9_isHolding_30
  · have hf := if_t hf c_6
    refine lv_aload_n hx hb dX9_isHolding_9 rfl (lv_at hl 0 rfl) ?_
    refine lv_iload_n hx hb dX9_isHolding_10 rfl (lv_at hl 1 rfl) ?_
    refine lv_aload_n hx hb dX9_isHolding_11 rfl (lv_at hl 0 rfl) ?_
    refine gfM_0_12 B w kt4_37 dX9_isHolding_12 ?_
    obtain ⟨r_7, er_8, hf⟩ := bind1_eq hf
    refine callVI (As := [.int v1, .int (fi_2 8)]) (rest := []) B w (c_X9_helpedBy l D ca ak av ad fi_2 fl_3 ar_4 v1 (fi_2 8) er_8) (gV kt4_211 kt4_213 kp2_6 kt1_11 kt4_214) hdV_X9_helpedBy 0 rfl rfl rfl rfl ⟨Nat.le_of_ble_eq_true rfl, Nat.le_of_ble_eq_true rfl⟩ rfl hl.1 rfl (Nat.le_of_ble_eq_true rfl) dX9_isHolding_15 ⟨Nat.le_of_ble_eq_true rfl, Nat.le_of_ble_eq_true rfl⟩ (fun H locs w => ?_)
    refine lv_aload_n hx hb dX9_isHolding_18 rfl (lv_at hl 0 rfl) ?_
    refine gfM_0_2 B w kt4_27 dX9_isHolding_19 ?_
    refine lv_icmp_le (x := r_7) (y := (fi_2 0)) (tgt := 29) hx hb dX9_isHolding_22 (by decide) (fun c_9 => ?_) (fun c_9 => ?_)
    · have hf := if_t hf c_9
      refine lv_iconst (v := 0) hx hb dX9_isHolding_29 (by decide) ?_
      have hf : some (0, fi_2, fl_3, ar_4) = some (r0, fi0, fl0, ar0) := hf
      obtain ⟨q0, q1, q2, q3⟩ := so4 hf
      subst q0
      subst q1
      subst q2
      subst q3
      exact retZ B hr hk w rfl dX9_isHolding_30
    · have hf := if_f hf c_9
      refine lv_iconst (v := 1) hx hb dX9_isHolding_25 (by decide) ?_
      refine lv_goto (tgt := 30) hx hb dX9_isHolding_26 (by decide) ?_
      have hf : some (1, fi_2, fl_3, ar_4) = some (r0, fi0, fl0, ar0) := hf
      obtain ⟨q0, q1, q2, q3⟩ := so4 hf
      subst q0
      subst q1
      subst q2
      subst q3
      exact retZ B hr hk w rfl dX9_isHolding_30
def f_X9_all_29  (k4 : Int32 → Int32 → Int32 → (Nat → Int32) → (Nat → Int64) → (Nat → Nat → Int32) → Option (Int32 × (Nat → Int32) × (Nat → Int64) × (Nat → Nat → Int32))) (v1 : Int32) (v2 : Int32) (v3 : Int32) (fi : Nat → Int32) (fl : Nat → Int64) (ar : Nat → Nat → Int32) : Option (Int32 × (Nat → Int32) × (Nat → Int64) × (Nat → Nat → Int32)) := bindv (v3 + 1 : Int32) (fun x_1 => k4 v1 v2 x_1 fi fl ar)
def f_X9_all_4   : Nat → (Int32) → (Int32) → (Int32) → (Nat → Int32) → (Nat → Int64) → (Nat → Nat → Int32) → Option (Int32 × (Nat → Int32) × (Nat → Int64) × (Nat → Nat → Int32))
  | 0, _, _, _, _, _, _ => none
  | n + 1, v1, v2, v3, fi, fl, ar => if (4096 ≤ v3 : Prop) then (if (v1 = (-1) : Prop) then (some (v2, fi, fl, ar)) else (some ((-1), fi, fl, ar))) else (bind4 (f_X9_isHolding fi fl ar v3) (fun r_4 fi_5 fl_6 ar_7 => if (r_4 = 0 : Prop) then (f_X9_all_29 (f_X9_all_4 n) v1 v2 v3 fi_5 fl_6 ar_7) else (if (v2 = v1 : Prop) then (some (v3, fi_5, fl_6, ar_7)) else (bindv (v2 + 1 : Int32) (fun x_11 => f_X9_all_29 (f_X9_all_4 n) v1 x_11 v3 fi_5 fl_6 ar_7)))))
def f_X9_all (fi : Nat → Int32) (fl : Nat → Int64) (ar : Nat → Nat → Int32) (v1 : Int32) : Option (Int32 × (Nat → Int32) × (Nat → Int64) × (Nat → Nat → Int32)) := f_X9_all_4  5000 v1 0 0 fi fl ar
set_option maxHeartbeats 4000000 in
set_option maxRecDepth 100000 in
theorem c_X9_all (l : Launch) (D : va_G) (ca : Nat → ClassId) (ak av ad : Nat → Nat) (fi : Nat → Int32) (fl : Nat → Int64) (ar : Nat → Nat → Int32) (v1 : Int32) {r0 : Int32} {fi0 : Nat → Int32} {fl0 : Nat → Int64} {ar0 : Nat → Nat → Int32} (hf : f_X9_all fi fl ar v1 = some (r0, fi0, fl0, ar0)) : MtI l yX9_all cX9_all 4 { frames := 6, cells := 0, slots := 0, locals := 162 } (EM D ca ak av) [.ref (ad 0), .int v1] (wM ad ca fi fl ar) (wM ad ca fi0 fl0 ar0) r0 := by
  refine MtI.of (own := RX9) (by decide +kernel) rfl (Nat.le_of_ble_eq_true rfl) ?_
  intro p e s m args below meth c A B hr hk w ls hl
  have hx := B.1.1
  have hb := B.1.2.1
  have hown := B.1.2.2.2.1
  have hts := B.1.2.2.2.2
  have hl : lv_has ls 4 [(0, .ref (ad 0)), (1, .int v1)] := hl
  have J29 : ∀ (k4 : Int32 → Int32 → Int32 → (Nat → Int32) → (Nat → Int64) → (Nat → Nat → Int32) → Option (Int32 × (Nat → Int32) × (Nat → Int64) × (Nat → Nat → Int32))) (hk4 : ∀ (v1 : Int32) (v2 : Int32) (v3 : Int32) (fi : Nat → Int32) (fl : Nat → Int64) (ar : Nat → Nat → Int32) (H : Heap) (locs : List Loc) (ls : Array Slot), Wd (EM D ca ak av) A s (wM ad ca fi fl ar) H locs → lv_has ls 4 [(0, .ref (ad 0)), (1, .int v1), (2, .int v2), (3, .int v3)] → k4 v1 v2 v3 fi fl ar = some (r0, fi0, fl0, ar0) → W p l e ({ frames := 6, cells := 0, slots := 0, locals := 162 } : Room) s m args below meth c H locs 0 0 (MQ below (Qi (EM D ca ak av) A (wM ad ca fi0 fl0 ar0) r0) args s 0 0 A) (F0 m 4 ls [])) (v1 : Int32) (v2 : Int32) (v3 : Int32) (fi : Nat → Int32) (fl : Nat → Int64) (ar : Nat → Nat → Int32) (H : Heap) (locs : List Loc) (ls : Array Slot), Wd (EM D ca ak av) A s (wM ad ca fi fl ar) H locs → lv_has ls 4 [(0, .ref (ad 0)), (1, .int v1), (2, .int v2), (3, .int v3)] → f_X9_all_29 k4 v1 v2 v3 fi fl ar = some (r0, fi0, fl0, ar0) → W p l e ({ frames := 6, cells := 0, slots := 0, locals := 162 } : Room) s m args below meth c H locs 0 0 (MQ below (Qi (EM D ca ak av) A (wM ad ca fi0 fl0 ar0) r0) args s 0 0 A) (F0 m 29 ls []) := by
    intro k4 hk4 v1 v2 v3 fi fl ar H locs ls w hl hf
    unfold f_X9_all_29 at hf
    obtain ⟨x_1, ex_1⟩ : ∃ y : Int32, y = v3 + 1 := ⟨_, rfl⟩
    have hf := bindv_eq hf x_1 ex_1
    refine lv_iinc (v := x_1) (lv' := [(3, .int x_1), (0, .ref (ad 0)), (1, .int v1), (2, .int v2)]) hx hb dX9_all_29 hl (k := 3) rfl (by rw [ex_1]; rfl) (by decide) rfl (fun ls hl => ?_)
    refine lv_goto (tgt := 4) hx hb dX9_all_32 (by decide) ?_
    exact hk4 v1 v2 x_1 fi fl ar H locs ls w (lv_sub hl [1, 2, 3, 0] rfl) hf
  have J4 : ∀ (n : Nat) (v1 : Int32) (v2 : Int32) (v3 : Int32) (fi : Nat → Int32) (fl : Nat → Int64) (ar : Nat → Nat → Int32) (H : Heap) (locs : List Loc) (ls : Array Slot), Wd (EM D ca ak av) A s (wM ad ca fi fl ar) H locs → lv_has ls 4 [(0, .ref (ad 0)), (1, .int v1), (2, .int v2), (3, .int v3)] → f_X9_all_4  n v1 v2 v3 fi fl ar = some (r0, fi0, fl0, ar0) → W p l e ({ frames := 6, cells := 0, slots := 0, locals := 162 } : Room) s m args below meth c H locs 0 0 (MQ below (Qi (EM D ca ak av) A (wM ad ca fi0 fl0 ar0) r0) args s 0 0 A) (F0 m 4 ls []) := by
    intro  n
    induction n with
    | zero =>
      intro v1 v2 v3 fi fl ar H locs ls w hl hf
      cases hf
    | succ n ih =>
      intro v1 v2 v3 fi fl ar H locs ls w hl hf
      rw [f_X9_all_4] at hf
      refine lv_iload_n hx hb dX9_all_4 rfl (lv_at hl 3 rfl) ?_
      refine lv_sipush (v := 4096) hx hb dX9_all_5 (by decide) ?_
      refine lv_icmp_ge (x := v3) (y := 4096) (tgt := 35) hx hb dX9_all_8 (by decide) (fun c_2 => ?_) (fun c_2 => ?_)
      · have hf := if_t hf c_2
        refine lv_iload_n hx hb dX9_all_35 rfl (lv_at hl 1 rfl) ?_
        refine lv_iconst (v := (-1)) hx hb dX9_all_36 (by decide) ?_
        refine lv_icmp_ne (x := v1) (y := (-1)) (tgt := 44) hx hb dX9_all_37 (by decide) (fun c_3 => ?_) (fun c_3 => ?_)
        · have hf := if_f hf c_3
          refine lv_iconst (v := (-1)) hx hb dX9_all_44 (by decide) ?_
          have hf : some ((-1), fi, fl, ar) = some (r0, fi0, fl0, ar0) := hf
          obtain ⟨q0, q1, q2, q3⟩ := so4 hf
          subst q0
          subst q1
          subst q2
          subst q3
          exact retI B hr hk w dX9_all_45
        · have hf := if_t hf c_3
          refine lv_iload_n hx hb dX9_all_40 rfl (lv_at hl 2 rfl) ?_
          refine lv_goto (tgt := 45) hx hb dX9_all_41 (by decide) ?_
          have hf : some (v2, fi, fl, ar) = some (r0, fi0, fl0, ar0) := hf
          obtain ⟨q0, q1, q2, q3⟩ := so4 hf
          subst q0
          subst q1
          subst q2
          subst q3
          exact retI B hr hk w dX9_all_45
      · have hf := if_f hf c_2
        refine lv_aload_n hx hb dX9_all_11 rfl (lv_at hl 0 rfl) ?_
        refine lv_iload_n hx hb dX9_all_12 rfl (lv_at hl 3 rfl) ?_
        obtain ⟨r_4, fi_5, fl_6, ar_7, er_8, hf⟩ := bind4_eq hf
        refine callVZ (As := [.int v3]) (rest := []) B w (c_X9_isHolding l D ca ak av ad fi fl ar v3 er_8) (gV kt5_20 kt5_22 kp2_10 kt1_11 kt5_23) hdV_X9_isHolding 0 rfl rfl rfl rfl ⟨Nat.le_of_ble_eq_true rfl, Nat.le_of_ble_eq_true rfl⟩ rfl hl.1 rfl (Nat.le_of_ble_eq_true rfl) dX9_all_13 ⟨Nat.le_of_ble_eq_true rfl, Nat.le_of_ble_eq_true rfl⟩ (fun H locs w hzr_4 => ?_)
        refine lv_if_eq (x := r_4) (tgt := 29) hx hb dX9_all_16 (by decide) (fun c_9 => ?_) (fun c_9 => ?_)
        · have hf := if_t hf c_9
          exact J29 _ ih v1 v2 v3 fi_5 fl_6 ar_7 H locs ls w (lv_sub hl [0, 1, 2, 3] rfl) hf
        · have hf := if_f hf c_9
          refine lv_iload_n hx hb dX9_all_19 rfl (lv_at hl 2 rfl) ?_
          refine lv_iload_n hx hb dX9_all_20 rfl (lv_at hl 1 rfl) ?_
          refine lv_icmp_ne (x := v2) (y := v1) (tgt := 26) hx hb dX9_all_21 (by decide) (fun c_10 => ?_) (fun c_10 => ?_)
          · have hf := if_f hf c_10
            obtain ⟨x_11, ex_11⟩ : ∃ y : Int32, y = v2 + 1 := ⟨_, rfl⟩
            have hf := bindv_eq hf x_11 ex_11
            refine lv_iinc (v := x_11) (lv' := [(2, .int x_11), (0, .ref (ad 0)), (1, .int v1), (3, .int v3)]) hx hb dX9_all_26 hl (k := 2) rfl (by rw [ex_11]; rfl) (by decide) rfl (fun ls hl => ?_)
            exact J29 _ ih v1 x_11 v3 fi_5 fl_6 ar_7 H locs ls w (lv_sub hl [1, 2, 0, 3] rfl) hf
          · have hf := if_t hf c_10
            refine lv_iload_n hx hb dX9_all_24 rfl (lv_at hl 3 rfl) ?_
            have hf : some (v3, fi_5, fl_6, ar_7) = some (r0, fi0, fl0, ar0) := hf
            obtain ⟨q0, q1, q2, q3⟩ := so4 hf
            subst q0
            subst q1
            subst q2
            subst q3
            exact retI B hr hk w dX9_all_25
  unfold f_X9_all at hf
  refine (show ∀ (H : Heap) (locs : List Loc), Wd (EM D ca ak av) A s (wM ad ca fi fl ar) H locs → W p l e ({ frames := 6, cells := 0, slots := 0, locals := 162 } : Room) s m args below meth c H locs 0 0 (MQ below (Qi (EM D ca ak av) A (wM ad ca fi0 fl0 ar0) r0) args s 0 0 A) (F0 m 0 ls []) from ?_) s.heap [] w
  intro H locs w
  refine lv_iconst (v := 0) hx hb dX9_all_0 (by decide) ?_
  refine lv_istore_n (lv' := [(2, .int 0), (0, .ref (ad 0)), (1, .int v1)]) hx hb dX9_all_1 rfl hl (by decide) rfl (fun ls hl => ?_)
  refine lv_iconst (v := 0) hx hb dX9_all_2 (by decide) ?_
  refine lv_istore_n (lv' := [(3, .int 0), (2, .int 0), (0, .ref (ad 0)), (1, .int v1)]) hx hb dX9_all_3 rfl hl (by decide) rfl (fun ls hl => ?_)
  exact J4  5000 v1 0 0 fi fl ar H locs ls w (lv_sub hl [2, 3, 1, 0] rfl) hf
def f_X9_mostHelped_57  (k6 : Int32 → Int32 → Int32 → (Nat → Int32) → (Nat → Int64) → (Nat → Nat → Int32) → Option (Int32 × (Nat → Int32) × (Nat → Int64) × (Nat → Nat → Int32))) (v1 : Int32) (v2 : Int32) (v3 : Int32) (fi : Nat → Int32) (fl : Nat → Int64) (ar : Nat → Nat → Int32) : Option (Int32 × (Nat → Int32) × (Nat → Int64) × (Nat → Nat → Int32)) := bindv (v3 + 1 : Int32) (fun x_1 => k6 v1 v2 x_1 fi fl ar)
def f_X9_mostHelped_56  (k6 : Int32 → Int32 → Int32 → (Nat → Int32) → (Nat → Int64) → (Nat → Nat → Int32) → Option (Int32 × (Nat → Int32) × (Nat → Int64) × (Nat → Nat → Int32))) (v1 : Int32) (v3 : Int32) (t0 : Int32) (fi : Nat → Int32) (fl : Nat → Int64) (ar : Nat → Nat → Int32) : Option (Int32 × (Nat → Int32) × (Nat → Int64) × (Nat → Nat → Int32)) := f_X9_mostHelped_57 k6 v1 t0 v3 fi fl ar
def f_X9_mostHelped_43  (k6 : Int32 → Int32 → Int32 → (Nat → Int32) → (Nat → Int64) → (Nat → Nat → Int32) → Option (Int32 × (Nat → Int32) × (Nat → Int64) × (Nat → Nat → Int32))) (v2 : Int32) (v3 : Int32) (v4 : Int32) (t0 : Int32) (fi : Nat → Int32) (fl : Nat → Int64) (ar : Nat → Nat → Int32) : Option (Int32 × (Nat → Int32) × (Nat → Int64) × (Nat → Nat → Int32)) := if (v4 ≤ v2 : Prop) then (f_X9_mostHelped_56 k6 t0 v3 v2 fi fl ar) else (f_X9_mostHelped_56 k6 t0 v3 v4 fi fl ar)
def f_X9_mostHelped_6   : Nat → (Int32) → (Int32) → (Int32) → (Nat → Int32) → (Nat → Int64) → (Nat → Nat → Int32) → Option (Int32 × (Nat → Int32) × (Nat → Int64) × (Nat → Nat → Int32))
  | 0, _, _, _, _, _, _ => none
  | n + 1, v1, v2, v3, fi, fl, ar => if (4096 ≤ v3 : Prop) then (some (v1, fi, fl, ar)) else (bind4 (f_X9_isHolding fi fl ar v3) (fun r_4 fi_5 fl_6 ar_7 => if (r_4 = 0 : Prop) then (f_X9_mostHelped_57 (f_X9_mostHelped_6 n) v1 v2 v3 fi_5 fl_6 ar_7) else (bind1 (f_X9_helpedBy ar_7 v3 (fi_5 8)) (fun r_10 => if (r_10 ≤ v2 : Prop) then (f_X9_mostHelped_43 (f_X9_mostHelped_6 n) v2 v3 r_10 v1 fi_5 fl_6 ar_7) else (f_X9_mostHelped_43 (f_X9_mostHelped_6 n) v2 v3 r_10 v3 fi_5 fl_6 ar_7)))))
def f_X9_mostHelped (fi : Nat → Int32) (fl : Nat → Int64) (ar : Nat → Nat → Int32) : Option (Int32 × (Nat → Int32) × (Nat → Int64) × (Nat → Nat → Int32)) := f_X9_mostHelped_6  5000 (-1) (-1) 0 fi fl ar
set_option maxHeartbeats 4000000 in
set_option maxRecDepth 100000 in
theorem c_X9_mostHelped (l : Launch) (D : va_G) (ca : Nat → ClassId) (ak av ad : Nat → Nat) (fi : Nat → Int32) (fl : Nat → Int64) (ar : Nat → Nat → Int32) {r0 : Int32} {fi0 : Nat → Int32} {fl0 : Nat → Int64} {ar0 : Nat → Nat → Int32} (hf : f_X9_mostHelped fi fl ar = some (r0, fi0, fl0, ar0)) : MtI l yX9_mostHelped cX9_mostHelped 5 { frames := 6, cells := 0, slots := 0, locals := 162 } (EM D ca ak av) [.ref (ad 0)] (wM ad ca fi fl ar) (wM ad ca fi0 fl0 ar0) r0 := by
  refine MtI.of (own := RX9) (by decide +kernel) rfl (Nat.le_of_ble_eq_true rfl) ?_
  intro p e s m args below meth c A B hr hk w ls hl
  have hx := B.1.1
  have hb := B.1.2.1
  have hown := B.1.2.2.2.1
  have hts := B.1.2.2.2.2
  have hl : lv_has ls 5 [(0, .ref (ad 0))] := hl
  have J57 : ∀ (k6 : Int32 → Int32 → Int32 → (Nat → Int32) → (Nat → Int64) → (Nat → Nat → Int32) → Option (Int32 × (Nat → Int32) × (Nat → Int64) × (Nat → Nat → Int32))) (hk6 : ∀ (v1 : Int32) (v2 : Int32) (v3 : Int32) (fi : Nat → Int32) (fl : Nat → Int64) (ar : Nat → Nat → Int32) (H : Heap) (locs : List Loc) (ls : Array Slot), Wd (EM D ca ak av) A s (wM ad ca fi fl ar) H locs → lv_has ls 5 [(0, .ref (ad 0)), (1, .int v1), (2, .int v2), (3, .int v3)] → k6 v1 v2 v3 fi fl ar = some (r0, fi0, fl0, ar0) → W p l e ({ frames := 6, cells := 0, slots := 0, locals := 162 } : Room) s m args below meth c H locs 0 0 (MQ below (Qi (EM D ca ak av) A (wM ad ca fi0 fl0 ar0) r0) args s 0 0 A) (F0 m 6 ls [])) (v1 : Int32) (v2 : Int32) (v3 : Int32) (fi : Nat → Int32) (fl : Nat → Int64) (ar : Nat → Nat → Int32) (H : Heap) (locs : List Loc) (ls : Array Slot), Wd (EM D ca ak av) A s (wM ad ca fi fl ar) H locs → lv_has ls 5 [(0, .ref (ad 0)), (1, .int v1), (2, .int v2), (3, .int v3)] → f_X9_mostHelped_57 k6 v1 v2 v3 fi fl ar = some (r0, fi0, fl0, ar0) → W p l e ({ frames := 6, cells := 0, slots := 0, locals := 162 } : Room) s m args below meth c H locs 0 0 (MQ below (Qi (EM D ca ak av) A (wM ad ca fi0 fl0 ar0) r0) args s 0 0 A) (F0 m 57 ls []) := by
    intro k6 hk6 v1 v2 v3 fi fl ar H locs ls w hl hf
    unfold f_X9_mostHelped_57 at hf
    obtain ⟨x_1, ex_1⟩ : ∃ y : Int32, y = v3 + 1 := ⟨_, rfl⟩
    have hf := bindv_eq hf x_1 ex_1
    refine lv_iinc (v := x_1) (lv' := [(3, .int x_1), (0, .ref (ad 0)), (1, .int v1), (2, .int v2)]) hx hb dX9_mostHelped_57 hl (k := 3) rfl (by rw [ex_1]; rfl) (by decide) rfl (fun ls hl => ?_)
    refine lv_goto (tgt := 6) hx hb dX9_mostHelped_60 (by decide) ?_
    exact hk6 v1 v2 x_1 fi fl ar H locs ls w (lv_sub hl [1, 2, 3, 0] rfl) hf
  have J56 : ∀ (k6 : Int32 → Int32 → Int32 → (Nat → Int32) → (Nat → Int64) → (Nat → Nat → Int32) → Option (Int32 × (Nat → Int32) × (Nat → Int64) × (Nat → Nat → Int32))) (hk6 : ∀ (v1 : Int32) (v2 : Int32) (v3 : Int32) (fi : Nat → Int32) (fl : Nat → Int64) (ar : Nat → Nat → Int32) (H : Heap) (locs : List Loc) (ls : Array Slot), Wd (EM D ca ak av) A s (wM ad ca fi fl ar) H locs → lv_has ls 5 [(0, .ref (ad 0)), (1, .int v1), (2, .int v2), (3, .int v3)] → k6 v1 v2 v3 fi fl ar = some (r0, fi0, fl0, ar0) → W p l e ({ frames := 6, cells := 0, slots := 0, locals := 162 } : Room) s m args below meth c H locs 0 0 (MQ below (Qi (EM D ca ak av) A (wM ad ca fi0 fl0 ar0) r0) args s 0 0 A) (F0 m 6 ls [])) (v1 : Int32) (v3 : Int32) (t0 : Int32) (fi : Nat → Int32) (fl : Nat → Int64) (ar : Nat → Nat → Int32) (H : Heap) (locs : List Loc) (ls : Array Slot), Wd (EM D ca ak av) A s (wM ad ca fi fl ar) H locs → lv_has ls 5 [(0, .ref (ad 0)), (1, .int v1), (3, .int v3)] → f_X9_mostHelped_56 k6 v1 v3 t0 fi fl ar = some (r0, fi0, fl0, ar0) → W p l e ({ frames := 6, cells := 0, slots := 0, locals := 162 } : Room) s m args below meth c H locs 0 0 (MQ below (Qi (EM D ca ak av) A (wM ad ca fi0 fl0 ar0) r0) args s 0 0 A) (F0 m 56 ls [.int t0]) := by
    intro k6 hk6 v1 v3 t0 fi fl ar H locs ls w hl hf
    unfold f_X9_mostHelped_56 at hf
    refine lv_istore_n (lv' := [(2, .int t0), (0, .ref (ad 0)), (1, .int v1), (3, .int v3)]) hx hb dX9_mostHelped_56 rfl hl (by decide) rfl (fun ls hl => ?_)
    exact J57 _ hk6 v1 t0 v3 fi fl ar H locs ls w (lv_sub hl [1, 2, 0, 3] rfl) hf
  have J43 : ∀ (k6 : Int32 → Int32 → Int32 → (Nat → Int32) → (Nat → Int64) → (Nat → Nat → Int32) → Option (Int32 × (Nat → Int32) × (Nat → Int64) × (Nat → Nat → Int32))) (hk6 : ∀ (v1 : Int32) (v2 : Int32) (v3 : Int32) (fi : Nat → Int32) (fl : Nat → Int64) (ar : Nat → Nat → Int32) (H : Heap) (locs : List Loc) (ls : Array Slot), Wd (EM D ca ak av) A s (wM ad ca fi fl ar) H locs → lv_has ls 5 [(0, .ref (ad 0)), (1, .int v1), (2, .int v2), (3, .int v3)] → k6 v1 v2 v3 fi fl ar = some (r0, fi0, fl0, ar0) → W p l e ({ frames := 6, cells := 0, slots := 0, locals := 162 } : Room) s m args below meth c H locs 0 0 (MQ below (Qi (EM D ca ak av) A (wM ad ca fi0 fl0 ar0) r0) args s 0 0 A) (F0 m 6 ls [])) (v2 : Int32) (v3 : Int32) (v4 : Int32) (t0 : Int32) (fi : Nat → Int32) (fl : Nat → Int64) (ar : Nat → Nat → Int32) (H : Heap) (locs : List Loc) (ls : Array Slot), Wd (EM D ca ak av) A s (wM ad ca fi fl ar) H locs → lv_has ls 5 [(0, .ref (ad 0)), (2, .int v2), (3, .int v3), (4, .int v4)] → f_X9_mostHelped_43 k6 v2 v3 v4 t0 fi fl ar = some (r0, fi0, fl0, ar0) → W p l e ({ frames := 6, cells := 0, slots := 0, locals := 162 } : Room) s m args below meth c H locs 0 0 (MQ below (Qi (EM D ca ak av) A (wM ad ca fi0 fl0 ar0) r0) args s 0 0 A) (F0 m 43 ls [.int t0]) := by
    intro k6 hk6 v2 v3 v4 t0 fi fl ar H locs ls w hl hf
    unfold f_X9_mostHelped_43 at hf
    refine lv_istore_n (lv' := [(1, .int t0), (0, .ref (ad 0)), (2, .int v2), (3, .int v3), (4, .int v4)]) hx hb dX9_mostHelped_43 rfl hl (by decide) rfl (fun ls hl => ?_)
    refine lv_iload hx hb dX9_mostHelped_44 (lv_at hl 4 rfl) ?_
    refine lv_iload_n hx hb dX9_mostHelped_46 rfl (lv_at hl 2 rfl) ?_
    refine lv_icmp_le (x := v4) (y := v2) (tgt := 55) hx hb dX9_mostHelped_47 (by decide) (fun c_2 => ?_) (fun c_2 => ?_)
    · have hf := if_t hf c_2
      refine lv_iload_n hx hb dX9_mostHelped_55 rfl (lv_at hl 2 rfl) ?_
      exact J56 _ hk6 t0 v3 v2 fi fl ar H locs ls w (lv_sub hl [1, 0, 3] rfl) hf
    · have hf := if_f hf c_2
      refine lv_iload hx hb dX9_mostHelped_50 (lv_at hl 4 rfl) ?_
      refine lv_goto (tgt := 56) hx hb dX9_mostHelped_52 (by decide) ?_
      exact J56 _ hk6 t0 v3 v4 fi fl ar H locs ls w (lv_sub hl [1, 0, 3] rfl) hf
  have J6 : ∀ (n : Nat) (v1 : Int32) (v2 : Int32) (v3 : Int32) (fi : Nat → Int32) (fl : Nat → Int64) (ar : Nat → Nat → Int32) (H : Heap) (locs : List Loc) (ls : Array Slot), Wd (EM D ca ak av) A s (wM ad ca fi fl ar) H locs → lv_has ls 5 [(0, .ref (ad 0)), (1, .int v1), (2, .int v2), (3, .int v3)] → f_X9_mostHelped_6  n v1 v2 v3 fi fl ar = some (r0, fi0, fl0, ar0) → W p l e ({ frames := 6, cells := 0, slots := 0, locals := 162 } : Room) s m args below meth c H locs 0 0 (MQ below (Qi (EM D ca ak av) A (wM ad ca fi0 fl0 ar0) r0) args s 0 0 A) (F0 m 6 ls []) := by
    intro  n
    induction n with
    | zero =>
      intro v1 v2 v3 fi fl ar H locs ls w hl hf
      cases hf
    | succ n ih =>
      intro v1 v2 v3 fi fl ar H locs ls w hl hf
      rw [f_X9_mostHelped_6] at hf
      refine lv_iload_n hx hb dX9_mostHelped_6 rfl (lv_at hl 3 rfl) ?_
      refine lv_sipush (v := 4096) hx hb dX9_mostHelped_7 (by decide) ?_
      refine lv_icmp_ge (x := v3) (y := 4096) (tgt := 63) hx hb dX9_mostHelped_10 (by decide) (fun c_3 => ?_) (fun c_3 => ?_)
      · have hf := if_t hf c_3
        refine lv_iload_n hx hb dX9_mostHelped_63 rfl (lv_at hl 1 rfl) ?_
        have hf : some (v1, fi, fl, ar) = some (r0, fi0, fl0, ar0) := hf
        obtain ⟨q0, q1, q2, q3⟩ := so4 hf
        subst q0
        subst q1
        subst q2
        subst q3
        exact retI B hr hk w dX9_mostHelped_64
      · have hf := if_f hf c_3
        refine lv_aload_n hx hb dX9_mostHelped_13 rfl (lv_at hl 0 rfl) ?_
        refine lv_iload_n hx hb dX9_mostHelped_14 rfl (lv_at hl 3 rfl) ?_
        obtain ⟨r_4, fi_5, fl_6, ar_7, er_8, hf⟩ := bind4_eq hf
        refine callVZ (As := [.int v3]) (rest := []) B w (c_X9_isHolding l D ca ak av ad fi fl ar v3 er_8) (gV kt5_20 kt5_22 kp2_10 kt1_11 kt5_23) hdV_X9_isHolding 0 rfl rfl rfl rfl ⟨Nat.le_of_ble_eq_true rfl, Nat.le_of_ble_eq_true rfl⟩ rfl hl.1 rfl (Nat.le_of_ble_eq_true rfl) dX9_mostHelped_15 ⟨Nat.le_of_ble_eq_true rfl, Nat.le_of_ble_eq_true rfl⟩ (fun H locs w hzr_4 => ?_)
        refine lv_if_eq (x := r_4) (tgt := 57) hx hb dX9_mostHelped_18 (by decide) (fun c_9 => ?_) (fun c_9 => ?_)
        · have hf := if_t hf c_9
          exact J57 _ ih v1 v2 v3 fi_5 fl_6 ar_7 H locs ls w (lv_sub hl [0, 1, 2, 3] rfl) hf
        · have hf := if_f hf c_9
          refine lv_aload_n hx hb dX9_mostHelped_21 rfl (lv_at hl 0 rfl) ?_
          refine lv_iload_n hx hb dX9_mostHelped_22 rfl (lv_at hl 3 rfl) ?_
          refine lv_aload_n hx hb dX9_mostHelped_23 rfl (lv_at hl 0 rfl) ?_
          refine gfM_0_12 B w kt4_37 dX9_mostHelped_24 ?_
          obtain ⟨r_10, er_11, hf⟩ := bind1_eq hf
          refine callVI (As := [.int v3, .int (fi_5 8)]) (rest := []) B w (c_X9_helpedBy l D ca ak av ad fi_5 fl_6 ar_7 v3 (fi_5 8) er_11) (gV kt4_211 kt4_213 kp2_6 kt1_11 kt4_214) hdV_X9_helpedBy 0 rfl rfl rfl rfl ⟨Nat.le_of_ble_eq_true rfl, Nat.le_of_ble_eq_true rfl⟩ rfl hl.1 rfl (Nat.le_of_ble_eq_true rfl) dX9_mostHelped_27 ⟨Nat.le_of_ble_eq_true rfl, Nat.le_of_ble_eq_true rfl⟩ (fun H locs w => ?_)
          refine lv_istore (lv' := [(4, .int r_10), (0, .ref (ad 0)), (1, .int v1), (2, .int v2), (3, .int v3)]) hx hb dX9_mostHelped_30 hl (by decide) rfl (fun ls hl => ?_)
          refine lv_iload hx hb dX9_mostHelped_32 (lv_at hl 0 rfl) ?_
          refine lv_iload_n hx hb dX9_mostHelped_34 rfl (lv_at hl 3 rfl) ?_
          refine lv_icmp_le (x := r_10) (y := v2) (tgt := 42) hx hb dX9_mostHelped_35 (by decide) (fun c_12 => ?_) (fun c_12 => ?_)
          · have hf := if_t hf c_12
            refine lv_iload_n hx hb dX9_mostHelped_42 rfl (lv_at hl 2 rfl) ?_
            exact J43 _ ih v2 v3 r_10 v1 fi_5 fl_6 ar_7 H locs ls w (lv_sub hl [1, 3, 4, 0] rfl) hf
          · have hf := if_f hf c_12
            refine lv_iload_n hx hb dX9_mostHelped_38 rfl (lv_at hl 4 rfl) ?_
            refine lv_goto (tgt := 43) hx hb dX9_mostHelped_39 (by decide) ?_
            exact J43 _ ih v2 v3 r_10 v3 fi_5 fl_6 ar_7 H locs ls w (lv_sub hl [1, 3, 4, 0] rfl) hf
  unfold f_X9_mostHelped at hf
  refine (show ∀ (H : Heap) (locs : List Loc), Wd (EM D ca ak av) A s (wM ad ca fi fl ar) H locs → W p l e ({ frames := 6, cells := 0, slots := 0, locals := 162 } : Room) s m args below meth c H locs 0 0 (MQ below (Qi (EM D ca ak av) A (wM ad ca fi0 fl0 ar0) r0) args s 0 0 A) (F0 m 0 ls []) from ?_) s.heap [] w
  intro H locs w
  refine lv_iconst (v := (-1)) hx hb dX9_mostHelped_0 (by decide) ?_
  refine lv_istore_n (lv' := [(1, .int (-1)), (0, .ref (ad 0))]) hx hb dX9_mostHelped_1 rfl hl (by decide) rfl (fun ls hl => ?_)
  refine lv_iconst (v := (-1)) hx hb dX9_mostHelped_2 (by decide) ?_
  refine lv_istore_n (lv' := [(2, .int (-1)), (1, .int (-1)), (0, .ref (ad 0))]) hx hb dX9_mostHelped_3 rfl hl (by decide) rfl (fun ls hl => ?_)
  refine lv_iconst (v := 0) hx hb dX9_mostHelped_4 (by decide) ?_
  refine lv_istore_n (lv' := [(3, .int 0), (2, .int (-1)), (1, .int (-1)), (0, .ref (ad 0))]) hx hb dX9_mostHelped_5 rfl hl (by decide) rfl (fun ls hl => ?_)
  exact J6  5000 (-1) (-1) 0 fi fl ar H locs ls w (lv_sub hl [3, 2, 1, 0] rfl) hf
def f_X9_helpedAtRest (fi : Nat → Int32) (ar : Nat → Nat → Int32) (v1 : Int32) : Option (Int32 × (Nat → Int32) × (Nat → Nat → Int32)) := bind2 (f_X9_goFrom fi ar v1 500) (fun fi_1 ar_2 => bind1 (f_X9_helpedBy ar_2 v1 (fi_1 8)) (fun r_4 => some (r_4, fi_1, ar_2)))
set_option maxHeartbeats 4000000 in
set_option maxRecDepth 100000 in
theorem c_X9_helpedAtRest (l : Launch) (D : va_G) (ca : Nat → ClassId) (ak av ad : Nat → Nat) (fi : Nat → Int32) (fl : Nat → Int64) (ar : Nat → Nat → Int32) (v1 : Int32) {r0 : Int32} {fi0 : Nat → Int32} {ar0 : Nat → Nat → Int32} (hf : f_X9_helpedAtRest fi ar v1 = some (r0, fi0, ar0)) : MtI l yX9_helpedAtRest cX9_helpedAtRest 2 { frames := 4, cells := 0, slots := 0, locals := 101 } (EM D ca ak av) [.ref (ad 0), .int v1] (wM ad ca fi fl ar) (wM ad ca fi0 fl ar0) r0 := by
  refine MtI.of (own := RX9) (by decide +kernel) rfl (Nat.le_of_ble_eq_true rfl) ?_
  intro p e s m args below meth c A B hr hk w ls hl
  have hx := B.1.1
  have hb := B.1.2.1
  have hown := B.1.2.2.2.1
  have hts := B.1.2.2.2.2
  have hl : lv_has ls 2 [(0, .ref (ad 0)), (1, .int v1)] := hl
  unfold f_X9_helpedAtRest at hf
  refine (show ∀ (H : Heap) (locs : List Loc), Wd (EM D ca ak av) A s (wM ad ca fi fl ar) H locs → W p l e ({ frames := 4, cells := 0, slots := 0, locals := 101 } : Room) s m args below meth c H locs 0 0 (MQ below (Qi (EM D ca ak av) A (wM ad ca fi0 fl ar0) r0) args s 0 0 A) (F0 m 0 ls []) from ?_) s.heap [] w
  intro H locs w
  refine lv_aload_n hx hb dX9_helpedAtRest_0 rfl (lv_at hl 0 rfl) ?_
  refine lv_iload_n hx hb dX9_helpedAtRest_1 rfl (lv_at hl 1 rfl) ?_
  refine lv_sipush (v := 500) hx hb dX9_helpedAtRest_2 (by decide) ?_
  obtain ⟨fi_1, ar_2, er_3, hf⟩ := bind2_eq hf
  refine callVV (As := [.int v1, .int 500]) (rest := []) B w (c_X9_goFrom l D ca ak av ad fi fl ar v1 500 er_3) (gV kt4_203 kt4_205 kp2_5 kt1_11 kt4_206) hdV_X9_goFrom 0 rfl rfl rfl rfl ⟨Nat.le_of_ble_eq_true rfl, Nat.le_of_ble_eq_true rfl⟩ rfl hl.1 rfl (Nat.le_of_ble_eq_true rfl) dX9_helpedAtRest_5 ⟨Nat.le_of_ble_eq_true rfl, Nat.le_of_ble_eq_true rfl⟩ (fun H locs w => ?_)
  refine lv_aload_n hx hb dX9_helpedAtRest_8 rfl (lv_at hl 0 rfl) ?_
  refine lv_iload_n hx hb dX9_helpedAtRest_9 rfl (lv_at hl 1 rfl) ?_
  refine lv_aload_n hx hb dX9_helpedAtRest_10 rfl (lv_at hl 0 rfl) ?_
  refine gfM_0_12 B w kt4_37 dX9_helpedAtRest_11 ?_
  obtain ⟨r_4, er_5, hf⟩ := bind1_eq hf
  refine callVI (As := [.int v1, .int (fi_1 8)]) (rest := []) B w (c_X9_helpedBy l D ca ak av ad fi_1 fl ar_2 v1 (fi_1 8) er_5) (gV kt4_211 kt4_213 kp2_6 kt1_11 kt4_214) hdV_X9_helpedBy 0 rfl rfl rfl rfl ⟨Nat.le_of_ble_eq_true rfl, Nat.le_of_ble_eq_true rfl⟩ rfl hl.1 rfl (Nat.le_of_ble_eq_true rfl) dX9_helpedAtRest_14 ⟨Nat.le_of_ble_eq_true rfl, Nat.le_of_ble_eq_true rfl⟩ (fun H locs w => ?_)
  have hf : some (r_4, fi_1, ar_2) = some (r0, fi0, ar0) := hf
  obtain ⟨q0, q1, q2⟩ := so3 hf
  subst q0
  subst q1
  subst q2
  exact retI B hr hk w dX9_helpedAtRest_17
