def f_X5_isPerson (v0 : Int32) : Int32 := bindv (f_X8_within v0 0 5) (fun r_1 => r_1)
set_option maxHeartbeats 4000000 in
set_option maxRecDepth 100000 in
theorem c_X5_isPerson (l : Launch) (E : VE) (v0 : Int32) {r0 : Int32} (hf : f_X5_isPerson v0 = r0) : MtZ l yX5_isPerson cX5_isPerson 1 { frames := 1, cells := 0, slots := 0, locals := 22 } E [.int v0] [] [] r0 := by
  refine MtZ.of (own := RX5) (by decide +kernel) rfl (Nat.le_of_ble_eq_true rfl) ?_
  intro p e s m args below meth c A B hr hk w ls hl
  have hx := B.1.1
  have hb := B.1.2.1
  have hown := B.1.2.2.2.1
  have hts := B.1.2.2.2.2
  have hl : lv_has ls 1 [(0, .int v0)] := hl
  unfold f_X5_isPerson at hf
  refine (show ∀ (H : Heap) (locs : List Loc), Wd E A s [] H locs → W p l e ({ frames := 1, cells := 0, slots := 0, locals := 22 } : Room) s m args below meth c H locs 0 0 (MQ below (Qz E A [] r0) args s 0 0 A) (F0 m 0 ls []) from ?_) s.heap [] w
  intro H locs w
  refine lv_iload_n hx hb dX5_isPerson_0 rfl (lv_at hl 0 rfl) ?_
  refine lv_iconst (v := 0) hx hb dX5_isPerson_1 (by decide) ?_
  refine lv_iconst (v := 5) hx hb dX5_isPerson_2 (by decide) ?_
  obtain ⟨r_1, er_2⟩ : ∃ y, f_X8_within v0 0 5 = y := ⟨_, rfl⟩
  have hf := bindv_eq hf r_1 er_2.symm
  refine callNZ (As := [.int v0, .int 0, .int 5]) (rest := []) B w (c_X8_within l _ v0 0 5 er_2) (gN kt2_74) (by decide) kt1_1 kt2_73 hdS_X8_within rfl rfl ⟨Nat.le_of_ble_eq_true rfl, Nat.le_of_ble_eq_true rfl⟩ rfl hl.1 rfl (Nat.le_of_ble_eq_true rfl) dX5_isPerson_3 ⟨Nat.le_of_ble_eq_true rfl, Nat.le_of_ble_eq_true rfl⟩ (fun H locs w hzr_1 => ?_)
  have hf : r_1 = r0 := hf
  subst hf
  exact retZ B hr hk w hzr_1 dX5_isPerson_6
def f_X5_isSet (v0 : Int32) : Int32 := bindv (f_X8_within v0 0 63) (fun r_1 => r_1)
set_option maxHeartbeats 4000000 in
set_option maxRecDepth 100000 in
theorem c_X5_isSet (l : Launch) (E : VE) (v0 : Int32) {r0 : Int32} (hf : f_X5_isSet v0 = r0) : MtZ l yX5_isSet cX5_isSet 1 { frames := 1, cells := 0, slots := 0, locals := 22 } E [.int v0] [] [] r0 := by
  refine MtZ.of (own := RX5) (by decide +kernel) rfl (Nat.le_of_ble_eq_true rfl) ?_
  intro p e s m args below meth c A B hr hk w ls hl
  have hx := B.1.1
  have hb := B.1.2.1
  have hown := B.1.2.2.2.1
  have hts := B.1.2.2.2.2
  have hl : lv_has ls 1 [(0, .int v0)] := hl
  unfold f_X5_isSet at hf
  refine (show ∀ (H : Heap) (locs : List Loc), Wd E A s [] H locs → W p l e ({ frames := 1, cells := 0, slots := 0, locals := 22 } : Room) s m args below meth c H locs 0 0 (MQ below (Qz E A [] r0) args s 0 0 A) (F0 m 0 ls []) from ?_) s.heap [] w
  intro H locs w
  refine lv_iload_n hx hb dX5_isSet_0 rfl (lv_at hl 0 rfl) ?_
  refine lv_iconst (v := 0) hx hb dX5_isSet_1 (by decide) ?_
  refine lv_bipush (v := 63) hx hb dX5_isSet_2 (by decide) ?_
  obtain ⟨r_1, er_2⟩ : ∃ y, f_X8_within v0 0 63 = y := ⟨_, rfl⟩
  have hf := bindv_eq hf r_1 er_2.symm
  refine callNZ (As := [.int v0, .int 0, .int 63]) (rest := []) B w (c_X8_within l _ v0 0 63 er_2) (gN kt2_74) (by decide) kt1_1 kt2_73 hdS_X8_within rfl rfl ⟨Nat.le_of_ble_eq_true rfl, Nat.le_of_ble_eq_true rfl⟩ rfl hl.1 rfl (Nat.le_of_ble_eq_true rfl) dX5_isSet_4 ⟨Nat.le_of_ble_eq_true rfl, Nat.le_of_ble_eq_true rfl⟩ (fun H locs w hzr_1 => ?_)
  have hf : r_1 = r0 := hf
  subst hf
  exact retZ B hr hk w hzr_1 dX5_isSet_7
def f_X5_arePair (v0 : Int32) (v1 : Int32) : Int32 := bindv (f_X5_isPerson v0) (fun r_1 => if (r_1 = 0 : Prop) then (0) else (bindv (f_X5_isPerson v1) (fun r_4 => if (r_4 = 0 : Prop) then (0) else (if (v0 = v1 : Prop) then (0) else (1)))))
set_option maxHeartbeats 4000000 in
set_option maxRecDepth 100000 in
theorem c_X5_arePair (l : Launch) (E : VE) (v0 : Int32) (v1 : Int32) {r0 : Int32} (hf : f_X5_arePair v0 v1 = r0) : MtZ l yX5_arePair cX5_arePair 2 { frames := 2, cells := 0, slots := 0, locals := 42 } E [.int v0, .int v1] [] [] r0 := by
  refine MtZ.of (own := RX5) (by decide +kernel) rfl (Nat.le_of_ble_eq_true rfl) ?_
  intro p e s m args below meth c A B hr hk w ls hl
  have hx := B.1.1
  have hb := B.1.2.1
  have hown := B.1.2.2.2.1
  have hts := B.1.2.2.2.2
  have hl : lv_has ls 2 [(0, .int v0), (1, .int v1)] := hl
  unfold f_X5_arePair at hf
  refine (show ∀ (H : Heap) (locs : List Loc), Wd E A s [] H locs → W p l e ({ frames := 2, cells := 0, slots := 0, locals := 42 } : Room) s m args below meth c H locs 0 0 (MQ below (Qz E A [] r0) args s 0 0 A) (F0 m 0 ls []) from ?_) s.heap [] w
  intro H locs w
  refine lv_iload_n hx hb dX5_arePair_0 rfl (lv_at hl 0 rfl) ?_
  obtain ⟨r_1, er_2⟩ : ∃ y, f_X5_isPerson v0 = y := ⟨_, rfl⟩
  have hf := bindv_eq hf r_1 er_2.symm
  refine callSZ (As := [.int v0]) (rest := []) B w (c_X5_isPerson l _ v0 er_2) (gS kt3_205 kt3_182 kt1_9 kt3_183) hdS_X5_isPerson rfl rfl ⟨Nat.le_of_ble_eq_true rfl, Nat.le_of_ble_eq_true rfl⟩ rfl hl.1 rfl (Nat.le_of_ble_eq_true rfl) dX5_arePair_1 ⟨Nat.le_of_ble_eq_true rfl, Nat.le_of_ble_eq_true rfl⟩ (fun H locs w hzr_1 => ?_)
  refine lv_if_eq (x := r_1) (tgt := 23) hx hb dX5_arePair_4 (by decide) (fun c_3 => ?_) (fun c_3 => ?_)
  · have hf := if_t hf c_3
    refine lv_iconst (v := 0) hx hb dX5_arePair_23 (by decide) ?_
    have hf : 0 = r0 := hf
    subst hf
    exact retZ B hr hk w rfl dX5_arePair_24
  · have hf := if_f hf c_3
    refine lv_iload_n hx hb dX5_arePair_7 rfl (lv_at hl 1 rfl) ?_
    obtain ⟨r_4, er_5⟩ : ∃ y, f_X5_isPerson v1 = y := ⟨_, rfl⟩
    have hf := bindv_eq hf r_4 er_5.symm
    refine callSZ (As := [.int v1]) (rest := []) B w (c_X5_isPerson l _ v1 er_5) (gS kt3_205 kt3_182 kt1_9 kt3_183) hdS_X5_isPerson rfl rfl ⟨Nat.le_of_ble_eq_true rfl, Nat.le_of_ble_eq_true rfl⟩ rfl hl.1 rfl (Nat.le_of_ble_eq_true rfl) dX5_arePair_8 ⟨Nat.le_of_ble_eq_true rfl, Nat.le_of_ble_eq_true rfl⟩ (fun H locs w hzr_4 => ?_)
    refine lv_if_eq (x := r_4) (tgt := 23) hx hb dX5_arePair_11 (by decide) (fun c_6 => ?_) (fun c_6 => ?_)
    · have hf := if_t hf c_6
      refine lv_iconst (v := 0) hx hb dX5_arePair_23 (by decide) ?_
      have hf : 0 = r0 := hf
      subst hf
      exact retZ B hr hk w rfl dX5_arePair_24
    · have hf := if_f hf c_6
      refine lv_iload_n hx hb dX5_arePair_14 rfl (lv_at hl 0 rfl) ?_
      refine lv_iload_n hx hb dX5_arePair_15 rfl (lv_at hl 1 rfl) ?_
      refine lv_icmp_eq (x := v0) (y := v1) (tgt := 23) hx hb dX5_arePair_16 (by decide) (fun c_7 => ?_) (fun c_7 => ?_)
      · have hf := if_t hf c_7
        refine lv_iconst (v := 0) hx hb dX5_arePair_23 (by decide) ?_
        have hf : 0 = r0 := hf
        subst hf
        exact retZ B hr hk w rfl dX5_arePair_24
      · have hf := if_f hf c_7
        refine lv_iconst (v := 1) hx hb dX5_arePair_19 (by decide) ?_
        refine lv_goto (tgt := 24) hx hb dX5_arePair_20 (by decide) ?_
        have hf : 1 = r0 := hf
        subst hf
        exact retZ B hr hk w rfl dX5_arePair_24
def f_X5_name (ar : Nat → Nat → Int32) (v1 : Int32) (v2 : Int32) : Option (Int32) := gd v1 6 (bindv (f_X8_bit (ar 16 (Int32.toNatClampNeg v1)) v2) (fun r_2 => some r_2))
set_option maxHeartbeats 4000000 in
set_option maxRecDepth 100000 in
theorem c_X5_name (l : Launch) (D : va_G) (ca : Nat → ClassId) (ak av ad : Nat → Nat) (fi : Nat → Int32) (fl : Nat → Int64) (ar : Nat → Nat → Int32) (v1 : Int32) (v2 : Int32) {r0 : Int32} (hf : f_X5_name ar v1 v2 = some r0) : MtI l yX5_name cX5_name 3 { frames := 1, cells := 0, slots := 0, locals := 21 } (EC D ca ak av) [.ref (ad 15), .int v1, .int v2] (wC ad ca fi fl ar) (wC ad ca fi fl ar) r0 := by
  refine MtI.of (own := RX5) (by decide +kernel) rfl (Nat.le_of_ble_eq_true rfl) ?_
  intro p e s m args below meth c A B hr hk w ls hl
  have hx := B.1.1
  have hb := B.1.2.1
  have hown := B.1.2.2.2.1
  have hts := B.1.2.2.2.2
  have hl : lv_has ls 3 [(0, .ref (ad 15)), (1, .int v1), (2, .int v2)] := hl
  unfold f_X5_name at hf
  refine (show ∀ (H : Heap) (locs : List Loc), Wd (EC D ca ak av) A s (wC ad ca fi fl ar) H locs → W p l e ({ frames := 1, cells := 0, slots := 0, locals := 21 } : Room) s m args below meth c H locs 0 0 (MQ below (Qi (EC D ca ak av) A (wC ad ca fi fl ar) r0) args s 0 0 A) (F0 m 0 ls []) from ?_) s.heap [] w
  intro H locs w
  refine lv_aload_n hx hb dX5_name_0 rfl (lv_at hl 0 rfl) ?_
  refine gfC_15_0 B w kt2_33 dX5_name_1 ?_
  refine lv_iload_n hx hb dX5_name_4 rfl (lv_at hl 1 rfl) ?_
  obtain ⟨hi_1, hf⟩ := gd_eq hf
  refine alC_16 B w hi_1 dX5_name_5 ?_
  refine lv_iload_n hx hb dX5_name_6 rfl (lv_at hl 2 rfl) ?_
  obtain ⟨r_2, er_3⟩ : ∃ y, f_X8_bit (ar 16 (Int32.toNatClampNeg v1)) v2 = y := ⟨_, rfl⟩
  have hf := bindv_eq hf r_2 er_3.symm
  refine callNI (As := [.int (ar 16 (Int32.toNatClampNeg v1)), .int v2]) (rest := []) B w (c_X8_bit l _ (ar 16 (Int32.toNatClampNeg v1)) v2 er_3) (gN kt2_166) (by decide) kt1_1 kt2_165 hdS_X8_bit rfl rfl ⟨Nat.le_of_ble_eq_true rfl, Nat.le_of_ble_eq_true rfl⟩ rfl hl.1 rfl (Nat.le_of_ble_eq_true rfl) dX5_name_7 ⟨Nat.le_of_ble_eq_true rfl, Nat.le_of_ble_eq_true rfl⟩ (fun H locs w => ?_)
  have hf : some r_2 = some r0 := hf
  have q0 := so1 hf
  subst q0
  exact retI B hr hk w dX5_name_10
def f_X5_put (ar : Nat → Nat → Int32) (v1 : Int32) (v2 : Int32) (v3 : Int32) : Option ((Nat → Nat → Int32)) := gd v1 6 (gd v1 6 (bindv (updA ar 16 (upd (ar 16) (Int32.toNatClampNeg v1) (((ar 16 (Int32.toNatClampNeg v1)) &&& (((1 : Int32) <<< (v2 &&& 31)) ^^^ (-1))) ||| (v3 <<< (v2 &&& 31))))) (fun ar_3 => some ar_3)))
set_option maxHeartbeats 4000000 in
set_option maxRecDepth 100000 in
theorem c_X5_put (l : Launch) (D : va_G) (ca : Nat → ClassId) (ak av ad : Nat → Nat) (fi : Nat → Int32) (fl : Nat → Int64) (ar : Nat → Nat → Int32) (v1 : Int32) (v2 : Int32) (v3 : Int32) {ar0 : Nat → Nat → Int32} (hf : f_X5_put ar v1 v2 v3 = some ar0) : MtV l yX5_put cX5_put 4 { frames := 0, cells := 0, slots := 0, locals := 0 } (EC D ca ak av) [.ref (ad 15), .int v1, .int v2, .int v3] (wC ad ca fi fl ar) (wC ad ca fi fl ar0) := by
  refine MtV.of (own := RX5) (by decide +kernel) rfl (Nat.le_of_ble_eq_true rfl) ?_
  intro p e s m args below meth c A B hr hk w ls hl
  have hx := B.1.1
  have hb := B.1.2.1
  have hown := B.1.2.2.2.1
  have hts := B.1.2.2.2.2
  have hl : lv_has ls 4 [(0, .ref (ad 15)), (1, .int v1), (2, .int v2), (3, .int v3)] := hl
  unfold f_X5_put at hf
  refine (show ∀ (H : Heap) (locs : List Loc), Wd (EC D ca ak av) A s (wC ad ca fi fl ar) H locs → W p l e ({ frames := 0, cells := 0, slots := 0, locals := 0 } : Room) s m args below meth c H locs 0 0 (MQ below (Qv (EC D ca ak av) A (wC ad ca fi fl ar0)) args s 0 0 A) (F0 m 0 ls []) from ?_) s.heap [] w
  intro H locs w
  refine lv_aload_n hx hb dX5_put_0 rfl (lv_at hl 0 rfl) ?_
  refine gfC_15_0 B w kt2_33 dX5_put_1 ?_
  refine lv_iload_n hx hb dX5_put_4 rfl (lv_at hl 1 rfl) ?_
  refine lv_aload_n hx hb dX5_put_5 rfl (lv_at hl 0 rfl) ?_
  refine gfC_15_0 B w kt2_33 dX5_put_6 ?_
  refine lv_iload_n hx hb dX5_put_9 rfl (lv_at hl 1 rfl) ?_
  obtain ⟨hi_1, hf⟩ := gd_eq hf
  refine alC_16 B w hi_1 dX5_put_10 ?_
  refine lv_iconst (v := 1) hx hb dX5_put_11 (by decide) ?_
  refine lv_iload_n hx hb dX5_put_12 rfl (lv_at hl 2 rfl) ?_
  refine lv_ishl (x := 1) (y := v2) hx hb dX5_put_13 ?_
  refine lv_iconst (v := (-1)) hx hb dX5_put_14 (by decide) ?_
  refine lv_ixor (x := ((1 : Int32) <<< (v2 &&& 31))) (y := (-1)) hx hb dX5_put_15 ?_
  refine lv_iand (x := (ar 16 (Int32.toNatClampNeg v1))) (y := (((1 : Int32) <<< (v2 &&& 31)) ^^^ (-1))) hx hb dX5_put_16 ?_
  refine lv_iload_n hx hb dX5_put_17 rfl (lv_at hl 3 rfl) ?_
  refine lv_iload_n hx hb dX5_put_18 rfl (lv_at hl 2 rfl) ?_
  refine lv_ishl (x := v3) (y := v2) hx hb dX5_put_19 ?_
  refine lv_ior (x := ((ar 16 (Int32.toNatClampNeg v1)) &&& (((1 : Int32) <<< (v2 &&& 31)) ^^^ (-1)))) (y := (v3 <<< (v2 &&& 31))) hx hb dX5_put_20 ?_
  obtain ⟨hi_2, hf⟩ := gd_eq hf
  refine asC_16 (x := (((ar 16 (Int32.toNatClampNeg v1)) &&& (((1 : Int32) <<< (v2 &&& 31)) ^^^ (-1))) ||| (v3 <<< (v2 &&& 31)))) B w hi_2 dX5_put_21 (fun H locs ar_3 ear_3 w => ?_)
  have hf := bindv_eq hf ar_3 ear_3
  have hf : some ar_3 = some ar0 := hf
  have q0 := so1 hf
  subst q0
  exact retV B hr hk w dX5_put_22
def f_X5_meeting_28 (fi : Nat → Int32)  : Nat → (Int32) → (Int32) → (Int32) → (Int32) → (Int32) → (Nat → Nat → Int32) → Option (Int32 × (Nat → Nat → Int32))
  | 0, _, _, _, _, _, _ => none
  | n + 1, v1, v2, v3, v5, v6, ar => if (6 ≤ v6 : Prop) then (some (v5, ar)) else (bindv (f_X8_bit v3 v6) (fun r_2 => bindv ((v5 ^^^ r_2) : Int32) (fun x_4 => bind1 (f_X5_name ar v6 v1) (fun r_5 => bind1 (f_X5_name ar v6 v2) (fun r_7 => bindv (f_X8_bit (fi 8) (((4 * r_5) + (2 * r_7)) + x_4)) (fun r_9 => bind1 (f_X5_put ar v6 v1 r_9) (fun ar_11 => bindv (v6 + 1 : Int32) (fun x_13 => (f_X5_meeting_28 fi n) v1 v2 v3 v5 x_13 ar_11))))))))
def f_X5_meeting (fi : Nat → Int32) (ar : Nat → Nat → Int32) (v1 : Int32) (v2 : Int32) (v3 : Int32) : Option (Int32 × (Nat → Nat → Int32)) := bind1 (f_X5_name ar v1 v1) (fun r_14 => bind1 (f_X5_name ar v1 v2) (fun r_16 => bindv (f_X8_bit (fi 7) ((2 * r_14) + r_16)) (fun r_18 => f_X5_meeting_28 fi 5000 v1 v2 v3 r_18 0 ar)))
set_option maxHeartbeats 4000000 in
set_option maxRecDepth 100000 in
theorem c_X5_meeting (l : Launch) (D : va_G) (ca : Nat → ClassId) (ak av ad : Nat → Nat) (fi : Nat → Int32) (fl : Nat → Int64) (ar : Nat → Nat → Int32) (v1 : Int32) (v2 : Int32) (v3 : Int32) {r0 : Int32} {ar0 : Nat → Nat → Int32} (hf : f_X5_meeting fi ar v1 v2 v3 = some (r0, ar0)) : MtI l yX5_meeting cX5_meeting 8 { frames := 2, cells := 0, slots := 0, locals := 43 } (EC D ca ak av) [.ref (ad 15), .int v1, .int v2, .int v3, .ref (ad 1)] (wC ad ca fi fl ar) (wC ad ca fi fl ar0) r0 := by
  refine MtI.of (own := RX5) (by decide +kernel) rfl (Nat.le_of_ble_eq_true rfl) ?_
  intro p e s m args below meth c A B hr hk w ls hl
  have hx := B.1.1
  have hb := B.1.2.1
  have hown := B.1.2.2.2.1
  have hts := B.1.2.2.2.2
  have hl : lv_has ls 8 [(0, .ref (ad 15)), (1, .int v1), (2, .int v2), (3, .int v3), (4, .ref (ad 1))] := hl
  have J28 : ∀ (n : Nat) (v1 : Int32) (v2 : Int32) (v3 : Int32) (v5 : Int32) (v6 : Int32) (ar : Nat → Nat → Int32) (H : Heap) (locs : List Loc) (ls : Array Slot), Wd (EC D ca ak av) A s (wC ad ca fi fl ar) H locs → lv_has ls 8 [(0, .ref (ad 15)), (1, .int v1), (2, .int v2), (3, .int v3), (4, .ref (ad 1)), (5, .int v5), (6, .int v6)] → f_X5_meeting_28 fi n v1 v2 v3 v5 v6 ar = some (r0, ar0) → W p l e ({ frames := 2, cells := 0, slots := 0, locals := 43 } : Room) s m args below meth c H locs 0 0 (MQ below (Qi (EC D ca ak av) A (wC ad ca fi fl ar0) r0) args s 0 0 A) (F0 m 28 ls []) := by
    intro  n
    induction n with
    | zero =>
      intro v1 v2 v3 v5 v6 ar H locs ls w hl hf
      cases hf
    | succ n ih =>
      intro v1 v2 v3 v5 v6 ar H locs ls w hl hf
      rw [f_X5_meeting_28] at hf
      refine lv_iload hx hb dX5_meeting_28 (lv_at hl 6 rfl) ?_
      refine lv_bipush (v := 6) hx hb dX5_meeting_30 (by decide) ?_
      refine lv_icmp_ge (x := v6) (y := 6) (tgt := 89) hx hb dX5_meeting_32 (by decide) (fun c_1 => ?_) (fun c_1 => ?_)
      · have hf := if_t hf c_1
        refine lv_iload hx hb dX5_meeting_89 (lv_at hl 5 rfl) ?_
        have hf : some (v5, ar) = some (r0, ar0) := hf
        obtain ⟨q0, q1⟩ := so2 hf
        subst q0
        subst q1
        exact retI B hr hk w dX5_meeting_91
      · have hf := if_f hf c_1
        refine lv_iload hx hb dX5_meeting_35 (lv_at hl 5 rfl) ?_
        refine lv_iload_n hx hb dX5_meeting_37 rfl (lv_at hl 3 rfl) ?_
        refine lv_iload hx hb dX5_meeting_38 (lv_at hl 6 rfl) ?_
        obtain ⟨r_2, er_3⟩ : ∃ y, f_X8_bit v3 v6 = y := ⟨_, rfl⟩
        have hf := bindv_eq hf r_2 er_3.symm
        refine callNI (As := [.int v3, .int v6]) (rest := [.int v5]) B w (c_X8_bit l _ v3 v6 er_3) (gN kt2_166) (by decide) kt1_1 kt2_165 hdS_X8_bit rfl rfl ⟨Nat.le_of_ble_eq_true rfl, Nat.le_of_ble_eq_true rfl⟩ rfl hl.1 rfl (Nat.le_of_ble_eq_true rfl) dX5_meeting_40 ⟨Nat.le_of_ble_eq_true rfl, Nat.le_of_ble_eq_true rfl⟩ (fun H locs w => ?_)
        refine lv_ixor (x := v5) (y := r_2) hx hb dX5_meeting_43 ?_
        refine lv_topi (fun x_4 ex_4 => ?_)
        have hf := bindv_eq hf x_4 ex_4
        refine lv_istore (lv' := [(7, .int x_4), (0, .ref (ad 15)), (1, .int v1), (2, .int v2), (3, .int v3), (4, .ref (ad 1)), (5, .int v5), (6, .int v6)]) hx hb dX5_meeting_44 hl (by decide) rfl (fun ls hl => ?_)
        refine lv_aload_n hx hb dX5_meeting_46 rfl (lv_at hl 1 rfl) ?_
        refine lv_iload hx hb dX5_meeting_47 (lv_at hl 7 rfl) ?_
        refine lv_iload_n hx hb dX5_meeting_49 rfl (lv_at hl 2 rfl) ?_
        refine lv_aload hx hb dX5_meeting_50 (lv_at hl 5 rfl) ?_
        refine gfC_1_7 B w kt1_67 dX5_meeting_52 ?_
        refine lv_iconst (v := 4) hx hb dX5_meeting_55 (by decide) ?_
        refine lv_aload_n hx hb dX5_meeting_56 rfl (lv_at hl 1 rfl) ?_
        refine lv_iload hx hb dX5_meeting_57 (lv_at hl 7 rfl) ?_
        refine lv_iload_n hx hb dX5_meeting_59 rfl (lv_at hl 2 rfl) ?_
        obtain ⟨r_5, er_6, hf⟩ := bind1_eq hf
        refine callVI (As := [.int v6, .int v1]) (rest := [.int 4, .int (fi 8), .int v1, .int v6, .ref (ad 15)]) B w (c_X5_name l D ca ak av ad fi fl ar v6 v1 er_6) (gV kt3_213 kt3_186 kt3_187 kt1_9 kt3_188) hdV_X5_name 15 rfl rfl rfl rfl ⟨Nat.le_of_ble_eq_true rfl, Nat.le_of_ble_eq_true rfl⟩ rfl hl.1 rfl (Nat.le_of_ble_eq_true rfl) dX5_meeting_60 ⟨Nat.le_of_ble_eq_true rfl, Nat.le_of_ble_eq_true rfl⟩ (fun H locs w => ?_)
        refine lv_imul (x := 4) (y := r_5) hx hb dX5_meeting_63 ?_
        refine lv_iconst (v := 2) hx hb dX5_meeting_64 (by decide) ?_
        refine lv_aload_n hx hb dX5_meeting_65 rfl (lv_at hl 1 rfl) ?_
        refine lv_iload hx hb dX5_meeting_66 (lv_at hl 7 rfl) ?_
        refine lv_iload_n hx hb dX5_meeting_68 rfl (lv_at hl 3 rfl) ?_
        obtain ⟨r_7, er_8, hf⟩ := bind1_eq hf
        refine callVI (As := [.int v6, .int v2]) (rest := [.int 2, .int (4 * r_5), .int (fi 8), .int v1, .int v6, .ref (ad 15)]) B w (c_X5_name l D ca ak av ad fi fl ar v6 v2 er_8) (gV kt3_213 kt3_186 kt3_187 kt1_9 kt3_188) hdV_X5_name 15 rfl rfl rfl rfl ⟨Nat.le_of_ble_eq_true rfl, Nat.le_of_ble_eq_true rfl⟩ rfl hl.1 rfl (Nat.le_of_ble_eq_true rfl) dX5_meeting_69 ⟨Nat.le_of_ble_eq_true rfl, Nat.le_of_ble_eq_true rfl⟩ (fun H locs w => ?_)
        refine lv_imul (x := 2) (y := r_7) hx hb dX5_meeting_72 ?_
        refine lv_iadd (x := (4 * r_5)) (y := (2 * r_7)) hx hb dX5_meeting_73 ?_
        refine lv_iload hx hb dX5_meeting_74 (lv_at hl 0 rfl) ?_
        refine lv_iadd (x := ((4 * r_5) + (2 * r_7))) (y := x_4) hx hb dX5_meeting_76 ?_
        obtain ⟨r_9, er_10⟩ : ∃ y, f_X8_bit (fi 8) (((4 * r_5) + (2 * r_7)) + x_4) = y := ⟨_, rfl⟩
        have hf := bindv_eq hf r_9 er_10.symm
        refine callNI (As := [.int (fi 8), .int (((4 * r_5) + (2 * r_7)) + x_4)]) (rest := [.int v1, .int v6, .ref (ad 15)]) B w (c_X8_bit l _ (fi 8) (((4 * r_5) + (2 * r_7)) + x_4) er_10) (gN kt2_166) (by decide) kt1_1 kt2_165 hdS_X8_bit rfl rfl ⟨Nat.le_of_ble_eq_true rfl, Nat.le_of_ble_eq_true rfl⟩ rfl hl.1 rfl (Nat.le_of_ble_eq_true rfl) dX5_meeting_77 ⟨Nat.le_of_ble_eq_true rfl, Nat.le_of_ble_eq_true rfl⟩ (fun H locs w => ?_)
        obtain ⟨ar_11, er_12, hf⟩ := bind1_eq hf
        refine callVV (As := [.int v6, .int v1, .int r_9]) (rest := []) B w (c_X5_put l D ca ak av ad fi fl ar v6 v1 r_9 er_12) (gV kt3_214 kt3_195 kt3_196 kt1_9 kt3_197) hdV_X5_put 15 rfl rfl rfl rfl ⟨Nat.le_of_ble_eq_true rfl, Nat.le_of_ble_eq_true rfl⟩ rfl hl.1 rfl (Nat.le_of_ble_eq_true rfl) dX5_meeting_80 ⟨Nat.le_of_ble_eq_true rfl, Nat.le_of_ble_eq_true rfl⟩ (fun H locs w => ?_)
        obtain ⟨x_13, ex_13⟩ : ∃ y : Int32, y = v6 + 1 := ⟨_, rfl⟩
        have hf := bindv_eq hf x_13 ex_13
        refine lv_iinc (v := x_13) (lv' := [(6, .int x_13), (7, .int x_4), (0, .ref (ad 15)), (1, .int v1), (2, .int v2), (3, .int v3), (4, .ref (ad 1)), (5, .int v5)]) hx hb dX5_meeting_83 hl (k := 7) rfl (by rw [ex_13]; rfl) (by decide) rfl (fun ls hl => ?_)
        refine lv_goto (tgt := 28) hx hb dX5_meeting_86 (by decide) ?_
        exact ih v1 v2 v3 v5 x_13 ar_11 H locs ls w (lv_sub hl [2, 3, 4, 5, 6, 7, 0] rfl) hf
  unfold f_X5_meeting at hf
  refine (show ∀ (H : Heap) (locs : List Loc), Wd (EC D ca ak av) A s (wC ad ca fi fl ar) H locs → W p l e ({ frames := 2, cells := 0, slots := 0, locals := 43 } : Room) s m args below meth c H locs 0 0 (MQ below (Qi (EC D ca ak av) A (wC ad ca fi fl ar0) r0) args s 0 0 A) (F0 m 0 ls []) from ?_) s.heap [] w
  intro H locs w
  refine lv_aload hx hb dX5_meeting_0 (lv_at hl 4 rfl) ?_
  refine gfC_1_6 B w kt1_63 dX5_meeting_2 ?_
  refine lv_iconst (v := 2) hx hb dX5_meeting_5 (by decide) ?_
  refine lv_aload_n hx hb dX5_meeting_6 rfl (lv_at hl 0 rfl) ?_
  refine lv_iload_n hx hb dX5_meeting_7 rfl (lv_at hl 1 rfl) ?_
  refine lv_iload_n hx hb dX5_meeting_8 rfl (lv_at hl 1 rfl) ?_
  obtain ⟨r_14, er_15, hf⟩ := bind1_eq hf
  refine callVI (As := [.int v1, .int v1]) (rest := [.int 2, .int (fi 7)]) B w (c_X5_name l D ca ak av ad fi fl ar v1 v1 er_15) (gV kt3_213 kt3_186 kt3_187 kt1_9 kt3_188) hdV_X5_name 15 rfl rfl rfl rfl ⟨Nat.le_of_ble_eq_true rfl, Nat.le_of_ble_eq_true rfl⟩ rfl hl.1 rfl (Nat.le_of_ble_eq_true rfl) dX5_meeting_9 ⟨Nat.le_of_ble_eq_true rfl, Nat.le_of_ble_eq_true rfl⟩ (fun H locs w => ?_)
  refine lv_imul (x := 2) (y := r_14) hx hb dX5_meeting_12 ?_
  refine lv_aload_n hx hb dX5_meeting_13 rfl (lv_at hl 0 rfl) ?_
  refine lv_iload_n hx hb dX5_meeting_14 rfl (lv_at hl 1 rfl) ?_
  refine lv_iload_n hx hb dX5_meeting_15 rfl (lv_at hl 2 rfl) ?_
  obtain ⟨r_16, er_17, hf⟩ := bind1_eq hf
  refine callVI (As := [.int v1, .int v2]) (rest := [.int (2 * r_14), .int (fi 7)]) B w (c_X5_name l D ca ak av ad fi fl ar v1 v2 er_17) (gV kt3_213 kt3_186 kt3_187 kt1_9 kt3_188) hdV_X5_name 15 rfl rfl rfl rfl ⟨Nat.le_of_ble_eq_true rfl, Nat.le_of_ble_eq_true rfl⟩ rfl hl.1 rfl (Nat.le_of_ble_eq_true rfl) dX5_meeting_16 ⟨Nat.le_of_ble_eq_true rfl, Nat.le_of_ble_eq_true rfl⟩ (fun H locs w => ?_)
  refine lv_iadd (x := (2 * r_14)) (y := r_16) hx hb dX5_meeting_19 ?_
  obtain ⟨r_18, er_19⟩ : ∃ y, f_X8_bit (fi 7) ((2 * r_14) + r_16) = y := ⟨_, rfl⟩
  have hf := bindv_eq hf r_18 er_19.symm
  refine callNI (As := [.int (fi 7), .int ((2 * r_14) + r_16)]) (rest := []) B w (c_X8_bit l _ (fi 7) ((2 * r_14) + r_16) er_19) (gN kt2_166) (by decide) kt1_1 kt2_165 hdS_X8_bit rfl rfl ⟨Nat.le_of_ble_eq_true rfl, Nat.le_of_ble_eq_true rfl⟩ rfl hl.1 rfl (Nat.le_of_ble_eq_true rfl) dX5_meeting_20 ⟨Nat.le_of_ble_eq_true rfl, Nat.le_of_ble_eq_true rfl⟩ (fun H locs w => ?_)
  refine lv_istore (lv' := [(5, .int r_18), (0, .ref (ad 15)), (1, .int v1), (2, .int v2), (3, .int v3), (4, .ref (ad 1))]) hx hb dX5_meeting_23 hl (by decide) rfl (fun ls hl => ?_)
  refine lv_iconst (v := 0) hx hb dX5_meeting_25 (by decide) ?_
  refine lv_istore (lv' := [(6, .int 0), (5, .int r_18), (0, .ref (ad 15)), (1, .int v1), (2, .int v2), (3, .int v3), (4, .ref (ad 1))]) hx hb dX5_meeting_26 hl (by decide) rfl (fun ls hl => ?_)
  exact J28  5000 v1 v2 v3 r_18 0 ar H locs ls w (lv_sub hl [2, 3, 4, 5, 6, 1, 0] rfl) hf
def f_X5_setKin (ar : Nat → Nat → Int32) (v1 : Int32) (v2 : Int32) : Option (Int32 × (Nat → Nat → Int32)) := gd v1 6 (bindv ((ar 17 (Int32.toNatClampNeg v1)) : Int32) (fun x_2 => gd v1 6 (bindv (updA ar 17 (upd (ar 17) (Int32.toNatClampNeg v1) v2)) (fun ar_4 => some (x_2, ar_4)))))
set_option maxHeartbeats 4000000 in
set_option maxRecDepth 100000 in
theorem c_X5_setKin (l : Launch) (D : va_G) (ca : Nat → ClassId) (ak av ad : Nat → Nat) (fi : Nat → Int32) (fl : Nat → Int64) (ar : Nat → Nat → Int32) (v1 : Int32) (v2 : Int32) {r0 : Int32} {ar0 : Nat → Nat → Int32} (hf : f_X5_setKin ar v1 v2 = some (r0, ar0)) : MtI l yX5_setKin cX5_setKin 4 { frames := 0, cells := 0, slots := 0, locals := 0 } (EC D ca ak av) [.ref (ad 15), .int v1, .int v2] (wC ad ca fi fl ar) (wC ad ca fi fl ar0) r0 := by
  refine MtI.of (own := RX5) (by decide +kernel) rfl (Nat.le_of_ble_eq_true rfl) ?_
  intro p e s m args below meth c A B hr hk w ls hl
  have hx := B.1.1
  have hb := B.1.2.1
  have hown := B.1.2.2.2.1
  have hts := B.1.2.2.2.2
  have hl : lv_has ls 4 [(0, .ref (ad 15)), (1, .int v1), (2, .int v2)] := hl
  unfold f_X5_setKin at hf
  refine (show ∀ (H : Heap) (locs : List Loc), Wd (EC D ca ak av) A s (wC ad ca fi fl ar) H locs → W p l e ({ frames := 0, cells := 0, slots := 0, locals := 0 } : Room) s m args below meth c H locs 0 0 (MQ below (Qi (EC D ca ak av) A (wC ad ca fi fl ar0) r0) args s 0 0 A) (F0 m 0 ls []) from ?_) s.heap [] w
  intro H locs w
  refine lv_aload_n hx hb dX5_setKin_0 rfl (lv_at hl 0 rfl) ?_
  refine gfC_15_1 B w kt2_34 dX5_setKin_1 ?_
  refine lv_iload_n hx hb dX5_setKin_4 rfl (lv_at hl 1 rfl) ?_
  obtain ⟨hi_1, hf⟩ := gd_eq hf
  refine alC_17 B w hi_1 dX5_setKin_5 ?_
  refine lv_topi (fun x_2 ex_2 => ?_)
  have hf := bindv_eq hf x_2 ex_2
  refine lv_istore_n (lv' := [(3, .int x_2), (0, .ref (ad 15)), (1, .int v1), (2, .int v2)]) hx hb dX5_setKin_6 rfl hl (by decide) rfl (fun ls hl => ?_)
  refine lv_aload_n hx hb dX5_setKin_7 rfl (lv_at hl 1 rfl) ?_
  refine gfC_15_1 B w kt2_34 dX5_setKin_8 ?_
  refine lv_iload_n hx hb dX5_setKin_11 rfl (lv_at hl 2 rfl) ?_
  refine lv_iload_n hx hb dX5_setKin_12 rfl (lv_at hl 3 rfl) ?_
  obtain ⟨hi_3, hf⟩ := gd_eq hf
  refine asC_17 (x := v2) B w hi_3 dX5_setKin_13 (fun H locs ar_4 ear_4 w => ?_)
  have hf := bindv_eq hf ar_4 ear_4
  refine lv_iload_n hx hb dX5_setKin_14 rfl (lv_at hl 0 rfl) ?_
  have hf : some (x_2, ar_4) = some (r0, ar0) := hf
  obtain ⟨q0, q1⟩ := so2 hf
  subst q0
  subst q1
  exact retI B hr hk w dX5_setKin_15
def f_X5_tell (ar : Nat → Nat → Int32) (v1 : Int32) (v2 : Int32) : Option (Int32 × (Nat → Nat → Int32)) := gd v1 6 (gd v1 6 (bindv (((ar 16 (Int32.toNatClampNeg v1)) ||| (ar 17 (Int32.toNatClampNeg v1))) : Int32) (fun x_3 => bindv (((63 &&& (((1 : Int32) <<< (v1 &&& 31)) ^^^ (-1))) &&& (((1 : Int32) <<< (v2 &&& 31)) ^^^ (-1))) : Int32) (fun x_4 => gd v2 6 (bindv (((x_3 ^^^ (ar 16 (Int32.toNatClampNeg v2))) &&& x_4) : Int32) (fun x_6 => gd v2 6 (gd v2 6 (bindv (updA ar 16 (upd (ar 16) (Int32.toNatClampNeg v2) ((ar 16 (Int32.toNatClampNeg v2)) ^^^ x_6))) (fun ar_9 => bindv (f_J6_bitCount_0f7a4 x_6) (fun r_10 => some (r_10, ar_9)))))))))))
set_option maxHeartbeats 4000000 in
set_option maxRecDepth 100000 in
theorem c_X5_tell (l : Launch) (D : va_G) (ca : Nat → ClassId) (ak av ad : Nat → Nat) (fi : Nat → Int32) (fl : Nat → Int64) (ar : Nat → Nat → Int32) (v1 : Int32) (v2 : Int32) {r0 : Int32} {ar0 : Nat → Nat → Int32} (hf : f_X5_tell ar v1 v2 = some (r0, ar0)) : MtI l yX5_tell cX5_tell 6 { frames := 1, cells := 0, slots := 0, locals := 20 } (EC D ca ak av) [.ref (ad 15), .int v1, .int v2] (wC ad ca fi fl ar) (wC ad ca fi fl ar0) r0 := by
  refine MtI.of (own := RX5) (by decide +kernel) rfl (Nat.le_of_ble_eq_true rfl) ?_
  intro p e s m args below meth c A B hr hk w ls hl
  have hx := B.1.1
  have hb := B.1.2.1
  have hown := B.1.2.2.2.1
  have hts := B.1.2.2.2.2
  have hl : lv_has ls 6 [(0, .ref (ad 15)), (1, .int v1), (2, .int v2)] := hl
  unfold f_X5_tell at hf
  refine (show ∀ (H : Heap) (locs : List Loc), Wd (EC D ca ak av) A s (wC ad ca fi fl ar) H locs → W p l e ({ frames := 1, cells := 0, slots := 0, locals := 20 } : Room) s m args below meth c H locs 0 0 (MQ below (Qi (EC D ca ak av) A (wC ad ca fi fl ar0) r0) args s 0 0 A) (F0 m 0 ls []) from ?_) s.heap [] w
  intro H locs w
  refine lv_aload_n hx hb dX5_tell_0 rfl (lv_at hl 0 rfl) ?_
  refine gfC_15_0 B w kt2_33 dX5_tell_1 ?_
  refine lv_iload_n hx hb dX5_tell_4 rfl (lv_at hl 1 rfl) ?_
  obtain ⟨hi_1, hf⟩ := gd_eq hf
  refine alC_16 B w hi_1 dX5_tell_5 ?_
  refine lv_aload_n hx hb dX5_tell_6 rfl (lv_at hl 0 rfl) ?_
  refine gfC_15_1 B w kt2_34 dX5_tell_7 ?_
  refine lv_iload_n hx hb dX5_tell_10 rfl (lv_at hl 1 rfl) ?_
  obtain ⟨hi_2, hf⟩ := gd_eq hf
  refine alC_17 B w hi_2 dX5_tell_11 ?_
  refine lv_ior (x := (ar 16 (Int32.toNatClampNeg v1))) (y := (ar 17 (Int32.toNatClampNeg v1))) hx hb dX5_tell_12 ?_
  refine lv_topi (fun x_3 ex_3 => ?_)
  have hf := bindv_eq hf x_3 ex_3
  refine lv_istore_n (lv' := [(3, .int x_3), (0, .ref (ad 15)), (1, .int v1), (2, .int v2)]) hx hb dX5_tell_13 rfl hl (by decide) rfl (fun ls hl => ?_)
  refine lv_bipush (v := 63) hx hb dX5_tell_14 (by decide) ?_
  refine lv_iconst (v := 1) hx hb dX5_tell_16 (by decide) ?_
  refine lv_iload_n hx hb dX5_tell_17 rfl (lv_at hl 2 rfl) ?_
  refine lv_ishl (x := 1) (y := v1) hx hb dX5_tell_18 ?_
  refine lv_iconst (v := (-1)) hx hb dX5_tell_19 (by decide) ?_
  refine lv_ixor (x := ((1 : Int32) <<< (v1 &&& 31))) (y := (-1)) hx hb dX5_tell_20 ?_
  refine lv_iand (x := 63) (y := (((1 : Int32) <<< (v1 &&& 31)) ^^^ (-1))) hx hb dX5_tell_21 ?_
  refine lv_iconst (v := 1) hx hb dX5_tell_22 (by decide) ?_
  refine lv_iload_n hx hb dX5_tell_23 rfl (lv_at hl 3 rfl) ?_
  refine lv_ishl (x := 1) (y := v2) hx hb dX5_tell_24 ?_
  refine lv_iconst (v := (-1)) hx hb dX5_tell_25 (by decide) ?_
  refine lv_ixor (x := ((1 : Int32) <<< (v2 &&& 31))) (y := (-1)) hx hb dX5_tell_26 ?_
  refine lv_iand (x := (63 &&& (((1 : Int32) <<< (v1 &&& 31)) ^^^ (-1)))) (y := (((1 : Int32) <<< (v2 &&& 31)) ^^^ (-1))) hx hb dX5_tell_27 ?_
  refine lv_topi (fun x_4 ex_4 => ?_)
  have hf := bindv_eq hf x_4 ex_4
  refine lv_istore (lv' := [(4, .int x_4), (3, .int x_3), (0, .ref (ad 15)), (1, .int v1), (2, .int v2)]) hx hb dX5_tell_28 hl (by decide) rfl (fun ls hl => ?_)
  refine lv_iload_n hx hb dX5_tell_30 rfl (lv_at hl 1 rfl) ?_
  refine lv_aload_n hx hb dX5_tell_31 rfl (lv_at hl 2 rfl) ?_
  refine gfC_15_0 B w kt2_33 dX5_tell_32 ?_
  refine lv_iload_n hx hb dX5_tell_35 rfl (lv_at hl 4 rfl) ?_
  obtain ⟨hi_5, hf⟩ := gd_eq hf
  refine alC_16 B w hi_5 dX5_tell_36 ?_
  refine lv_ixor (x := x_3) (y := (ar 16 (Int32.toNatClampNeg v2))) hx hb dX5_tell_37 ?_
  refine lv_iload hx hb dX5_tell_38 (lv_at hl 0 rfl) ?_
  refine lv_iand (x := (x_3 ^^^ (ar 16 (Int32.toNatClampNeg v2)))) (y := x_4) hx hb dX5_tell_40 ?_
  refine lv_topi (fun x_6 ex_6 => ?_)
  have hf := bindv_eq hf x_6 ex_6
  refine lv_istore (lv' := [(5, .int x_6), (4, .int x_4), (3, .int x_3), (0, .ref (ad 15)), (1, .int v1), (2, .int v2)]) hx hb dX5_tell_41 hl (by decide) rfl (fun ls hl => ?_)
  refine lv_aload_n hx hb dX5_tell_43 rfl (lv_at hl 3 rfl) ?_
  refine gfC_15_0 B w kt2_33 dX5_tell_44 ?_
  refine lv_iload_n hx hb dX5_tell_47 rfl (lv_at hl 5 rfl) ?_
  refine lv_dup2_11 hx hb dX5_tell_48 rfl rfl ?_
  obtain ⟨hi_7, hf⟩ := gd_eq hf
  refine alC_16 B w hi_7 dX5_tell_49 ?_
  refine lv_iload hx hb dX5_tell_50 (lv_at hl 0 rfl) ?_
  refine lv_ixor (x := (ar 16 (Int32.toNatClampNeg v2))) (y := x_6) hx hb dX5_tell_52 ?_
  obtain ⟨hi_8, hf⟩ := gd_eq hf
  refine asC_16 (x := ((ar 16 (Int32.toNatClampNeg v2)) ^^^ x_6)) B w hi_8 dX5_tell_53 (fun H locs ar_9 ear_9 w => ?_)
  have hf := bindv_eq hf ar_9 ear_9
  refine lv_iload hx hb dX5_tell_54 (lv_at hl 0 rfl) ?_
  obtain ⟨r_10, er_11⟩ : ∃ y, f_J6_bitCount_0f7a4 x_6 = y := ⟨_, rfl⟩
  have hf := bindv_eq hf r_10 er_11.symm
  refine callSI (As := [.int x_6]) (rest := []) B w (c_J6_bitCount_0f7a4 l _ x_6 er_11) (gS kt2_27 kt2_28 kt1_10 kt2_29) hdS_J6_bitCount_0f7a4 rfl rfl ⟨Nat.le_of_ble_eq_true rfl, Nat.le_of_ble_eq_true rfl⟩ rfl hl.1 rfl (Nat.le_of_ble_eq_true rfl) dX5_tell_56 ⟨Nat.le_of_ble_eq_true rfl, Nat.le_of_ble_eq_true rfl⟩ (fun H locs w => ?_)
  have hf : some (r_10, ar_9) = some (r0, ar0) := hf
  obtain ⟨q0, q1⟩ := so2 hf
  subst q0
  subst q1
  exact retI B hr hk w dX5_tell_59
def f_X5_callersGood_4 (ar : Nat → Nat → Int32)  : Nat → (Int32) → (Int32) → (Int32) → Option (Int32)
  | 0, _, _, _ => none
  | n + 1, v1, v2, v3 => if (6 ≤ v3 : Prop) then (some v2) else (bind1 (f_X5_name ar v3 v1) (fun r_2 => bindv ((v2 + r_2) : Int32) (fun x_4 => bindv (v3 + 1 : Int32) (fun x_5 => (f_X5_callersGood_4 ar n) v1 x_4 x_5))))
def f_X5_callersGood (ar : Nat → Nat → Int32) (v1 : Int32) : Option (Int32) := f_X5_callersGood_4 ar 5000 v1 0 0
set_option maxHeartbeats 4000000 in
set_option maxRecDepth 100000 in
theorem c_X5_callersGood (l : Launch) (D : va_G) (ca : Nat → ClassId) (ak av ad : Nat → Nat) (fi : Nat → Int32) (fl : Nat → Int64) (ar : Nat → Nat → Int32) (v1 : Int32) {r0 : Int32} (hf : f_X5_callersGood ar v1 = some r0) : MtI l yX5_callersGood cX5_callersGood 4 { frames := 2, cells := 0, slots := 0, locals := 43 } (EC D ca ak av) [.ref (ad 15), .int v1] (wC ad ca fi fl ar) (wC ad ca fi fl ar) r0 := by
  refine MtI.of (own := RX5) (by decide +kernel) rfl (Nat.le_of_ble_eq_true rfl) ?_
  intro p e s m args below meth c A B hr hk w ls hl
  have hx := B.1.1
  have hb := B.1.2.1
  have hown := B.1.2.2.2.1
  have hts := B.1.2.2.2.2
  have hl : lv_has ls 4 [(0, .ref (ad 15)), (1, .int v1)] := hl
  have J4 : ∀ (n : Nat) (v1 : Int32) (v2 : Int32) (v3 : Int32) (H : Heap) (locs : List Loc) (ls : Array Slot), Wd (EC D ca ak av) A s (wC ad ca fi fl ar) H locs → lv_has ls 4 [(0, .ref (ad 15)), (1, .int v1), (2, .int v2), (3, .int v3)] → f_X5_callersGood_4 ar n v1 v2 v3 = some r0 → W p l e ({ frames := 2, cells := 0, slots := 0, locals := 43 } : Room) s m args below meth c H locs 0 0 (MQ below (Qi (EC D ca ak av) A (wC ad ca fi fl ar) r0) args s 0 0 A) (F0 m 4 ls []) := by
    intro  n
    induction n with
    | zero =>
      intro v1 v2 v3 H locs ls w hl hf
      cases hf
    | succ n ih =>
      intro v1 v2 v3 H locs ls w hl hf
      rw [f_X5_callersGood_4] at hf
      refine lv_iload_n hx hb dX5_callersGood_4 rfl (lv_at hl 3 rfl) ?_
      refine lv_bipush (v := 6) hx hb dX5_callersGood_5 (by decide) ?_
      refine lv_icmp_ge (x := v3) (y := 6) (tgt := 25) hx hb dX5_callersGood_7 (by decide) (fun c_1 => ?_) (fun c_1 => ?_)
      · have hf := if_t hf c_1
        refine lv_iload_n hx hb dX5_callersGood_25 rfl (lv_at hl 2 rfl) ?_
        have hf : some v2 = some r0 := hf
        have q0 := so1 hf
        subst q0
        exact retI B hr hk w dX5_callersGood_26
      · have hf := if_f hf c_1
        refine lv_iload_n hx hb dX5_callersGood_10 rfl (lv_at hl 2 rfl) ?_
        refine lv_aload_n hx hb dX5_callersGood_11 rfl (lv_at hl 0 rfl) ?_
        refine lv_iload_n hx hb dX5_callersGood_12 rfl (lv_at hl 3 rfl) ?_
        refine lv_iload_n hx hb dX5_callersGood_13 rfl (lv_at hl 1 rfl) ?_
        obtain ⟨r_2, er_3, hf⟩ := bind1_eq hf
        refine callVI (As := [.int v3, .int v1]) (rest := [.int v2]) B w (c_X5_name l D ca ak av ad fi fl ar v3 v1 er_3) (gV kt3_213 kt3_186 kt3_187 kt1_9 kt3_188) hdV_X5_name 15 rfl rfl rfl rfl ⟨Nat.le_of_ble_eq_true rfl, Nat.le_of_ble_eq_true rfl⟩ rfl hl.1 rfl (Nat.le_of_ble_eq_true rfl) dX5_callersGood_14 ⟨Nat.le_of_ble_eq_true rfl, Nat.le_of_ble_eq_true rfl⟩ (fun H locs w => ?_)
        refine lv_iadd (x := v2) (y := r_2) hx hb dX5_callersGood_17 ?_
        refine lv_topi (fun x_4 ex_4 => ?_)
        have hf := bindv_eq hf x_4 ex_4
        refine lv_istore_n (lv' := [(2, .int x_4), (0, .ref (ad 15)), (1, .int v1), (3, .int v3)]) hx hb dX5_callersGood_18 rfl hl (by decide) rfl (fun ls hl => ?_)
        obtain ⟨x_5, ex_5⟩ : ∃ y : Int32, y = v3 + 1 := ⟨_, rfl⟩
        have hf := bindv_eq hf x_5 ex_5
        refine lv_iinc (v := x_5) (lv' := [(3, .int x_5), (2, .int x_4), (0, .ref (ad 15)), (1, .int v1)]) hx hb dX5_callersGood_19 hl (k := 3) rfl (by rw [ex_5]; rfl) (by decide) rfl (fun ls hl => ?_)
        refine lv_goto (tgt := 4) hx hb dX5_callersGood_22 (by decide) ?_
        exact ih v1 x_4 x_5 H locs ls w (lv_sub hl [2, 3, 1, 0] rfl) hf
  unfold f_X5_callersGood at hf
  refine (show ∀ (H : Heap) (locs : List Loc), Wd (EC D ca ak av) A s (wC ad ca fi fl ar) H locs → W p l e ({ frames := 2, cells := 0, slots := 0, locals := 43 } : Room) s m args below meth c H locs 0 0 (MQ below (Qi (EC D ca ak av) A (wC ad ca fi fl ar) r0) args s 0 0 A) (F0 m 0 ls []) from ?_) s.heap [] w
  intro H locs w
  refine lv_iconst (v := 0) hx hb dX5_callersGood_0 (by decide) ?_
  refine lv_istore_n (lv' := [(2, .int 0), (0, .ref (ad 15)), (1, .int v1)]) hx hb dX5_callersGood_1 rfl hl (by decide) rfl (fun ls hl => ?_)
  refine lv_iconst (v := 0) hx hb dX5_callersGood_2 (by decide) ?_
  refine lv_istore_n (lv' := [(3, .int 0), (2, .int 0), (0, .ref (ad 15)), (1, .int v1)]) hx hb dX5_callersGood_3 rfl hl (by decide) rfl (fun ls hl => ?_)
  exact J4  5000 v1 0 0 H locs ls w (lv_sub hl [2, 3, 1, 0] rfl) hf
def f_X5_pairsAlike_4 (ar : Nat → Nat → Int32)  : Nat → (Int32) → (Int32) → Option (Int32)
  | 0, _, _ => none
  | n + 1, v1, v2 => if (6 ≤ v2 : Prop) then (some v1) else (bind1 (f_X5_callersGood ar v2) (fun r_2 => bindv ((6 - r_2) : Int32) (fun x_4 => bindv ((v1 + (((r_2 * (r_2 - 1)) / 2) + ((x_4 * (x_4 - 1)) / 2))) : Int32) (fun x_5 => bindv (v2 + 1 : Int32) (fun x_6 => (f_X5_pairsAlike_4 ar n) x_5 x_6)))))
def f_X5_pairsAlike (ar : Nat → Nat → Int32) : Option (Int32) := f_X5_pairsAlike_4 ar 5000 0 0
set_option maxHeartbeats 4000000 in
set_option maxRecDepth 100000 in
theorem c_X5_pairsAlike (l : Launch) (D : va_G) (ca : Nat → ClassId) (ak av ad : Nat → Nat) (fi : Nat → Int32) (fl : Nat → Int64) (ar : Nat → Nat → Int32) {r0 : Int32} (hf : f_X5_pairsAlike ar = some r0) : MtI l yX5_pairsAlike cX5_pairsAlike 5 { frames := 3, cells := 0, slots := 0, locals := 66 } (EC D ca ak av) [.ref (ad 15)] (wC ad ca fi fl ar) (wC ad ca fi fl ar) r0 := by
  refine MtI.of (own := RX5) (by decide +kernel) rfl (Nat.le_of_ble_eq_true rfl) ?_
  intro p e s m args below meth c A B hr hk w ls hl
  have hx := B.1.1
  have hb := B.1.2.1
  have hown := B.1.2.2.2.1
  have hts := B.1.2.2.2.2
  have hl : lv_has ls 5 [(0, .ref (ad 15))] := hl
  have J4 : ∀ (n : Nat) (v1 : Int32) (v2 : Int32) (H : Heap) (locs : List Loc) (ls : Array Slot), Wd (EC D ca ak av) A s (wC ad ca fi fl ar) H locs → lv_has ls 5 [(0, .ref (ad 15)), (1, .int v1), (2, .int v2)] → f_X5_pairsAlike_4 ar n v1 v2 = some r0 → W p l e ({ frames := 3, cells := 0, slots := 0, locals := 66 } : Room) s m args below meth c H locs 0 0 (MQ below (Qi (EC D ca ak av) A (wC ad ca fi fl ar) r0) args s 0 0 A) (F0 m 4 ls []) := by
    intro  n
    induction n with
    | zero =>
      intro v1 v2 H locs ls w hl hf
      cases hf
    | succ n ih =>
      intro v1 v2 H locs ls w hl hf
      rw [f_X5_pairsAlike_4] at hf
      refine lv_iload_n hx hb dX5_pairsAlike_4 rfl (lv_at hl 2 rfl) ?_
      refine lv_bipush (v := 6) hx hb dX5_pairsAlike_5 (by decide) ?_
      refine lv_icmp_ge (x := v2) (y := 6) (tgt := 48) hx hb dX5_pairsAlike_7 (by decide) (fun c_1 => ?_) (fun c_1 => ?_)
      · have hf := if_t hf c_1
        refine lv_iload_n hx hb dX5_pairsAlike_48 rfl (lv_at hl 1 rfl) ?_
        have hf : some v1 = some r0 := hf
        have q0 := so1 hf
        subst q0
        exact retI B hr hk w dX5_pairsAlike_49
      · have hf := if_f hf c_1
        refine lv_aload_n hx hb dX5_pairsAlike_10 rfl (lv_at hl 0 rfl) ?_
        refine lv_iload_n hx hb dX5_pairsAlike_11 rfl (lv_at hl 2 rfl) ?_
        obtain ⟨r_2, er_3, hf⟩ := bind1_eq hf
        refine callVI (As := [.int v2]) (rest := []) B w (c_X5_callersGood l D ca ak av ad fi fl ar v2 er_3) (gV kt3_239 kt4_1 kp1_9 kt1_9 kt4_2) hdV_X5_callersGood 15 rfl rfl rfl rfl ⟨Nat.le_of_ble_eq_true rfl, Nat.le_of_ble_eq_true rfl⟩ rfl hl.1 rfl (Nat.le_of_ble_eq_true rfl) dX5_pairsAlike_12 ⟨Nat.le_of_ble_eq_true rfl, Nat.le_of_ble_eq_true rfl⟩ (fun H locs w => ?_)
        refine lv_istore_n (lv' := [(3, .int r_2), (0, .ref (ad 15)), (1, .int v1), (2, .int v2)]) hx hb dX5_pairsAlike_15 rfl hl (by decide) rfl (fun ls hl => ?_)
        refine lv_bipush (v := 6) hx hb dX5_pairsAlike_16 (by decide) ?_
        refine lv_iload_n hx hb dX5_pairsAlike_18 rfl (lv_at hl 0 rfl) ?_
        refine lv_isub (x := 6) (y := r_2) hx hb dX5_pairsAlike_19 ?_
        refine lv_topi (fun x_4 ex_4 => ?_)
        have hf := bindv_eq hf x_4 ex_4
        refine lv_istore (lv' := [(4, .int x_4), (3, .int r_2), (0, .ref (ad 15)), (1, .int v1), (2, .int v2)]) hx hb dX5_pairsAlike_20 hl (by decide) rfl (fun ls hl => ?_)
        refine lv_iload_n hx hb dX5_pairsAlike_22 rfl (lv_at hl 3 rfl) ?_
        refine lv_iload_n hx hb dX5_pairsAlike_23 rfl (lv_at hl 1 rfl) ?_
        refine lv_iload_n hx hb dX5_pairsAlike_24 rfl (lv_at hl 1 rfl) ?_
        refine lv_iconst (v := 1) hx hb dX5_pairsAlike_25 (by decide) ?_
        refine lv_isub (x := r_2) (y := 1) hx hb dX5_pairsAlike_26 ?_
        refine lv_imul (x := r_2) (y := (r_2 - 1)) hx hb dX5_pairsAlike_27 ?_
        refine lv_iconst (v := 2) hx hb dX5_pairsAlike_28 (by decide) ?_
        refine lv_idiv (x := (r_2 * (r_2 - 1))) (y := 2) hx hb dX5_pairsAlike_29 (by decide) ?_
        refine lv_iload hx hb dX5_pairsAlike_30 (lv_at hl 0 rfl) ?_
        refine lv_iload hx hb dX5_pairsAlike_32 (lv_at hl 0 rfl) ?_
        refine lv_iconst (v := 1) hx hb dX5_pairsAlike_34 (by decide) ?_
        refine lv_isub (x := x_4) (y := 1) hx hb dX5_pairsAlike_35 ?_
        refine lv_imul (x := x_4) (y := (x_4 - 1)) hx hb dX5_pairsAlike_36 ?_
        refine lv_iconst (v := 2) hx hb dX5_pairsAlike_37 (by decide) ?_
        refine lv_idiv (x := (x_4 * (x_4 - 1))) (y := 2) hx hb dX5_pairsAlike_38 (by decide) ?_
        refine lv_iadd (x := ((r_2 * (r_2 - 1)) / 2)) (y := ((x_4 * (x_4 - 1)) / 2)) hx hb dX5_pairsAlike_39 ?_
        refine lv_iadd (x := v1) (y := (((r_2 * (r_2 - 1)) / 2) + ((x_4 * (x_4 - 1)) / 2))) hx hb dX5_pairsAlike_40 ?_
        refine lv_topi (fun x_5 ex_5 => ?_)
        have hf := bindv_eq hf x_5 ex_5
        refine lv_istore_n (lv' := [(1, .int x_5), (4, .int x_4), (3, .int r_2), (0, .ref (ad 15)), (2, .int v2)]) hx hb dX5_pairsAlike_41 rfl hl (by decide) rfl (fun ls hl => ?_)
        obtain ⟨x_6, ex_6⟩ : ∃ y : Int32, y = v2 + 1 := ⟨_, rfl⟩
        have hf := bindv_eq hf x_6 ex_6
        refine lv_iinc (v := x_6) (lv' := [(2, .int x_6), (1, .int x_5), (4, .int x_4), (3, .int r_2), (0, .ref (ad 15))]) hx hb dX5_pairsAlike_42 hl (k := 4) rfl (by rw [ex_6]; rfl) (by decide) rfl (fun ls hl => ?_)
        refine lv_goto (tgt := 4) hx hb dX5_pairsAlike_45 (by decide) ?_
        exact ih x_5 x_6 H locs ls w (lv_sub hl [4, 1, 0] rfl) hf
  unfold f_X5_pairsAlike at hf
  refine (show ∀ (H : Heap) (locs : List Loc), Wd (EC D ca ak av) A s (wC ad ca fi fl ar) H locs → W p l e ({ frames := 3, cells := 0, slots := 0, locals := 66 } : Room) s m args below meth c H locs 0 0 (MQ below (Qi (EC D ca ak av) A (wC ad ca fi fl ar) r0) args s 0 0 A) (F0 m 0 ls []) from ?_) s.heap [] w
  intro H locs w
  refine lv_iconst (v := 0) hx hb dX5_pairsAlike_0 (by decide) ?_
  refine lv_istore_n (lv' := [(1, .int 0), (0, .ref (ad 15))]) hx hb dX5_pairsAlike_1 rfl hl (by decide) rfl (fun ls hl => ?_)
  refine lv_iconst (v := 0) hx hb dX5_pairsAlike_2 (by decide) ?_
  refine lv_istore_n (lv' := [(2, .int 0), (1, .int 0), (0, .ref (ad 15))]) hx hb dX5_pairsAlike_3 rfl hl (by decide) rfl (fun ls hl => ?_)
  exact J4  5000 0 0 H locs ls w (lv_sub hl [2, 1, 0] rfl) hf
def f_X5_calledAlike_29 (ar : Nat → Nat → Int32) (k4 : Int32 → Int32 → Option (Int32)) (v1 : Int32) (v2 : Int32) : Option (Int32) := bindv (v2 + 1 : Int32) (fun x_1 => k4 v1 x_1)
def f_X5_calledAlike_26 (ar : Nat → Nat → Int32) (k4 : Int32 → Int32 → Option (Int32)) (v1 : Int32) (v2 : Int32) : Option (Int32) := bindv (v1 + 1 : Int32) (fun x_2 => f_X5_calledAlike_29 ar k4 x_2 v2)
def f_X5_calledAlike_4 (ar : Nat → Nat → Int32)  : Nat → (Int32) → (Int32) → Option (Int32)
  | 0, _, _ => none
  | n + 1, v1, v2 => if (6 ≤ v2 : Prop) then (some v1) else (bind1 (f_X5_callersGood ar v2) (fun r_4 => if (r_4 = 0 : Prop) then (f_X5_calledAlike_26 ar (f_X5_calledAlike_4 ar n) v1 v2) else (if (r_4 = 6 : Prop) then (f_X5_calledAlike_26 ar (f_X5_calledAlike_4 ar n) v1 v2) else (f_X5_calledAlike_29 ar (f_X5_calledAlike_4 ar n) v1 v2))))
def f_X5_calledAlike (ar : Nat → Nat → Int32) : Option (Int32) := f_X5_calledAlike_4 ar 5000 0 0
set_option maxHeartbeats 4000000 in
set_option maxRecDepth 100000 in
theorem c_X5_calledAlike (l : Launch) (D : va_G) (ca : Nat → ClassId) (ak av ad : Nat → Nat) (fi : Nat → Int32) (fl : Nat → Int64) (ar : Nat → Nat → Int32) {r0 : Int32} (hf : f_X5_calledAlike ar = some r0) : MtI l yX5_calledAlike cX5_calledAlike 4 { frames := 3, cells := 0, slots := 0, locals := 66 } (EC D ca ak av) [.ref (ad 15)] (wC ad ca fi fl ar) (wC ad ca fi fl ar) r0 := by
  refine MtI.of (own := RX5) (by decide +kernel) rfl (Nat.le_of_ble_eq_true rfl) ?_
  intro p e s m args below meth c A B hr hk w ls hl
  have hx := B.1.1
  have hb := B.1.2.1
  have hown := B.1.2.2.2.1
  have hts := B.1.2.2.2.2
  have hl : lv_has ls 4 [(0, .ref (ad 15))] := hl
  have J29 : ∀ (k4 : Int32 → Int32 → Option (Int32)) (hk4 : ∀ (v1 : Int32) (v2 : Int32) (H : Heap) (locs : List Loc) (ls : Array Slot), Wd (EC D ca ak av) A s (wC ad ca fi fl ar) H locs → lv_has ls 4 [(0, .ref (ad 15)), (1, .int v1), (2, .int v2)] → k4 v1 v2 = some r0 → W p l e ({ frames := 3, cells := 0, slots := 0, locals := 66 } : Room) s m args below meth c H locs 0 0 (MQ below (Qi (EC D ca ak av) A (wC ad ca fi fl ar) r0) args s 0 0 A) (F0 m 4 ls [])) (v1 : Int32) (v2 : Int32) (H : Heap) (locs : List Loc) (ls : Array Slot), Wd (EC D ca ak av) A s (wC ad ca fi fl ar) H locs → lv_has ls 4 [(0, .ref (ad 15)), (1, .int v1), (2, .int v2)] → f_X5_calledAlike_29 ar k4 v1 v2 = some r0 → W p l e ({ frames := 3, cells := 0, slots := 0, locals := 66 } : Room) s m args below meth c H locs 0 0 (MQ below (Qi (EC D ca ak av) A (wC ad ca fi fl ar) r0) args s 0 0 A) (F0 m 29 ls []) := by
    intro k4 hk4 v1 v2 H locs ls w hl hf
    unfold f_X5_calledAlike_29 at hf
    obtain ⟨x_1, ex_1⟩ : ∃ y : Int32, y = v2 + 1 := ⟨_, rfl⟩
    have hf := bindv_eq hf x_1 ex_1
    refine lv_iinc (v := x_1) (lv' := [(2, .int x_1), (0, .ref (ad 15)), (1, .int v1)]) hx hb dX5_calledAlike_29 hl (k := 2) rfl (by rw [ex_1]; rfl) (by decide) rfl (fun ls hl => ?_)
    refine lv_goto (tgt := 4) hx hb dX5_calledAlike_32 (by decide) ?_
    exact hk4 v1 x_1 H locs ls w (lv_sub hl [1, 2, 0] rfl) hf
  have J26 : ∀ (k4 : Int32 → Int32 → Option (Int32)) (hk4 : ∀ (v1 : Int32) (v2 : Int32) (H : Heap) (locs : List Loc) (ls : Array Slot), Wd (EC D ca ak av) A s (wC ad ca fi fl ar) H locs → lv_has ls 4 [(0, .ref (ad 15)), (1, .int v1), (2, .int v2)] → k4 v1 v2 = some r0 → W p l e ({ frames := 3, cells := 0, slots := 0, locals := 66 } : Room) s m args below meth c H locs 0 0 (MQ below (Qi (EC D ca ak av) A (wC ad ca fi fl ar) r0) args s 0 0 A) (F0 m 4 ls [])) (v1 : Int32) (v2 : Int32) (H : Heap) (locs : List Loc) (ls : Array Slot), Wd (EC D ca ak av) A s (wC ad ca fi fl ar) H locs → lv_has ls 4 [(0, .ref (ad 15)), (1, .int v1), (2, .int v2)] → f_X5_calledAlike_26 ar k4 v1 v2 = some r0 → W p l e ({ frames := 3, cells := 0, slots := 0, locals := 66 } : Room) s m args below meth c H locs 0 0 (MQ below (Qi (EC D ca ak av) A (wC ad ca fi fl ar) r0) args s 0 0 A) (F0 m 26 ls []) := by
    intro k4 hk4 v1 v2 H locs ls w hl hf
    unfold f_X5_calledAlike_26 at hf
    obtain ⟨x_2, ex_2⟩ : ∃ y : Int32, y = v1 + 1 := ⟨_, rfl⟩
    have hf := bindv_eq hf x_2 ex_2
    refine lv_iinc (v := x_2) (lv' := [(1, .int x_2), (0, .ref (ad 15)), (2, .int v2)]) hx hb dX5_calledAlike_26 hl (k := 1) rfl (by rw [ex_2]; rfl) (by decide) rfl (fun ls hl => ?_)
    exact J29 _ hk4 x_2 v2 H locs ls w (lv_sub hl [1, 0, 2] rfl) hf
  have J4 : ∀ (n : Nat) (v1 : Int32) (v2 : Int32) (H : Heap) (locs : List Loc) (ls : Array Slot), Wd (EC D ca ak av) A s (wC ad ca fi fl ar) H locs → lv_has ls 4 [(0, .ref (ad 15)), (1, .int v1), (2, .int v2)] → f_X5_calledAlike_4 ar n v1 v2 = some r0 → W p l e ({ frames := 3, cells := 0, slots := 0, locals := 66 } : Room) s m args below meth c H locs 0 0 (MQ below (Qi (EC D ca ak av) A (wC ad ca fi fl ar) r0) args s 0 0 A) (F0 m 4 ls []) := by
    intro  n
    induction n with
    | zero =>
      intro v1 v2 H locs ls w hl hf
      cases hf
    | succ n ih =>
      intro v1 v2 H locs ls w hl hf
      rw [f_X5_calledAlike_4] at hf
      refine lv_iload_n hx hb dX5_calledAlike_4 rfl (lv_at hl 2 rfl) ?_
      refine lv_bipush (v := 6) hx hb dX5_calledAlike_5 (by decide) ?_
      refine lv_icmp_ge (x := v2) (y := 6) (tgt := 35) hx hb dX5_calledAlike_7 (by decide) (fun c_3 => ?_) (fun c_3 => ?_)
      · have hf := if_t hf c_3
        refine lv_iload_n hx hb dX5_calledAlike_35 rfl (lv_at hl 1 rfl) ?_
        have hf : some v1 = some r0 := hf
        have q0 := so1 hf
        subst q0
        exact retI B hr hk w dX5_calledAlike_36
      · have hf := if_f hf c_3
        refine lv_aload_n hx hb dX5_calledAlike_10 rfl (lv_at hl 0 rfl) ?_
        refine lv_iload_n hx hb dX5_calledAlike_11 rfl (lv_at hl 2 rfl) ?_
        obtain ⟨r_4, er_5, hf⟩ := bind1_eq hf
        refine callVI (As := [.int v2]) (rest := []) B w (c_X5_callersGood l D ca ak av ad fi fl ar v2 er_5) (gV kt3_239 kt4_1 kp1_9 kt1_9 kt4_2) hdV_X5_callersGood 15 rfl rfl rfl rfl ⟨Nat.le_of_ble_eq_true rfl, Nat.le_of_ble_eq_true rfl⟩ rfl hl.1 rfl (Nat.le_of_ble_eq_true rfl) dX5_calledAlike_12 ⟨Nat.le_of_ble_eq_true rfl, Nat.le_of_ble_eq_true rfl⟩ (fun H locs w => ?_)
        refine lv_istore_n (lv' := [(3, .int r_4), (0, .ref (ad 15)), (1, .int v1), (2, .int v2)]) hx hb dX5_calledAlike_15 rfl hl (by decide) rfl (fun ls hl => ?_)
        refine lv_iload_n hx hb dX5_calledAlike_16 rfl (lv_at hl 0 rfl) ?_
        refine lv_if_eq (x := r_4) (tgt := 26) hx hb dX5_calledAlike_17 (by decide) (fun c_6 => ?_) (fun c_6 => ?_)
        · have hf := if_t hf c_6
          exact J26 _ ih v1 v2 H locs ls w (lv_sub hl [1, 2, 3] rfl) hf
        · have hf := if_f hf c_6
          refine lv_iload_n hx hb dX5_calledAlike_20 rfl (lv_at hl 0 rfl) ?_
          refine lv_bipush (v := 6) hx hb dX5_calledAlike_21 (by decide) ?_
          refine lv_icmp_ne (x := r_4) (y := 6) (tgt := 29) hx hb dX5_calledAlike_23 (by decide) (fun c_7 => ?_) (fun c_7 => ?_)
          · have hf := if_f hf c_7
            exact J29 _ ih v1 v2 H locs ls w (lv_sub hl [1, 2, 3] rfl) hf
          · have hf := if_t hf c_7
            exact J26 _ ih v1 v2 H locs ls w (lv_sub hl [1, 2, 3] rfl) hf
  unfold f_X5_calledAlike at hf
  refine (show ∀ (H : Heap) (locs : List Loc), Wd (EC D ca ak av) A s (wC ad ca fi fl ar) H locs → W p l e ({ frames := 3, cells := 0, slots := 0, locals := 66 } : Room) s m args below meth c H locs 0 0 (MQ below (Qi (EC D ca ak av) A (wC ad ca fi fl ar) r0) args s 0 0 A) (F0 m 0 ls []) from ?_) s.heap [] w
  intro H locs w
  refine lv_iconst (v := 0) hx hb dX5_calledAlike_0 (by decide) ?_
  refine lv_istore_n (lv' := [(1, .int 0), (0, .ref (ad 15))]) hx hb dX5_calledAlike_1 rfl hl (by decide) rfl (fun ls hl => ?_)
  refine lv_iconst (v := 0) hx hb dX5_calledAlike_2 (by decide) ?_
  refine lv_istore_n (lv' := [(2, .int 0), (1, .int 0), (0, .ref (ad 15))]) hx hb dX5_calledAlike_3 rfl hl (by decide) rfl (fun ls hl => ?_)
  exact J4  5000 0 0 H locs ls w (lv_sub hl [2, 1, 0] rfl) hf
def f_X5_calledGood_23 (ar : Nat → Nat → Int32) (k4 : Int32 → Int32 → Option (Int32)) (v1 : Int32) (v2 : Int32) : Option (Int32) := bindv (v2 + 1 : Int32) (fun x_1 => k4 v1 x_1)
def f_X5_calledGood_4 (ar : Nat → Nat → Int32)  : Nat → (Int32) → (Int32) → Option (Int32)
  | 0, _, _ => none
  | n + 1, v1, v2 => if (6 ≤ v2 : Prop) then (some v1) else (bind1 (f_X5_callersGood ar v2) (fun r_3 => if (r_3 = 6 : Prop) then (bindv (v1 + 1 : Int32) (fun x_6 => f_X5_calledGood_23 ar (f_X5_calledGood_4 ar n) x_6 v2)) else (f_X5_calledGood_23 ar (f_X5_calledGood_4 ar n) v1 v2)))
def f_X5_calledGood (ar : Nat → Nat → Int32) : Option (Int32) := f_X5_calledGood_4 ar 5000 0 0
set_option maxHeartbeats 4000000 in
set_option maxRecDepth 100000 in
theorem c_X5_calledGood (l : Launch) (D : va_G) (ca : Nat → ClassId) (ak av ad : Nat → Nat) (fi : Nat → Int32) (fl : Nat → Int64) (ar : Nat → Nat → Int32) {r0 : Int32} (hf : f_X5_calledGood ar = some r0) : MtI l yX5_calledGood cX5_calledGood 3 { frames := 3, cells := 0, slots := 0, locals := 66 } (EC D ca ak av) [.ref (ad 15)] (wC ad ca fi fl ar) (wC ad ca fi fl ar) r0 := by
  refine MtI.of (own := RX5) (by decide +kernel) rfl (Nat.le_of_ble_eq_true rfl) ?_
  intro p e s m args below meth c A B hr hk w ls hl
  have hx := B.1.1
  have hb := B.1.2.1
  have hown := B.1.2.2.2.1
  have hts := B.1.2.2.2.2
  have hl : lv_has ls 3 [(0, .ref (ad 15))] := hl
  have J23 : ∀ (k4 : Int32 → Int32 → Option (Int32)) (hk4 : ∀ (v1 : Int32) (v2 : Int32) (H : Heap) (locs : List Loc) (ls : Array Slot), Wd (EC D ca ak av) A s (wC ad ca fi fl ar) H locs → lv_has ls 3 [(0, .ref (ad 15)), (1, .int v1), (2, .int v2)] → k4 v1 v2 = some r0 → W p l e ({ frames := 3, cells := 0, slots := 0, locals := 66 } : Room) s m args below meth c H locs 0 0 (MQ below (Qi (EC D ca ak av) A (wC ad ca fi fl ar) r0) args s 0 0 A) (F0 m 4 ls [])) (v1 : Int32) (v2 : Int32) (H : Heap) (locs : List Loc) (ls : Array Slot), Wd (EC D ca ak av) A s (wC ad ca fi fl ar) H locs → lv_has ls 3 [(0, .ref (ad 15)), (1, .int v1), (2, .int v2)] → f_X5_calledGood_23 ar k4 v1 v2 = some r0 → W p l e ({ frames := 3, cells := 0, slots := 0, locals := 66 } : Room) s m args below meth c H locs 0 0 (MQ below (Qi (EC D ca ak av) A (wC ad ca fi fl ar) r0) args s 0 0 A) (F0 m 23 ls []) := by
    intro k4 hk4 v1 v2 H locs ls w hl hf
    unfold f_X5_calledGood_23 at hf
    obtain ⟨x_1, ex_1⟩ : ∃ y : Int32, y = v2 + 1 := ⟨_, rfl⟩
    have hf := bindv_eq hf x_1 ex_1
    refine lv_iinc (v := x_1) (lv' := [(2, .int x_1), (0, .ref (ad 15)), (1, .int v1)]) hx hb dX5_calledGood_23 hl (k := 2) rfl (by rw [ex_1]; rfl) (by decide) rfl (fun ls hl => ?_)
    refine lv_goto (tgt := 4) hx hb dX5_calledGood_26 (by decide) ?_
    exact hk4 v1 x_1 H locs ls w (lv_sub hl [1, 2, 0] rfl) hf
  have J4 : ∀ (n : Nat) (v1 : Int32) (v2 : Int32) (H : Heap) (locs : List Loc) (ls : Array Slot), Wd (EC D ca ak av) A s (wC ad ca fi fl ar) H locs → lv_has ls 3 [(0, .ref (ad 15)), (1, .int v1), (2, .int v2)] → f_X5_calledGood_4 ar n v1 v2 = some r0 → W p l e ({ frames := 3, cells := 0, slots := 0, locals := 66 } : Room) s m args below meth c H locs 0 0 (MQ below (Qi (EC D ca ak av) A (wC ad ca fi fl ar) r0) args s 0 0 A) (F0 m 4 ls []) := by
    intro  n
    induction n with
    | zero =>
      intro v1 v2 H locs ls w hl hf
      cases hf
    | succ n ih =>
      intro v1 v2 H locs ls w hl hf
      rw [f_X5_calledGood_4] at hf
      refine lv_iload_n hx hb dX5_calledGood_4 rfl (lv_at hl 2 rfl) ?_
      refine lv_bipush (v := 6) hx hb dX5_calledGood_5 (by decide) ?_
      refine lv_icmp_ge (x := v2) (y := 6) (tgt := 29) hx hb dX5_calledGood_7 (by decide) (fun c_2 => ?_) (fun c_2 => ?_)
      · have hf := if_t hf c_2
        refine lv_iload_n hx hb dX5_calledGood_29 rfl (lv_at hl 1 rfl) ?_
        have hf : some v1 = some r0 := hf
        have q0 := so1 hf
        subst q0
        exact retI B hr hk w dX5_calledGood_30
      · have hf := if_f hf c_2
        refine lv_aload_n hx hb dX5_calledGood_10 rfl (lv_at hl 0 rfl) ?_
        refine lv_iload_n hx hb dX5_calledGood_11 rfl (lv_at hl 2 rfl) ?_
        obtain ⟨r_3, er_4, hf⟩ := bind1_eq hf
        refine callVI (As := [.int v2]) (rest := []) B w (c_X5_callersGood l D ca ak av ad fi fl ar v2 er_4) (gV kt3_239 kt4_1 kp1_9 kt1_9 kt4_2) hdV_X5_callersGood 15 rfl rfl rfl rfl ⟨Nat.le_of_ble_eq_true rfl, Nat.le_of_ble_eq_true rfl⟩ rfl hl.1 rfl (Nat.le_of_ble_eq_true rfl) dX5_calledGood_12 ⟨Nat.le_of_ble_eq_true rfl, Nat.le_of_ble_eq_true rfl⟩ (fun H locs w => ?_)
        refine lv_bipush (v := 6) hx hb dX5_calledGood_15 (by decide) ?_
        refine lv_icmp_ne (x := r_3) (y := 6) (tgt := 23) hx hb dX5_calledGood_17 (by decide) (fun c_5 => ?_) (fun c_5 => ?_)
        · have hf := if_f hf c_5
          exact J23 _ ih v1 v2 H locs ls w (lv_sub hl [0, 1, 2] rfl) hf
        · have hf := if_t hf c_5
          obtain ⟨x_6, ex_6⟩ : ∃ y : Int32, y = v1 + 1 := ⟨_, rfl⟩
          have hf := bindv_eq hf x_6 ex_6
          refine lv_iinc (v := x_6) (lv' := [(1, .int x_6), (0, .ref (ad 15)), (2, .int v2)]) hx hb dX5_calledGood_20 hl (k := 1) rfl (by rw [ex_6]; rfl) (by decide) rfl (fun ls hl => ?_)
          exact J23 _ ih x_6 v2 H locs ls w (lv_sub hl [1, 0, 2] rfl) hf
  unfold f_X5_calledGood at hf
  refine (show ∀ (H : Heap) (locs : List Loc), Wd (EC D ca ak av) A s (wC ad ca fi fl ar) H locs → W p l e ({ frames := 3, cells := 0, slots := 0, locals := 66 } : Room) s m args below meth c H locs 0 0 (MQ below (Qi (EC D ca ak av) A (wC ad ca fi fl ar) r0) args s 0 0 A) (F0 m 0 ls []) from ?_) s.heap [] w
  intro H locs w
  refine lv_iconst (v := 0) hx hb dX5_calledGood_0 (by decide) ?_
  refine lv_istore_n (lv' := [(1, .int 0), (0, .ref (ad 15))]) hx hb dX5_calledGood_1 rfl hl (by decide) rfl (fun ls hl => ?_)
  refine lv_iconst (v := 0) hx hb dX5_calledGood_2 (by decide) ?_
  refine lv_istore_n (lv' := [(2, .int 0), (1, .int 0), (0, .ref (ad 15))]) hx hb dX5_calledGood_3 rfl hl (by decide) rfl (fun ls hl => ?_)
  exact J4  5000 0 0 H locs ls w (lv_sub hl [2, 1, 0] rfl) hf
def f_X5_clear_4   : Nat → (Int32) → (Int32) → (Nat → Nat → Int32) → Option (Int32 × (Nat → Nat → Int32))
  | 0, _, _, _ => none
  | n + 1, v1, v2, ar => if (6 ≤ v2 : Prop) then (some (v1, ar)) else (gd v2 6 (bindv (f_J6_bitCount_0f7a4 (ar 16 (Int32.toNatClampNeg v2))) (fun r_3 => bindv ((v1 + (6 - r_3)) : Int32) (fun x_5 => gd v2 6 (bindv (updA ar 16 (upd (ar 16) (Int32.toNatClampNeg v2) 63)) (fun ar_7 => gd v2 6 (bindv (updA ar_7 17 (upd (ar_7 17) (Int32.toNatClampNeg v2) 0)) (fun ar_9 => bindv (v2 + 1 : Int32) (fun x_10 => (f_X5_clear_4 n) x_5 x_10 ar_9)))))))))
def f_X5_clear (ar : Nat → Nat → Int32) : Option (Int32 × (Nat → Nat → Int32)) := f_X5_clear_4  5000 0 0 ar
set_option maxHeartbeats 4000000 in
set_option maxRecDepth 100000 in
theorem c_X5_clear (l : Launch) (D : va_G) (ca : Nat → ClassId) (ak av ad : Nat → Nat) (fi : Nat → Int32) (fl : Nat → Int64) (ar : Nat → Nat → Int32) {r0 : Int32} {ar0 : Nat → Nat → Int32} (hf : f_X5_clear ar = some (r0, ar0)) : MtI l yX5_clear cX5_clear 3 { frames := 1, cells := 0, slots := 0, locals := 20 } (EC D ca ak av) [.ref (ad 15)] (wC ad ca fi fl ar) (wC ad ca fi fl ar0) r0 := by
  refine MtI.of (own := RX5) (by decide +kernel) rfl (Nat.le_of_ble_eq_true rfl) ?_
  intro p e s m args below meth c A B hr hk w ls hl
  have hx := B.1.1
  have hb := B.1.2.1
  have hown := B.1.2.2.2.1
  have hts := B.1.2.2.2.2
  have hl : lv_has ls 3 [(0, .ref (ad 15))] := hl
  have J4 : ∀ (n : Nat) (v1 : Int32) (v2 : Int32) (ar : Nat → Nat → Int32) (H : Heap) (locs : List Loc) (ls : Array Slot), Wd (EC D ca ak av) A s (wC ad ca fi fl ar) H locs → lv_has ls 3 [(0, .ref (ad 15)), (1, .int v1), (2, .int v2)] → f_X5_clear_4  n v1 v2 ar = some (r0, ar0) → W p l e ({ frames := 1, cells := 0, slots := 0, locals := 20 } : Room) s m args below meth c H locs 0 0 (MQ below (Qi (EC D ca ak av) A (wC ad ca fi fl ar0) r0) args s 0 0 A) (F0 m 4 ls []) := by
    intro  n
    induction n with
    | zero =>
      intro v1 v2 ar H locs ls w hl hf
      cases hf
    | succ n ih =>
      intro v1 v2 ar H locs ls w hl hf
      rw [f_X5_clear_4] at hf
      refine lv_iload_n hx hb dX5_clear_4 rfl (lv_at hl 2 rfl) ?_
      refine lv_bipush (v := 6) hx hb dX5_clear_5 (by decide) ?_
      refine lv_icmp_ge (x := v2) (y := 6) (tgt := 46) hx hb dX5_clear_7 (by decide) (fun c_1 => ?_) (fun c_1 => ?_)
      · have hf := if_t hf c_1
        refine lv_iload_n hx hb dX5_clear_46 rfl (lv_at hl 1 rfl) ?_
        have hf : some (v1, ar) = some (r0, ar0) := hf
        obtain ⟨q0, q1⟩ := so2 hf
        subst q0
        subst q1
        exact retI B hr hk w dX5_clear_47
      · have hf := if_f hf c_1
        refine lv_iload_n hx hb dX5_clear_10 rfl (lv_at hl 1 rfl) ?_
        refine lv_bipush (v := 6) hx hb dX5_clear_11 (by decide) ?_
        refine lv_aload_n hx hb dX5_clear_13 rfl (lv_at hl 0 rfl) ?_
        refine gfC_15_0 B w kt2_33 dX5_clear_14 ?_
        refine lv_iload_n hx hb dX5_clear_17 rfl (lv_at hl 2 rfl) ?_
        obtain ⟨hi_2, hf⟩ := gd_eq hf
        refine alC_16 B w hi_2 dX5_clear_18 ?_
        obtain ⟨r_3, er_4⟩ : ∃ y, f_J6_bitCount_0f7a4 (ar 16 (Int32.toNatClampNeg v2)) = y := ⟨_, rfl⟩
        have hf := bindv_eq hf r_3 er_4.symm
        refine callSI (As := [.int (ar 16 (Int32.toNatClampNeg v2))]) (rest := [.int 6, .int v1]) B w (c_J6_bitCount_0f7a4 l _ (ar 16 (Int32.toNatClampNeg v2)) er_4) (gS kt2_27 kt2_28 kt1_10 kt2_29) hdS_J6_bitCount_0f7a4 rfl rfl ⟨Nat.le_of_ble_eq_true rfl, Nat.le_of_ble_eq_true rfl⟩ rfl hl.1 rfl (Nat.le_of_ble_eq_true rfl) dX5_clear_19 ⟨Nat.le_of_ble_eq_true rfl, Nat.le_of_ble_eq_true rfl⟩ (fun H locs w => ?_)
        refine lv_isub (x := 6) (y := r_3) hx hb dX5_clear_22 ?_
        refine lv_iadd (x := v1) (y := (6 - r_3)) hx hb dX5_clear_23 ?_
        refine lv_topi (fun x_5 ex_5 => ?_)
        have hf := bindv_eq hf x_5 ex_5
        refine lv_istore_n (lv' := [(1, .int x_5), (0, .ref (ad 15)), (2, .int v2)]) hx hb dX5_clear_24 rfl hl (by decide) rfl (fun ls hl => ?_)
        refine lv_aload_n hx hb dX5_clear_25 rfl (lv_at hl 1 rfl) ?_
        refine gfC_15_0 B w kt2_33 dX5_clear_26 ?_
        refine lv_iload_n hx hb dX5_clear_29 rfl (lv_at hl 2 rfl) ?_
        refine lv_bipush (v := 63) hx hb dX5_clear_30 (by decide) ?_
        obtain ⟨hi_6, hf⟩ := gd_eq hf
        refine asC_16 (x := 63) B w hi_6 dX5_clear_32 (fun H locs ar_7 ear_7 w => ?_)
        have hf := bindv_eq hf ar_7 ear_7
        refine lv_aload_n hx hb dX5_clear_33 rfl (lv_at hl 1 rfl) ?_
        refine gfC_15_1 B w kt2_34 dX5_clear_34 ?_
        refine lv_iload_n hx hb dX5_clear_37 rfl (lv_at hl 2 rfl) ?_
        refine lv_iconst (v := 0) hx hb dX5_clear_38 (by decide) ?_
        obtain ⟨hi_8, hf⟩ := gd_eq hf
        refine asC_17 (x := 0) B w hi_8 dX5_clear_39 (fun H locs ar_9 ear_9 w => ?_)
        have hf := bindv_eq hf ar_9 ear_9
        obtain ⟨x_10, ex_10⟩ : ∃ y : Int32, y = v2 + 1 := ⟨_, rfl⟩
        have hf := bindv_eq hf x_10 ex_10
        refine lv_iinc (v := x_10) (lv' := [(2, .int x_10), (1, .int x_5), (0, .ref (ad 15))]) hx hb dX5_clear_40 hl (k := 2) rfl (by rw [ex_10]; rfl) (by decide) rfl (fun ls hl => ?_)
        refine lv_goto (tgt := 4) hx hb dX5_clear_43 (by decide) ?_
        exact ih x_5 x_10 ar_9 H locs ls w (lv_sub hl [2, 1, 0] rfl) hf
  unfold f_X5_clear at hf
  refine (show ∀ (H : Heap) (locs : List Loc), Wd (EC D ca ak av) A s (wC ad ca fi fl ar) H locs → W p l e ({ frames := 1, cells := 0, slots := 0, locals := 20 } : Room) s m args below meth c H locs 0 0 (MQ below (Qi (EC D ca ak av) A (wC ad ca fi fl ar0) r0) args s 0 0 A) (F0 m 0 ls []) from ?_) s.heap [] w
  intro H locs w
  refine lv_iconst (v := 0) hx hb dX5_clear_0 (by decide) ?_
  refine lv_istore_n (lv' := [(1, .int 0), (0, .ref (ad 15))]) hx hb dX5_clear_1 rfl hl (by decide) rfl (fun ls hl => ?_)
  refine lv_iconst (v := 0) hx hb dX5_clear_2 (by decide) ?_
  refine lv_istore_n (lv' := [(2, .int 0), (1, .int 0), (0, .ref (ad 15))]) hx hb dX5_clear_3 rfl hl (by decide) rfl (fun ls hl => ?_)
  exact J4  5000 0 0 ar H locs ls w (lv_sub hl [2, 1, 0] rfl) hf
