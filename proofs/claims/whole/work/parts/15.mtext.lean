def f_X9_in (v0 : Int64) (v2 : Int64) (v4 : Int64) : Int32 := if ((lg_cmp v0 v2) < 0 : Prop) then (0) else (if (0 < (lg_cmp v0 v4) : Prop) then (0) else (1))
set_option maxHeartbeats 4000000 in
set_option maxRecDepth 100000 in
theorem c_X9_in (l : Launch) (E : VE) (v0 : Int64) (v2 : Int64) (v4 : Int64) {r0 : Int32} (hf : f_X9_in v0 v2 v4 = r0) : MtZ l yX9_in cX9_in 6 { frames := 0, cells := 0, slots := 0, locals := 0 } E [.long v0, .long v2, .long v4] [] [] r0 := by
  refine MtZ.of (own := RX9) (by decide +kernel) rfl (Nat.le_of_ble_eq_true rfl) ?_
  intro p e s m args below meth c A B hr hk w ls hl
  have hx := B.1.1
  have hb := B.1.2.1
  have hown := B.1.2.2.2.1
  have hts := B.1.2.2.2.2
  have hl : lv_has ls 6 [(0, .long v0), (2, .long v2), (4, .long v4)] := hl
  unfold f_X9_in at hf
  refine (show ∀ (H : Heap) (locs : List Loc), Wd E A s [] H locs → W p l e ({ frames := 0, cells := 0, slots := 0, locals := 0 } : Room) s m args below meth c H locs 0 0 (MQ below (Qz E A [] r0) args s 0 0 A) (F0 m 0 ls []) from ?_) s.heap [] w
  intro H locs w
  refine lv_lload_n hx hb dX9_in_0 rfl (lv_at hl 0 rfl) ?_
  refine lv_lload_n hx hb dX9_in_1 rfl (lv_at hl 1 rfl) ?_
  refine W.lcmp hx hb dX9_in_2 ?_
  refine lv_if_lt (x := (lg_cmp v0 v2)) (tgt := 17) hx hb dX9_in_3 (by decide) (fun c_1 => ?_) (fun c_1 => ?_)
  · have hf := if_t hf c_1
    refine lv_iconst (v := 0) hx hb dX9_in_17 (by decide) ?_
    have hf : 0 = r0 := hf
    subst hf
    exact retZ B hr hk w rfl dX9_in_18
  · have hf := if_f hf c_1
    refine lv_lload_n hx hb dX9_in_6 rfl (lv_at hl 0 rfl) ?_
    refine lv_lload hx hb dX9_in_7 (lv_at hl 2 rfl) ?_
    refine W.lcmp hx hb dX9_in_9 ?_
    refine lv_if_gt (x := (lg_cmp v0 v4)) (tgt := 17) hx hb dX9_in_10 (by decide) (fun c_2 => ?_) (fun c_2 => ?_)
    · have hf := if_t hf c_2
      refine lv_iconst (v := 0) hx hb dX9_in_17 (by decide) ?_
      have hf : 0 = r0 := hf
      subst hf
      exact retZ B hr hk w rfl dX9_in_18
    · have hf := if_f hf c_2
      refine lv_iconst (v := 1) hx hb dX9_in_13 (by decide) ?_
      refine lv_goto (tgt := 18) hx hb dX9_in_14 (by decide) ?_
      have hf : 1 = r0 := hf
      subst hf
      exact retZ B hr hk w rfl dX9_in_18
def f_X9_one (v0 : Int32) : Int32 := if (v0 = 0 : Prop) then (0) else (1)
set_option maxHeartbeats 4000000 in
set_option maxRecDepth 100000 in
theorem c_X9_one (l : Launch) (E : VE) (v0 : Int32) {r0 : Int32} (hf : f_X9_one v0 = r0) : MtI l yX9_one cX9_one 1 { frames := 0, cells := 0, slots := 0, locals := 0 } E [.int v0] [] [] r0 := by
  refine MtI.of (own := RX9) (by decide +kernel) rfl (Nat.le_of_ble_eq_true rfl) ?_
  intro p e s m args below meth c A B hr hk w ls hl
  have hx := B.1.1
  have hb := B.1.2.1
  have hown := B.1.2.2.2.1
  have hts := B.1.2.2.2.2
  have hl : lv_has ls 1 [(0, .int v0)] := hl
  unfold f_X9_one at hf
  refine (show ∀ (H : Heap) (locs : List Loc), Wd E A s [] H locs → W p l e ({ frames := 0, cells := 0, slots := 0, locals := 0 } : Room) s m args below meth c H locs 0 0 (MQ below (Qi E A [] r0) args s 0 0 A) (F0 m 0 ls []) from ?_) s.heap [] w
  intro H locs w
  refine lv_iload_n hx hb dX9_one_0 rfl (lv_at hl 0 rfl) ?_
  refine lv_if_eq (x := v0) (tgt := 8) hx hb dX9_one_1 (by decide) (fun c_1 => ?_) (fun c_1 => ?_)
  · have hf := if_t hf c_1
    refine lv_iconst (v := 0) hx hb dX9_one_8 (by decide) ?_
    have hf : 0 = r0 := hf
    subst hf
    exact retI B hr hk w dX9_one_9
  · have hf := if_f hf c_1
    refine lv_iconst (v := 1) hx hb dX9_one_4 (by decide) ?_
    refine lv_goto (tgt := 9) hx hb dX9_one_5 (by decide) ?_
    have hf : 1 = r0 := hf
    subst hf
    exact retI B hr hk w dX9_one_9
def f_X9_atFirst_19    : Int32 := 1
def f_X9_atFirst (v0 : Int32) : Int32 := if (v0 = 0 : Prop) then (f_X9_atFirst_19  ) else (if (v0 = 2 : Prop) then (f_X9_atFirst_19  ) else (if (v0 = 3 : Prop) then (f_X9_atFirst_19  ) else (if (v0 = 5 : Prop) then (f_X9_atFirst_19  ) else (if (v0 = 1 : Prop) then (3) else (if (v0 = 6 : Prop) then (10) else (if (v0 = 7 : Prop) then (153) else (0)))))))
set_option maxHeartbeats 4000000 in
set_option maxRecDepth 100000 in
theorem c_X9_atFirst (l : Launch) (E : VE) (v0 : Int32) {r0 : Int32} (hf : f_X9_atFirst v0 = r0) : MtI l yX9_atFirst cX9_atFirst 1 { frames := 0, cells := 0, slots := 0, locals := 0 } E [.int v0] [] [] r0 := by
  refine MtI.of (own := RX9) (by decide +kernel) rfl (Nat.le_of_ble_eq_true rfl) ?_
  intro p e s m args below meth c A B hr hk w ls hl
  have hx := B.1.1
  have hb := B.1.2.1
  have hown := B.1.2.2.2.1
  have hts := B.1.2.2.2.2
  have hl : lv_has ls 1 [(0, .int v0)] := hl
  have J19 : ∀  (H : Heap) (locs : List Loc) (ls : Array Slot), Wd E A s [] H locs → lv_has ls 1 [] → f_X9_atFirst_19   = r0 → W p l e ({ frames := 0, cells := 0, slots := 0, locals := 0 } : Room) s m args below meth c H locs 0 0 (MQ below (Qi E A [] r0) args s 0 0 A) (F0 m 19 ls []) := by
    intro   H locs ls w hl hf
    unfold f_X9_atFirst_19 at hf
    refine lv_iconst (v := 1) hx hb dX9_atFirst_19 (by decide) ?_
    refine lv_goto (tgt := 56) hx hb dX9_atFirst_20 (by decide) ?_
    have hf : 1 = r0 := hf
    subst hf
    exact retI B hr hk w dX9_atFirst_56
  unfold f_X9_atFirst at hf
  refine (show ∀ (H : Heap) (locs : List Loc), Wd E A s [] H locs → W p l e ({ frames := 0, cells := 0, slots := 0, locals := 0 } : Room) s m args below meth c H locs 0 0 (MQ below (Qi E A [] r0) args s 0 0 A) (F0 m 0 ls []) from ?_) s.heap [] w
  intro H locs w
  refine lv_iload_n hx hb dX9_atFirst_0 rfl (lv_at hl 0 rfl) ?_
  refine lv_if_eq (x := v0) (tgt := 19) hx hb dX9_atFirst_1 (by decide) (fun c_1 => ?_) (fun c_1 => ?_)
  · have hf := if_t hf c_1
    exact J19   H locs ls w (lv_sub hl [] rfl) hf
  · have hf := if_f hf c_1
    refine lv_iload_n hx hb dX9_atFirst_4 rfl (lv_at hl 0 rfl) ?_
    refine lv_iconst (v := 2) hx hb dX9_atFirst_5 (by decide) ?_
    refine lv_icmp_eq (x := v0) (y := 2) (tgt := 19) hx hb dX9_atFirst_6 (by decide) (fun c_2 => ?_) (fun c_2 => ?_)
    · have hf := if_t hf c_2
      exact J19   H locs ls w (lv_sub hl [] rfl) hf
    · have hf := if_f hf c_2
      refine lv_iload_n hx hb dX9_atFirst_9 rfl (lv_at hl 0 rfl) ?_
      refine lv_iconst (v := 3) hx hb dX9_atFirst_10 (by decide) ?_
      refine lv_icmp_eq (x := v0) (y := 3) (tgt := 19) hx hb dX9_atFirst_11 (by decide) (fun c_3 => ?_) (fun c_3 => ?_)
      · have hf := if_t hf c_3
        exact J19   H locs ls w (lv_sub hl [] rfl) hf
      · have hf := if_f hf c_3
        refine lv_iload_n hx hb dX9_atFirst_14 rfl (lv_at hl 0 rfl) ?_
        refine lv_iconst (v := 5) hx hb dX9_atFirst_15 (by decide) ?_
        refine lv_icmp_ne (x := v0) (y := 5) (tgt := 23) hx hb dX9_atFirst_16 (by decide) (fun c_4 => ?_) (fun c_4 => ?_)
        · have hf := if_f hf c_4
          refine lv_iload_n hx hb dX9_atFirst_23 rfl (lv_at hl 0 rfl) ?_
          refine lv_iconst (v := 1) hx hb dX9_atFirst_24 (by decide) ?_
          refine lv_icmp_ne (x := v0) (y := 1) (tgt := 32) hx hb dX9_atFirst_25 (by decide) (fun c_5 => ?_) (fun c_5 => ?_)
          · have hf := if_f hf c_5
            refine lv_iload_n hx hb dX9_atFirst_32 rfl (lv_at hl 0 rfl) ?_
            refine lv_bipush (v := 6) hx hb dX9_atFirst_33 (by decide) ?_
            refine lv_icmp_ne (x := v0) (y := 6) (tgt := 43) hx hb dX9_atFirst_35 (by decide) (fun c_6 => ?_) (fun c_6 => ?_)
            · have hf := if_f hf c_6
              refine lv_iload_n hx hb dX9_atFirst_43 rfl (lv_at hl 0 rfl) ?_
              refine lv_bipush (v := 7) hx hb dX9_atFirst_44 (by decide) ?_
              refine lv_icmp_ne (x := v0) (y := 7) (tgt := 55) hx hb dX9_atFirst_46 (by decide) (fun c_7 => ?_) (fun c_7 => ?_)
              · have hf := if_f hf c_7
                refine lv_iconst (v := 0) hx hb dX9_atFirst_55 (by decide) ?_
                have hf : 0 = r0 := hf
                subst hf
                exact retI B hr hk w dX9_atFirst_56
              · have hf := if_t hf c_7
                refine lv_sipush (v := 153) hx hb dX9_atFirst_49 (by decide) ?_
                refine lv_goto (tgt := 56) hx hb dX9_atFirst_52 (by decide) ?_
                have hf : 153 = r0 := hf
                subst hf
                exact retI B hr hk w dX9_atFirst_56
            · have hf := if_t hf c_6
              refine lv_bipush (v := 10) hx hb dX9_atFirst_38 (by decide) ?_
              refine lv_goto (tgt := 56) hx hb dX9_atFirst_40 (by decide) ?_
              have hf : 10 = r0 := hf
              subst hf
              exact retI B hr hk w dX9_atFirst_56
          · have hf := if_t hf c_5
            refine lv_iconst (v := 3) hx hb dX9_atFirst_28 (by decide) ?_
            refine lv_goto (tgt := 56) hx hb dX9_atFirst_29 (by decide) ?_
            have hf : 3 = r0 := hf
            subst hf
            exact retI B hr hk w dX9_atFirst_56
        · have hf := if_t hf c_4
          exact J19   H locs ls w (lv_sub hl [] rfl) hf
def f_X9_isRule (v0 : Int32) : Int32 := bindv (f_X9_in (Int32.toInt64 v0) 0 4095) (fun r_1 => r_1)
set_option maxHeartbeats 4000000 in
set_option maxRecDepth 100000 in
theorem c_X9_isRule (l : Launch) (E : VE) (v0 : Int32) {r0 : Int32} (hf : f_X9_isRule v0 = r0) : MtZ l yX9_isRule cX9_isRule 1 { frames := 1, cells := 0, slots := 0, locals := 25 } E [.int v0] [] [] r0 := by
  refine MtZ.of (own := RX9) (by decide +kernel) rfl (Nat.le_of_ble_eq_true rfl) ?_
  intro p e s m args below meth c A B hr hk w ls hl
  have hx := B.1.1
  have hb := B.1.2.1
  have hown := B.1.2.2.2.1
  have hts := B.1.2.2.2.2
  have hl : lv_has ls 1 [(0, .int v0)] := hl
  unfold f_X9_isRule at hf
  refine (show ∀ (H : Heap) (locs : List Loc), Wd E A s [] H locs → W p l e ({ frames := 1, cells := 0, slots := 0, locals := 25 } : Room) s m args below meth c H locs 0 0 (MQ below (Qz E A [] r0) args s 0 0 A) (F0 m 0 ls []) from ?_) s.heap [] w
  intro H locs w
  refine lv_iload_n hx hb dX9_isRule_0 rfl (lv_at hl 0 rfl) ?_
  refine lv_i2l hx hb dX9_isRule_1 rfl ?_
  refine lv_lconst (v := 0) hx hb dX9_isRule_2 (by decide) ?_
  refine lv_ldc2 (own := RX9) (v := 4095) hx hb hown (hts _ kt4_167) dX9_isRule_3 ?_
  obtain ⟨r_1, er_2⟩ : ∃ y, f_X9_in (Int32.toInt64 v0) 0 4095 = y := ⟨_, rfl⟩
  have hf := bindv_eq hf r_1 er_2.symm
  refine callSZ (As := [.long (Int32.toInt64 v0), .long 0, .long 4095]) (rest := []) B w (c_X9_in l _ (Int32.toInt64 v0) 0 4095 er_2) (gS kt4_95 kt4_96 kt1_11 kt4_97) hdS_X9_in rfl rfl ⟨Nat.le_of_ble_eq_true rfl, Nat.le_of_ble_eq_true rfl⟩ rfl hl.1 rfl (Nat.le_of_ble_eq_true rfl) dX9_isRule_6 ⟨Nat.le_of_ble_eq_true rfl, Nat.le_of_ble_eq_true rfl⟩ (fun H locs w hzr_1 => ?_)
  have hf : r_1 = r0 := hf
  subst hf
  exact retZ B hr hk w hzr_1 dX9_isRule_9
def f_X9_isShare (v0 : Int32) : Int32 := bindv (f_X9_in (Int32.toInt64 v0) 0 1000) (fun r_1 => r_1)
set_option maxHeartbeats 4000000 in
set_option maxRecDepth 100000 in
theorem c_X9_isShare (l : Launch) (E : VE) (v0 : Int32) {r0 : Int32} (hf : f_X9_isShare v0 = r0) : MtZ l yX9_isShare cX9_isShare 1 { frames := 1, cells := 0, slots := 0, locals := 25 } E [.int v0] [] [] r0 := by
  refine MtZ.of (own := RX9) (by decide +kernel) rfl (Nat.le_of_ble_eq_true rfl) ?_
  intro p e s m args below meth c A B hr hk w ls hl
  have hx := B.1.1
  have hb := B.1.2.1
  have hown := B.1.2.2.2.1
  have hts := B.1.2.2.2.2
  have hl : lv_has ls 1 [(0, .int v0)] := hl
  unfold f_X9_isShare at hf
  refine (show ∀ (H : Heap) (locs : List Loc), Wd E A s [] H locs → W p l e ({ frames := 1, cells := 0, slots := 0, locals := 25 } : Room) s m args below meth c H locs 0 0 (MQ below (Qz E A [] r0) args s 0 0 A) (F0 m 0 ls []) from ?_) s.heap [] w
  intro H locs w
  refine lv_iload_n hx hb dX9_isShare_0 rfl (lv_at hl 0 rfl) ?_
  refine lv_i2l hx hb dX9_isShare_1 rfl ?_
  refine lv_lconst (v := 0) hx hb dX9_isShare_2 (by decide) ?_
  refine lv_ldc2 (own := RX9) (v := 1000) hx hb hown (hts _ kt4_185) dX9_isShare_3 ?_
  obtain ⟨r_1, er_2⟩ : ∃ y, f_X9_in (Int32.toInt64 v0) 0 1000 = y := ⟨_, rfl⟩
  have hf := bindv_eq hf r_1 er_2.symm
  refine callSZ (As := [.long (Int32.toInt64 v0), .long 0, .long 1000]) (rest := []) B w (c_X9_in l _ (Int32.toInt64 v0) 0 1000 er_2) (gS kt4_95 kt4_96 kt1_11 kt4_97) hdS_X9_in rfl rfl ⟨Nat.le_of_ble_eq_true rfl, Nat.le_of_ble_eq_true rfl⟩ rfl hl.1 rfl (Nat.le_of_ble_eq_true rfl) dX9_isShare_6 ⟨Nat.le_of_ble_eq_true rfl, Nat.le_of_ble_eq_true rfl⟩ (fun H locs w hzr_1 => ?_)
  have hf : r_1 = r0 := hf
  subst hf
  exact retZ B hr hk w hzr_1 dX9_isShare_9
def f_X9_feed_36   : Nat → (Int64) → (Int32) → (Nat → Int32) → (Nat → Nat → Int32) → Option (Int32 × (Nat → Int32) × (Nat → Nat → Int32))
  | 0, _, _, _, _ => none
  | n + 1, v2, v4, fi, ar => if (v4 < 0 : Prop) then (some ((fi 1), fi, ar)) else (gd (fi 1) 120 (bindv (updA ar 3 (upd (ar 3) (Int32.toNatClampNeg (fi 1)) (Int64.toInt32 ((v2 >>> (Int32.toInt64 (8 * v4) &&& 63)) &&& 255)))) (fun ar_3 => bindv (upd fi 1 ((fi 1) + 1)) (fun fi_4 => bindv (v4 + (-1) : Int32) (fun x_5 => (f_X9_feed_36 n) v2 x_5 fi_4 ar_3)))))
def f_X9_feed (fi : Nat → Int32) (ar : Nat → Nat → Int32) (v1 : Int32) (v2 : Int64) : Option (Int32 × (Nat → Int32) × (Nat → Nat → Int32)) := bindv (f_X9_in (Int32.toInt64 v1) 1 8) (fun r_6 => if (r_6 = 0 : Prop) then (some ((-1002), fi, ar)) else (if (((fi 1) + v1) ≤ 120 : Prop) then (bindv ((v1 - 1) : Int32) (fun x_10 => f_X9_feed_36  5000 v2 x_10 fi ar)) else (some ((-1004), fi, ar))))
set_option maxHeartbeats 4000000 in
set_option maxRecDepth 100000 in
theorem c_X9_feed (l : Launch) (D : va_G) (ca : Nat → ClassId) (ak av ad : Nat → Nat) (fi : Nat → Int32) (fl : Nat → Int64) (ar : Nat → Nat → Int32) (v1 : Int32) (v2 : Int64) {r0 : Int32} {fi0 : Nat → Int32} {ar0 : Nat → Nat → Int32} (hf : f_X9_feed fi ar v1 v2 = some (r0, fi0, ar0)) : MtI l yX9_feed cX9_feed 5 { frames := 1, cells := 0, slots := 0, locals := 25 } (EM D ca ak av) [.ref (ad 0), .int v1, .long v2] (wM ad ca fi fl ar) (wM ad ca fi0 fl ar0) r0 := by
  refine MtI.of (own := RX9) (by decide +kernel) rfl (Nat.le_of_ble_eq_true rfl) ?_
  intro p e s m args below meth c A B hr hk w ls hl
  have hx := B.1.1
  have hb := B.1.2.1
  have hown := B.1.2.2.2.1
  have hts := B.1.2.2.2.2
  have hl : lv_has ls 5 [(0, .ref (ad 0)), (1, .int v1), (2, .long v2)] := hl
  have J36 : ∀ (n : Nat) (v2 : Int64) (v4 : Int32) (fi : Nat → Int32) (ar : Nat → Nat → Int32) (H : Heap) (locs : List Loc) (ls : Array Slot), Wd (EM D ca ak av) A s (wM ad ca fi fl ar) H locs → lv_has ls 5 [(0, .ref (ad 0)), (2, .long v2), (4, .int v4)] → f_X9_feed_36  n v2 v4 fi ar = some (r0, fi0, ar0) → W p l e ({ frames := 1, cells := 0, slots := 0, locals := 25 } : Room) s m args below meth c H locs 0 0 (MQ below (Qi (EM D ca ak av) A (wM ad ca fi0 fl ar0) r0) args s 0 0 A) (F0 m 36 ls []) := by
    intro  n
    induction n with
    | zero =>
      intro v2 v4 fi ar H locs ls w hl hf
      cases hf
    | succ n ih =>
      intro v2 v4 fi ar H locs ls w hl hf
      rw [f_X9_feed_36] at hf
      refine lv_iload hx hb dX9_feed_36 (lv_at hl 2 rfl) ?_
      refine lv_if_lt (x := v4) (tgt := 78) hx hb dX9_feed_38 (by decide) (fun c_1 => ?_) (fun c_1 => ?_)
      · have hf := if_t hf c_1
        refine lv_aload_n hx hb dX9_feed_78 rfl (lv_at hl 0 rfl) ?_
        refine gfM_0_4 B w kt4_29 dX9_feed_79 ?_
        have hf : some ((fi 1), fi, ar) = some (r0, fi0, ar0) := hf
        obtain ⟨q0, q1, q2⟩ := so3 hf
        subst q0
        subst q1
        subst q2
        exact retI B hr hk w dX9_feed_82
      · have hf := if_f hf c_1
        refine lv_aload_n hx hb dX9_feed_41 rfl (lv_at hl 0 rfl) ?_
        refine gfM_0_3 B w kt4_28 dX9_feed_42 ?_
        refine lv_aload_n hx hb dX9_feed_45 rfl (lv_at hl 0 rfl) ?_
        refine gfM_0_4 B w kt4_29 dX9_feed_46 ?_
        refine lv_lload_n hx hb dX9_feed_49 rfl (lv_at hl 1 rfl) ?_
        refine lv_bipush (v := 8) hx hb dX9_feed_50 (by decide) ?_
        refine lv_iload hx hb dX9_feed_52 (lv_at hl 2 rfl) ?_
        refine lv_imul (x := 8) (y := v4) hx hb dX9_feed_54 ?_
        refine lv_lshr hx hb dX9_feed_55 rfl ?_
        refine lv_ldc2 (own := RX9) (v := 255) hx hb hown (hts _ kt4_98) dX9_feed_56 ?_
        refine lv_land (x := (v2 >>> (Int32.toInt64 (8 * v4) &&& 63))) (y := 255) hx hb dX9_feed_59 ?_
        refine lv_l2i hx hb dX9_feed_60 rfl ?_
        obtain ⟨hi_2, hf⟩ := gd_eq hf
        refine asM_3 (x := (Int64.toInt32 ((v2 >>> (Int32.toInt64 (8 * v4) &&& 63)) &&& 255))) B w hi_2 dX9_feed_61 (fun H locs ar_3 ear_3 w => ?_)
        have hf := bindv_eq hf ar_3 ear_3
        refine lv_aload_n hx hb dX9_feed_62 rfl (lv_at hl 0 rfl) ?_
        refine lv_dup hx hb dX9_feed_63 rfl ?_
        refine gfM_0_4 B w kt4_29 dX9_feed_64 ?_
        refine lv_iconst (v := 1) hx hb dX9_feed_67 (by decide) ?_
        refine lv_iadd (x := (fi 1)) (y := 1) hx hb dX9_feed_68 ?_
        refine pfM_0_4 (v := ((fi 1) + 1)) B w kt4_29 dX9_feed_69 (fun H locs fi_4 efi_4 w => ?_)
        have hf := bindv_eq hf fi_4 efi_4
        obtain ⟨x_5, ex_5⟩ : ∃ y : Int32, y = v4 + (-1) := ⟨_, rfl⟩
        have hf := bindv_eq hf x_5 ex_5
        refine lv_iinc (v := x_5) (lv' := [(4, .int x_5), (0, .ref (ad 0)), (2, .long v2)]) hx hb dX9_feed_72 hl (k := 2) rfl (by rw [ex_5]; rfl) (by decide) rfl (fun ls hl => ?_)
        refine lv_goto (tgt := 36) hx hb dX9_feed_75 (by decide) ?_
        exact ih v2 x_5 fi_4 ar_3 H locs ls w (lv_sub hl [1, 2, 0] rfl) hf
  unfold f_X9_feed at hf
  refine (show ∀ (H : Heap) (locs : List Loc), Wd (EM D ca ak av) A s (wM ad ca fi fl ar) H locs → W p l e ({ frames := 1, cells := 0, slots := 0, locals := 25 } : Room) s m args below meth c H locs 0 0 (MQ below (Qi (EM D ca ak av) A (wM ad ca fi0 fl ar0) r0) args s 0 0 A) (F0 m 0 ls []) from ?_) s.heap [] w
  intro H locs w
  refine lv_iload_n hx hb dX9_feed_0 rfl (lv_at hl 1 rfl) ?_
  refine lv_i2l hx hb dX9_feed_1 rfl ?_
  refine lv_lconst (v := 1) hx hb dX9_feed_2 (by decide) ?_
  refine lv_ldc2 (own := RX9) (v := 8) hx hb hown (hts _ kt4_94) dX9_feed_3 ?_
  obtain ⟨r_6, er_7⟩ : ∃ y, f_X9_in (Int32.toInt64 v1) 1 8 = y := ⟨_, rfl⟩
  have hf := bindv_eq hf r_6 er_7.symm
  refine callSZ (As := [.long (Int32.toInt64 v1), .long 1, .long 8]) (rest := []) B w (c_X9_in l _ (Int32.toInt64 v1) 1 8 er_7) (gS kt4_95 kt4_96 kt1_11 kt4_97) hdS_X9_in rfl rfl ⟨Nat.le_of_ble_eq_true rfl, Nat.le_of_ble_eq_true rfl⟩ rfl hl.1 rfl (Nat.le_of_ble_eq_true rfl) dX9_feed_6 ⟨Nat.le_of_ble_eq_true rfl, Nat.le_of_ble_eq_true rfl⟩ (fun H locs w hzr_6 => ?_)
  refine lv_if_ne (x := r_6) (tgt := 16) hx hb dX9_feed_9 (by decide) (fun c_8 => ?_) (fun c_8 => ?_)
  · have hf := if_f hf c_8
    refine lv_aload_n hx hb dX9_feed_16 rfl (lv_at hl 0 rfl) ?_
    refine gfM_0_4 B w kt4_29 dX9_feed_17 ?_
    refine lv_iload_n hx hb dX9_feed_20 rfl (lv_at hl 1 rfl) ?_
    refine lv_iadd (x := (fi 1)) (y := v1) hx hb dX9_feed_21 ?_
    refine lv_bipush (v := 120) hx hb dX9_feed_22 (by decide) ?_
    refine lv_icmp_le (x := ((fi 1) + v1)) (y := 120) (tgt := 31) hx hb dX9_feed_24 (by decide) (fun c_9 => ?_) (fun c_9 => ?_)
    · have hf := if_t hf c_9
      refine lv_iload_n hx hb dX9_feed_31 rfl (lv_at hl 1 rfl) ?_
      refine lv_iconst (v := 1) hx hb dX9_feed_32 (by decide) ?_
      refine lv_isub (x := v1) (y := 1) hx hb dX9_feed_33 ?_
      refine lv_topi (fun x_10 ex_10 => ?_)
      have hf := bindv_eq hf x_10 ex_10
      refine lv_istore (lv' := [(4, .int x_10), (0, .ref (ad 0)), (1, .int v1), (2, .long v2)]) hx hb dX9_feed_34 hl (by decide) rfl (fun ls hl => ?_)
      exact J36  5000 v2 x_10 fi ar H locs ls w (lv_sub hl [1, 3, 0] rfl) hf
    · have hf := if_f hf c_9
      refine lv_sipush (v := (-1004)) hx hb dX9_feed_27 (by decide) ?_
      have hf : some ((-1004), fi, ar) = some (r0, fi0, ar0) := hf
      obtain ⟨q0, q1, q2⟩ := so3 hf
      subst q0
      subst q1
      subst q2
      exact retI B hr hk w dX9_feed_30
  · have hf := if_t hf c_8
    refine lv_sipush (v := (-1002)) hx hb dX9_feed_12 (by decide) ?_
    have hf : some ((-1002), fi, ar) = some (r0, fi0, ar0) := hf
    obtain ⟨q0, q1, q2⟩ := so3 hf
    subst q0
    subst q1
    subst q2
    exact retI B hr hk w dX9_feed_15
def f_X9_here_38 (ar : Nat → Nat → Int32)  (fi : Nat → Int32) : Option (Int32 × (Nat → Int32)) := if ((fi 1) ≤ (fi 2) : Prop) then (some ((-1), fi)) else (gd (fi 2) 120 (some ((ar 3 (Int32.toNatClampNeg (fi 2))), fi)))
def f_X9_here_0 (ar : Nat → Nat → Int32)  : Nat → (Nat → Int32) → Option (Int32 × (Nat → Int32))
  | 0, _ => none
  | n + 1, fi => if ((fi 1) ≤ (fi 2) : Prop) then (f_X9_here_38 ar fi) else (gd (fi 2) 120 (if ((ar 3 (Int32.toNatClampNeg (fi 2))) = 32 : Prop) then (bindv (upd fi 2 ((fi 2) + 1)) (fun fi_6 => (f_X9_here_0 ar n) fi_6)) else (f_X9_here_38 ar fi)))
def f_X9_here (fi : Nat → Int32) (ar : Nat → Nat → Int32) : Option (Int32 × (Nat → Int32)) := f_X9_here_0 ar 5000 fi
set_option maxHeartbeats 4000000 in
set_option maxRecDepth 100000 in
theorem c_X9_here (l : Launch) (D : va_G) (ca : Nat → ClassId) (ak av ad : Nat → Nat) (fi : Nat → Int32) (fl : Nat → Int64) (ar : Nat → Nat → Int32) {r0 : Int32} {fi0 : Nat → Int32} (hf : f_X9_here fi ar = some (r0, fi0)) : MtI l yX9_here cX9_here 1 { frames := 0, cells := 0, slots := 0, locals := 0 } (EM D ca ak av) [.ref (ad 0)] (wM ad ca fi fl ar) (wM ad ca fi0 fl ar) r0 := by
  refine MtI.of (own := RX9) (by decide +kernel) rfl (Nat.le_of_ble_eq_true rfl) ?_
  intro p e s m args below meth c A B hr hk w ls hl
  have hx := B.1.1
  have hb := B.1.2.1
  have hown := B.1.2.2.2.1
  have hts := B.1.2.2.2.2
  have hl : lv_has ls 1 [(0, .ref (ad 0))] := hl
  have J38 : ∀ (fi : Nat → Int32) (H : Heap) (locs : List Loc) (ls : Array Slot), Wd (EM D ca ak av) A s (wM ad ca fi fl ar) H locs → lv_has ls 1 [(0, .ref (ad 0))] → f_X9_here_38 ar fi = some (r0, fi0) → W p l e ({ frames := 0, cells := 0, slots := 0, locals := 0 } : Room) s m args below meth c H locs 0 0 (MQ below (Qi (EM D ca ak av) A (wM ad ca fi0 fl ar) r0) args s 0 0 A) (F0 m 38 ls []) := by
    intro  fi H locs ls w hl hf
    unfold f_X9_here_38 at hf
    refine lv_aload_n hx hb dX9_here_38 rfl (lv_at hl 0 rfl) ?_
    refine gfM_0_5 B w kt4_30 dX9_here_39 ?_
    refine lv_aload_n hx hb dX9_here_42 rfl (lv_at hl 0 rfl) ?_
    refine gfM_0_4 B w kt4_29 dX9_here_43 ?_
    refine lv_icmp_ge (x := (fi 2)) (y := (fi 1)) (tgt := 61) hx hb dX9_here_46 (by decide) (fun c_1 => ?_) (fun c_1 => ?_)
    · have hf := if_t hf c_1
      refine lv_iconst (v := (-1)) hx hb dX9_here_61 (by decide) ?_
      have hf : some ((-1), fi) = some (r0, fi0) := hf
      obtain ⟨q0, q1⟩ := so2 hf
      subst q0
      subst q1
      exact retI B hr hk w dX9_here_62
    · have hf := if_f hf c_1
      refine lv_aload_n hx hb dX9_here_49 rfl (lv_at hl 0 rfl) ?_
      refine gfM_0_3 B w kt4_28 dX9_here_50 ?_
      refine lv_aload_n hx hb dX9_here_53 rfl (lv_at hl 0 rfl) ?_
      refine gfM_0_5 B w kt4_30 dX9_here_54 ?_
      obtain ⟨hi_2, hf⟩ := gd_eq hf
      refine alM_3 B w hi_2 dX9_here_57 ?_
      refine lv_goto (tgt := 62) hx hb dX9_here_58 (by decide) ?_
      have hf : some ((ar 3 (Int32.toNatClampNeg (fi 2))), fi) = some (r0, fi0) := hf
      obtain ⟨q0, q1⟩ := so2 hf
      subst q0
      subst q1
      exact retI B hr hk w dX9_here_62
  have J0 : ∀ (n : Nat) (fi : Nat → Int32) (H : Heap) (locs : List Loc) (ls : Array Slot), Wd (EM D ca ak av) A s (wM ad ca fi fl ar) H locs → lv_has ls 1 [(0, .ref (ad 0))] → f_X9_here_0 ar n fi = some (r0, fi0) → W p l e ({ frames := 0, cells := 0, slots := 0, locals := 0 } : Room) s m args below meth c H locs 0 0 (MQ below (Qi (EM D ca ak av) A (wM ad ca fi0 fl ar) r0) args s 0 0 A) (F0 m 0 ls []) := by
    intro  n
    induction n with
    | zero =>
      intro fi H locs ls w hl hf
      cases hf
    | succ n ih =>
      intro fi H locs ls w hl hf
      rw [f_X9_here_0] at hf
      refine lv_aload_n hx hb dX9_here_0 rfl (lv_at hl 0 rfl) ?_
      refine gfM_0_5 B w kt4_30 dX9_here_1 ?_
      refine lv_aload_n hx hb dX9_here_4 rfl (lv_at hl 0 rfl) ?_
      refine gfM_0_4 B w kt4_29 dX9_here_5 ?_
      refine lv_icmp_ge (x := (fi 2)) (y := (fi 1)) (tgt := 38) hx hb dX9_here_8 (by decide) (fun c_3 => ?_) (fun c_3 => ?_)
      · have hf := if_t hf c_3
        exact J38  fi H locs ls w (lv_sub hl [0] rfl) hf
      · have hf := if_f hf c_3
        refine lv_aload_n hx hb dX9_here_11 rfl (lv_at hl 0 rfl) ?_
        refine gfM_0_3 B w kt4_28 dX9_here_12 ?_
        refine lv_aload_n hx hb dX9_here_15 rfl (lv_at hl 0 rfl) ?_
        refine gfM_0_5 B w kt4_30 dX9_here_16 ?_
        obtain ⟨hi_4, hf⟩ := gd_eq hf
        refine alM_3 B w hi_4 dX9_here_19 ?_
        refine lv_bipush (v := 32) hx hb dX9_here_20 (by decide) ?_
        refine lv_icmp_ne (x := (ar 3 (Int32.toNatClampNeg (fi 2)))) (y := 32) (tgt := 38) hx hb dX9_here_22 (by decide) (fun c_5 => ?_) (fun c_5 => ?_)
        · have hf := if_f hf c_5
          exact J38  fi H locs ls w (lv_sub hl [0] rfl) hf
        · have hf := if_t hf c_5
          refine lv_aload_n hx hb dX9_here_25 rfl (lv_at hl 0 rfl) ?_
          refine lv_dup hx hb dX9_here_26 rfl ?_
          refine gfM_0_5 B w kt4_30 dX9_here_27 ?_
          refine lv_iconst (v := 1) hx hb dX9_here_30 (by decide) ?_
          refine lv_iadd (x := (fi 2)) (y := 1) hx hb dX9_here_31 ?_
          refine pfM_0_5 (v := ((fi 2) + 1)) B w kt4_30 dX9_here_32 (fun H locs fi_6 efi_6 w => ?_)
          have hf := bindv_eq hf fi_6 efi_6
          refine lv_goto (tgt := 0) hx hb dX9_here_35 (by decide) ?_
          exact ih fi_6 H locs ls w (lv_sub hl [0] rfl) hf
  unfold f_X9_here at hf
  refine (show ∀ (H : Heap) (locs : List Loc), Wd (EM D ca ak av) A s (wM ad ca fi fl ar) H locs → W p l e ({ frames := 0, cells := 0, slots := 0, locals := 0 } : Room) s m args below meth c H locs 0 0 (MQ below (Qi (EM D ca ak av) A (wM ad ca fi0 fl ar) r0) args s 0 0 A) (F0 m 0 ls []) from ?_) s.heap [] w
  intro H locs w
  exact J0  5000 fi H locs ls w (lv_sub hl [0] rfl) hf
def f_X9_want_21   (fi : Nat → Int32) : Option (Int32 × (Nat → Int32)) := if ((fi 5) = 0 : Prop) then (some (1, fi)) else (some (0, fi))
def f_X9_want (fi : Nat → Int32) (v1 : Int32) (v2 : Int32) (v3 : Int32) : Option (Int32 × (Nat → Int32)) := if (v1 = 0 : Prop) then (if ((fi 5) = 0 : Prop) then (bindv (upd fi 5 v2) (fun fi_4 => bindv (upd fi_4 6 v3) (fun fi_5 => f_X9_want_21  fi_5))) else (f_X9_want_21  fi)) else (f_X9_want_21  fi)
set_option maxHeartbeats 4000000 in
set_option maxRecDepth 100000 in
theorem c_X9_want (l : Launch) (D : va_G) (ca : Nat → ClassId) (ak av ad : Nat → Nat) (fi : Nat → Int32) (fl : Nat → Int64) (ar : Nat → Nat → Int32) (v1 : Int32) (v2 : Int32) (v3 : Int32) {r0 : Int32} {fi0 : Nat → Int32} (hf : f_X9_want fi v1 v2 v3 = some (r0, fi0)) : MtZ l yX9_want cX9_want 4 { frames := 0, cells := 0, slots := 0, locals := 0 } (EM D ca ak av) [.ref (ad 0), .int v1, .int v2, .int v3] (wM ad ca fi fl ar) (wM ad ca fi0 fl ar) r0 := by
  refine MtZ.of (own := RX9) (by decide +kernel) rfl (Nat.le_of_ble_eq_true rfl) ?_
  intro p e s m args below meth c A B hr hk w ls hl
  have hx := B.1.1
  have hb := B.1.2.1
  have hown := B.1.2.2.2.1
  have hts := B.1.2.2.2.2
  have hl : lv_has ls 4 [(0, .ref (ad 0)), (1, .int v1), (2, .int v2), (3, .int v3)] := hl
  have J21 : ∀ (fi : Nat → Int32) (H : Heap) (locs : List Loc) (ls : Array Slot), Wd (EM D ca ak av) A s (wM ad ca fi fl ar) H locs → lv_has ls 4 [(0, .ref (ad 0))] → f_X9_want_21  fi = some (r0, fi0) → W p l e ({ frames := 0, cells := 0, slots := 0, locals := 0 } : Room) s m args below meth c H locs 0 0 (MQ below (Qz (EM D ca ak av) A (wM ad ca fi0 fl ar) r0) args s 0 0 A) (F0 m 21 ls []) := by
    intro  fi H locs ls w hl hf
    unfold f_X9_want_21 at hf
    refine lv_aload_n hx hb dX9_want_21 rfl (lv_at hl 0 rfl) ?_
    refine gfM_0_8 B w kt4_33 dX9_want_22 ?_
    refine lv_if_ne (x := (fi 5)) (tgt := 32) hx hb dX9_want_25 (by decide) (fun c_1 => ?_) (fun c_1 => ?_)
    · have hf := if_f hf c_1
      refine lv_iconst (v := 0) hx hb dX9_want_32 (by decide) ?_
      have hf : some (0, fi) = some (r0, fi0) := hf
      obtain ⟨q0, q1⟩ := so2 hf
      subst q0
      subst q1
      exact retZ B hr hk w rfl dX9_want_33
    · have hf := if_t hf c_1
      refine lv_iconst (v := 1) hx hb dX9_want_28 (by decide) ?_
      refine lv_goto (tgt := 33) hx hb dX9_want_29 (by decide) ?_
      have hf : some (1, fi) = some (r0, fi0) := hf
      obtain ⟨q0, q1⟩ := so2 hf
      subst q0
      subst q1
      exact retZ B hr hk w rfl dX9_want_33
  unfold f_X9_want at hf
  refine (show ∀ (H : Heap) (locs : List Loc), Wd (EM D ca ak av) A s (wM ad ca fi fl ar) H locs → W p l e ({ frames := 0, cells := 0, slots := 0, locals := 0 } : Room) s m args below meth c H locs 0 0 (MQ below (Qz (EM D ca ak av) A (wM ad ca fi0 fl ar) r0) args s 0 0 A) (F0 m 0 ls []) from ?_) s.heap [] w
  intro H locs w
  refine lv_iload_n hx hb dX9_want_0 rfl (lv_at hl 1 rfl) ?_
  refine lv_if_ne (x := v1) (tgt := 21) hx hb dX9_want_1 (by decide) (fun c_2 => ?_) (fun c_2 => ?_)
  · have hf := if_f hf c_2
    exact J21  fi H locs ls w (lv_sub hl [0] rfl) hf
  · have hf := if_t hf c_2
    refine lv_aload_n hx hb dX9_want_4 rfl (lv_at hl 0 rfl) ?_
    refine gfM_0_8 B w kt4_33 dX9_want_5 ?_
    refine lv_if_ne (x := (fi 5)) (tgt := 21) hx hb dX9_want_8 (by decide) (fun c_3 => ?_) (fun c_3 => ?_)
    · have hf := if_f hf c_3
      exact J21  fi H locs ls w (lv_sub hl [0] rfl) hf
    · have hf := if_t hf c_3
      refine lv_aload_n hx hb dX9_want_11 rfl (lv_at hl 0 rfl) ?_
      refine lv_iload_n hx hb dX9_want_12 rfl (lv_at hl 2 rfl) ?_
      refine pfM_0_8 (v := v2) B w kt4_33 dX9_want_13 (fun H locs fi_4 efi_4 w => ?_)
      have hf := bindv_eq hf fi_4 efi_4
      refine lv_aload_n hx hb dX9_want_16 rfl (lv_at hl 0 rfl) ?_
      refine lv_iload_n hx hb dX9_want_17 rfl (lv_at hl 3 rfl) ?_
      refine pfM_0_9 (v := v3) B w kt4_34 dX9_want_18 (fun H locs fi_5 efi_5 w => ?_)
      have hf := bindv_eq hf fi_5 efi_5
      exact J21  fi_5 H locs ls w (lv_sub hl [0] rfl) hf
def f_X9_takeWord_59 (ar : Nat → Nat → Int32)  (fi : Nat → Int32) : Option ((Nat → Int32)) := bindv (upd fi 4 ((fi 2) - (fi 3))) (fun fi_1 => some fi_1)
def f_X9_takeWord_13 (ar : Nat → Nat → Int32)  : Nat → (Nat → Int32) → Option ((Nat → Int32))
  | 0, _ => none
  | n + 1, fi => if ((fi 1) ≤ (fi 2) : Prop) then (f_X9_takeWord_59 ar fi) else (gd (fi 2) 120 (bindv (f_X9_in (Int32.toInt64 (ar 3 (Int32.toNatClampNeg (fi 2)))) 97 122) (fun r_4 => if (r_4 = 0 : Prop) then (f_X9_takeWord_59 ar fi) else (bindv (upd fi 2 ((fi 2) + 1)) (fun fi_7 => (f_X9_takeWord_13 ar n) fi_7)))))
def f_X9_takeWord (fi : Nat → Int32) (ar : Nat → Nat → Int32) : Option ((Nat → Int32)) := bind2 (f_X9_here fi ar) (fun r_8 fi_9 => bindv (upd fi_9 3 (fi_9 2)) (fun fi_11 => f_X9_takeWord_13 ar 5000 fi_11))
set_option maxHeartbeats 4000000 in
set_option maxRecDepth 100000 in
theorem c_X9_takeWord (l : Launch) (D : va_G) (ca : Nat → ClassId) (ak av ad : Nat → Nat) (fi : Nat → Int32) (fl : Nat → Int64) (ar : Nat → Nat → Int32) {fi0 : Nat → Int32} (hf : f_X9_takeWord fi ar = some fi0) : MtV l yX9_takeWord cX9_takeWord 2 { frames := 1, cells := 0, slots := 0, locals := 25 } (EM D ca ak av) [.ref (ad 0)] (wM ad ca fi fl ar) (wM ad ca fi0 fl ar) := by
  refine MtV.of (own := RX9) (by decide +kernel) rfl (Nat.le_of_ble_eq_true rfl) ?_
  intro p e s m args below meth c A B hr hk w ls hl
  have hx := B.1.1
  have hb := B.1.2.1
  have hown := B.1.2.2.2.1
  have hts := B.1.2.2.2.2
  have hl : lv_has ls 2 [(0, .ref (ad 0))] := hl
  have J59 : ∀ (fi : Nat → Int32) (H : Heap) (locs : List Loc) (ls : Array Slot), Wd (EM D ca ak av) A s (wM ad ca fi fl ar) H locs → lv_has ls 2 [(0, .ref (ad 0))] → f_X9_takeWord_59 ar fi = some fi0 → W p l e ({ frames := 1, cells := 0, slots := 0, locals := 25 } : Room) s m args below meth c H locs 0 0 (MQ below (Qv (EM D ca ak av) A (wM ad ca fi0 fl ar)) args s 0 0 A) (F0 m 59 ls []) := by
    intro  fi H locs ls w hl hf
    unfold f_X9_takeWord_59 at hf
    refine lv_aload_n hx hb dX9_takeWord_59 rfl (lv_at hl 0 rfl) ?_
    refine lv_aload_n hx hb dX9_takeWord_60 rfl (lv_at hl 0 rfl) ?_
    refine gfM_0_5 B w kt4_30 dX9_takeWord_61 ?_
    refine lv_aload_n hx hb dX9_takeWord_64 rfl (lv_at hl 0 rfl) ?_
    refine gfM_0_6 B w kt4_31 dX9_takeWord_65 ?_
    refine lv_isub (x := (fi 2)) (y := (fi 3)) hx hb dX9_takeWord_68 ?_
    refine pfM_0_7 (v := ((fi 2) - (fi 3))) B w kt4_32 dX9_takeWord_69 (fun H locs fi_1 efi_1 w => ?_)
    have hf := bindv_eq hf fi_1 efi_1
    have hf : some fi_1 = some fi0 := hf
    have q0 := so1 hf
    subst q0
    exact retV B hr hk w dX9_takeWord_72
  have J13 : ∀ (n : Nat) (fi : Nat → Int32) (H : Heap) (locs : List Loc) (ls : Array Slot), Wd (EM D ca ak av) A s (wM ad ca fi fl ar) H locs → lv_has ls 2 [(0, .ref (ad 0))] → f_X9_takeWord_13 ar n fi = some fi0 → W p l e ({ frames := 1, cells := 0, slots := 0, locals := 25 } : Room) s m args below meth c H locs 0 0 (MQ below (Qv (EM D ca ak av) A (wM ad ca fi0 fl ar)) args s 0 0 A) (F0 m 13 ls []) := by
    intro  n
    induction n with
    | zero =>
      intro fi H locs ls w hl hf
      cases hf
    | succ n ih =>
      intro fi H locs ls w hl hf
      rw [f_X9_takeWord_13] at hf
      refine lv_aload_n hx hb dX9_takeWord_13 rfl (lv_at hl 0 rfl) ?_
      refine gfM_0_5 B w kt4_30 dX9_takeWord_14 ?_
      refine lv_aload_n hx hb dX9_takeWord_17 rfl (lv_at hl 0 rfl) ?_
      refine gfM_0_4 B w kt4_29 dX9_takeWord_18 ?_
      refine lv_icmp_ge (x := (fi 2)) (y := (fi 1)) (tgt := 59) hx hb dX9_takeWord_21 (by decide) (fun c_2 => ?_) (fun c_2 => ?_)
      · have hf := if_t hf c_2
        exact J59  fi H locs ls w (lv_sub hl [0] rfl) hf
      · have hf := if_f hf c_2
        refine lv_aload_n hx hb dX9_takeWord_24 rfl (lv_at hl 0 rfl) ?_
        refine gfM_0_3 B w kt4_28 dX9_takeWord_25 ?_
        refine lv_aload_n hx hb dX9_takeWord_28 rfl (lv_at hl 0 rfl) ?_
        refine gfM_0_5 B w kt4_30 dX9_takeWord_29 ?_
        obtain ⟨hi_3, hf⟩ := gd_eq hf
        refine alM_3 B w hi_3 dX9_takeWord_32 ?_
        refine lv_i2l hx hb dX9_takeWord_33 rfl ?_
        refine lv_ldc2 (own := RX9) (v := 97) hx hb hown (hts _ kt4_115) dX9_takeWord_34 ?_
        refine lv_ldc2 (own := RX9) (v := 122) hx hb hown (hts _ kt4_116) dX9_takeWord_37 ?_
        obtain ⟨r_4, er_5⟩ : ∃ y, f_X9_in (Int32.toInt64 (ar 3 (Int32.toNatClampNeg (fi 2)))) 97 122 = y := ⟨_, rfl⟩
        have hf := bindv_eq hf r_4 er_5.symm
        refine callSZ (As := [.long (Int32.toInt64 (ar 3 (Int32.toNatClampNeg (fi 2)))), .long 97, .long 122]) (rest := []) B w (c_X9_in l _ (Int32.toInt64 (ar 3 (Int32.toNatClampNeg (fi 2)))) 97 122 er_5) (gS kt4_95 kt4_96 kt1_11 kt4_97) hdS_X9_in rfl rfl ⟨Nat.le_of_ble_eq_true rfl, Nat.le_of_ble_eq_true rfl⟩ rfl hl.1 rfl (Nat.le_of_ble_eq_true rfl) dX9_takeWord_40 ⟨Nat.le_of_ble_eq_true rfl, Nat.le_of_ble_eq_true rfl⟩ (fun H locs w hzr_4 => ?_)
        refine lv_if_eq (x := r_4) (tgt := 59) hx hb dX9_takeWord_43 (by decide) (fun c_6 => ?_) (fun c_6 => ?_)
        · have hf := if_t hf c_6
          exact J59  fi H locs ls w (lv_sub hl [0] rfl) hf
        · have hf := if_f hf c_6
          refine lv_aload_n hx hb dX9_takeWord_46 rfl (lv_at hl 0 rfl) ?_
          refine lv_dup hx hb dX9_takeWord_47 rfl ?_
          refine gfM_0_5 B w kt4_30 dX9_takeWord_48 ?_
          refine lv_iconst (v := 1) hx hb dX9_takeWord_51 (by decide) ?_
          refine lv_iadd (x := (fi 2)) (y := 1) hx hb dX9_takeWord_52 ?_
          refine pfM_0_5 (v := ((fi 2) + 1)) B w kt4_30 dX9_takeWord_53 (fun H locs fi_7 efi_7 w => ?_)
          have hf := bindv_eq hf fi_7 efi_7
          refine lv_goto (tgt := 13) hx hb dX9_takeWord_56 (by decide) ?_
          exact ih fi_7 H locs ls w (lv_sub hl [0] rfl) hf
  unfold f_X9_takeWord at hf
  refine (show ∀ (H : Heap) (locs : List Loc), Wd (EM D ca ak av) A s (wM ad ca fi fl ar) H locs → W p l e ({ frames := 1, cells := 0, slots := 0, locals := 25 } : Room) s m args below meth c H locs 0 0 (MQ below (Qv (EM D ca ak av) A (wM ad ca fi0 fl ar)) args s 0 0 A) (F0 m 0 ls []) from ?_) s.heap [] w
  intro H locs w
  refine lv_aload_n hx hb dX9_takeWord_0 rfl (lv_at hl 0 rfl) ?_
  obtain ⟨r_8, fi_9, er_10, hf⟩ := bind2_eq hf
  refine callVI (As := []) (rest := []) B w (c_X9_here l D ca ak av ad fi fl ar  er_10) (gV kt4_103 kt4_105 kp1_10 kt1_11 kt4_106) hdV_X9_here 0 rfl rfl rfl rfl ⟨Nat.le_of_ble_eq_true rfl, Nat.le_of_ble_eq_true rfl⟩ rfl hl.1 rfl (Nat.le_of_ble_eq_true rfl) dX9_takeWord_1 ⟨Nat.le_of_ble_eq_true rfl, Nat.le_of_ble_eq_true rfl⟩ (fun H locs w => ?_)
  refine lv_istore_n (lv' := [(1, .int r_8), (0, .ref (ad 0))]) hx hb dX9_takeWord_4 rfl hl (by decide) rfl (fun ls hl => ?_)
  refine lv_aload_n hx hb dX9_takeWord_5 rfl (lv_at hl 1 rfl) ?_
  refine lv_aload_n hx hb dX9_takeWord_6 rfl (lv_at hl 1 rfl) ?_
  refine gfM_0_5 B w kt4_30 dX9_takeWord_7 ?_
  refine pfM_0_6 (v := (fi_9 2)) B w kt4_31 dX9_takeWord_10 (fun H locs fi_11 efi_11 w => ?_)
  have hf := bindv_eq hf fi_11 efi_11
  exact J13  5000 fi_11 H locs ls w (lv_sub hl [1] rfl) hf
def f_X9_isWord_103 (fi : Nat → Int32) (ar : Nat → Nat → Int32) (k18 : Int32 → Int32 → Int32 → Int32 → Int32 → Int32 → Int32 → Int32 → Int32 → Option (Int32)) (v1 : Int32) (v2 : Int32) (v3 : Int32) (v4 : Int32) (v5 : Int32) (v6 : Int32) (v7 : Int32) (v9 : Int32) (t0 : Int32) : Option (Int32) := bindv (v9 + 1 : Int32) (fun x_1 => k18 v1 v2 v3 v4 v5 v6 v7 t0 x_1)
def f_X9_isWord_95 (fi : Nat → Int32) (ar : Nat → Nat → Int32) (k18 : Int32 → Int32 → Int32 → Int32 → Int32 → Int32 → Int32 → Int32 → Int32 → Option (Int32)) (v1 : Int32) (v2 : Int32) (v3 : Int32) (v4 : Int32) (v5 : Int32) (v6 : Int32) (v7 : Int32) (v9 : Int32) (t0 : Int32) (t1 : Int32) : Option (Int32) := if (t0 = t1 : Prop) then (f_X9_isWord_103 fi ar k18 v1 v2 v3 v4 v5 v6 v7 v9 1) else (f_X9_isWord_103 fi ar k18 v1 v2 v3 v4 v5 v6 v7 v9 0)
def f_X9_isWord_18 (fi : Nat → Int32) (ar : Nat → Nat → Int32)  : Nat → (Int32) → (Int32) → (Int32) → (Int32) → (Int32) → (Int32) → (Int32) → (Int32) → (Int32) → Option (Int32)
  | 0, _, _, _, _, _, _, _, _, _ => none
  | n + 1, v1, v2, v3, v4, v5, v6, v7, v8, v9 => if (v1 ≤ v9 : Prop) then (bz v8 (some v8)) else (if (v8 = 0 : Prop) then (bz v8 (some v8)) else (gd ((fi 3) + v9) 120 (if (v9 = 0 : Prop) then (f_X9_isWord_95 fi ar (f_X9_isWord_18 fi ar n) v1 v2 v3 v4 v5 v6 v7 v9 (ar 3 (Int32.toNatClampNeg ((fi 3) + v9))) v2) else (if (v9 = 1 : Prop) then (f_X9_isWord_95 fi ar (f_X9_isWord_18 fi ar n) v1 v2 v3 v4 v5 v6 v7 v9 (ar 3 (Int32.toNatClampNeg ((fi 3) + v9))) v3) else (if (v9 = 2 : Prop) then (f_X9_isWord_95 fi ar (f_X9_isWord_18 fi ar n) v1 v2 v3 v4 v5 v6 v7 v9 (ar 3 (Int32.toNatClampNeg ((fi 3) + v9))) v4) else (if (v9 = 3 : Prop) then (f_X9_isWord_95 fi ar (f_X9_isWord_18 fi ar n) v1 v2 v3 v4 v5 v6 v7 v9 (ar 3 (Int32.toNatClampNeg ((fi 3) + v9))) v5) else (if (v9 = 4 : Prop) then (f_X9_isWord_95 fi ar (f_X9_isWord_18 fi ar n) v1 v2 v3 v4 v5 v6 v7 v9 (ar 3 (Int32.toNatClampNeg ((fi 3) + v9))) v6) else (f_X9_isWord_95 fi ar (f_X9_isWord_18 fi ar n) v1 v2 v3 v4 v5 v6 v7 v9 (ar 3 (Int32.toNatClampNeg ((fi 3) + v9))) v7))))))))
def f_X9_isWord_13 (fi : Nat → Int32) (ar : Nat → Nat → Int32)  (v1 : Int32) (v2 : Int32) (v3 : Int32) (v4 : Int32) (v5 : Int32) (v6 : Int32) (v7 : Int32) (t0 : Int32) : Option (Int32) := f_X9_isWord_18 fi ar 5000 v1 v2 v3 v4 v5 v6 v7 t0 0
def f_X9_isWord (fi : Nat → Int32) (ar : Nat → Nat → Int32) (v1 : Int32) (v2 : Int32) (v3 : Int32) (v4 : Int32) (v5 : Int32) (v6 : Int32) (v7 : Int32) : Option (Int32) := if ((fi 4) = v1 : Prop) then (f_X9_isWord_13 fi ar v1 v2 v3 v4 v5 v6 v7 1) else (f_X9_isWord_13 fi ar v1 v2 v3 v4 v5 v6 v7 0)
set_option maxHeartbeats 4000000 in
set_option maxRecDepth 100000 in
theorem c_X9_isWord (l : Launch) (D : va_G) (ca : Nat → ClassId) (ak av ad : Nat → Nat) (fi : Nat → Int32) (fl : Nat → Int64) (ar : Nat → Nat → Int32) (v1 : Int32) (v2 : Int32) (v3 : Int32) (v4 : Int32) (v5 : Int32) (v6 : Int32) (v7 : Int32) {r0 : Int32} (hf : f_X9_isWord fi ar v1 v2 v3 v4 v5 v6 v7 = some r0) : MtZ l yX9_isWord cX9_isWord 10 { frames := 0, cells := 0, slots := 0, locals := 0 } (EM D ca ak av) [.ref (ad 0), .int v1, .int v2, .int v3, .int v4, .int v5, .int v6, .int v7] (wM ad ca fi fl ar) (wM ad ca fi fl ar) r0 := by
  refine MtZ.of (own := RX9) (by decide +kernel) rfl (Nat.le_of_ble_eq_true rfl) ?_
  intro p e s m args below meth c A B hr hk w ls hl
  have hx := B.1.1
  have hb := B.1.2.1
  have hown := B.1.2.2.2.1
  have hts := B.1.2.2.2.2
  have hl : lv_has ls 10 [(0, .ref (ad 0)), (1, .int v1), (2, .int v2), (3, .int v3), (4, .int v4), (5, .int v5), (6, .int v6), (7, .int v7)] := hl
  have J103 : ∀ (k18 : Int32 → Int32 → Int32 → Int32 → Int32 → Int32 → Int32 → Int32 → Int32 → Option (Int32)) (hk18 : ∀ (v1 : Int32) (v2 : Int32) (v3 : Int32) (v4 : Int32) (v5 : Int32) (v6 : Int32) (v7 : Int32) (v8 : Int32) (v9 : Int32) (H : Heap) (locs : List Loc) (ls : Array Slot), Wd (EM D ca ak av) A s (wM ad ca fi fl ar) H locs → lv_has ls 10 [(0, .ref (ad 0)), (1, .int v1), (2, .int v2), (3, .int v3), (4, .int v4), (5, .int v5), (6, .int v6), (7, .int v7), (8, .int v8), (9, .int v9)] → k18 v1 v2 v3 v4 v5 v6 v7 v8 v9 = some r0 → W p l e ({ frames := 0, cells := 0, slots := 0, locals := 0 } : Room) s m args below meth c H locs 0 0 (MQ below (Qz (EM D ca ak av) A (wM ad ca fi fl ar) r0) args s 0 0 A) (F0 m 18 ls [])) (v1 : Int32) (v2 : Int32) (v3 : Int32) (v4 : Int32) (v5 : Int32) (v6 : Int32) (v7 : Int32) (v9 : Int32) (t0 : Int32) (H : Heap) (locs : List Loc) (ls : Array Slot), Wd (EM D ca ak av) A s (wM ad ca fi fl ar) H locs → lv_has ls 10 [(0, .ref (ad 0)), (1, .int v1), (2, .int v2), (3, .int v3), (4, .int v4), (5, .int v5), (6, .int v6), (7, .int v7), (9, .int v9)] → f_X9_isWord_103 fi ar k18 v1 v2 v3 v4 v5 v6 v7 v9 t0 = some r0 → W p l e ({ frames := 0, cells := 0, slots := 0, locals := 0 } : Room) s m args below meth c H locs 0 0 (MQ below (Qz (EM D ca ak av) A (wM ad ca fi fl ar) r0) args s 0 0 A) (F0 m 103 ls [.int t0]) := by
    intro k18 hk18 v1 v2 v3 v4 v5 v6 v7 v9 t0 H locs ls w hl hf
    unfold f_X9_isWord_103 at hf
    refine lv_istore (lv' := [(8, .int t0), (0, .ref (ad 0)), (1, .int v1), (2, .int v2), (3, .int v3), (4, .int v4), (5, .int v5), (6, .int v6), (7, .int v7), (9, .int v9)]) hx hb dX9_isWord_103 hl (by decide) rfl (fun ls hl => ?_)
    obtain ⟨x_1, ex_1⟩ : ∃ y : Int32, y = v9 + 1 := ⟨_, rfl⟩
    have hf := bindv_eq hf x_1 ex_1
    refine lv_iinc (v := x_1) (lv' := [(9, .int x_1), (8, .int t0), (0, .ref (ad 0)), (1, .int v1), (2, .int v2), (3, .int v3), (4, .int v4), (5, .int v5), (6, .int v6), (7, .int v7)]) hx hb dX9_isWord_105 hl (k := 9) rfl (by rw [ex_1]; rfl) (by decide) rfl (fun ls hl => ?_)
    refine lv_goto (tgt := 18) hx hb dX9_isWord_108 (by decide) ?_
    exact hk18 v1 v2 v3 v4 v5 v6 v7 t0 x_1 H locs ls w (lv_sub hl [2, 3, 4, 5, 6, 7, 8, 9, 1, 0] rfl) hf
  have J95 : ∀ (k18 : Int32 → Int32 → Int32 → Int32 → Int32 → Int32 → Int32 → Int32 → Int32 → Option (Int32)) (hk18 : ∀ (v1 : Int32) (v2 : Int32) (v3 : Int32) (v4 : Int32) (v5 : Int32) (v6 : Int32) (v7 : Int32) (v8 : Int32) (v9 : Int32) (H : Heap) (locs : List Loc) (ls : Array Slot), Wd (EM D ca ak av) A s (wM ad ca fi fl ar) H locs → lv_has ls 10 [(0, .ref (ad 0)), (1, .int v1), (2, .int v2), (3, .int v3), (4, .int v4), (5, .int v5), (6, .int v6), (7, .int v7), (8, .int v8), (9, .int v9)] → k18 v1 v2 v3 v4 v5 v6 v7 v8 v9 = some r0 → W p l e ({ frames := 0, cells := 0, slots := 0, locals := 0 } : Room) s m args below meth c H locs 0 0 (MQ below (Qz (EM D ca ak av) A (wM ad ca fi fl ar) r0) args s 0 0 A) (F0 m 18 ls [])) (v1 : Int32) (v2 : Int32) (v3 : Int32) (v4 : Int32) (v5 : Int32) (v6 : Int32) (v7 : Int32) (v9 : Int32) (t0 : Int32) (t1 : Int32) (H : Heap) (locs : List Loc) (ls : Array Slot), Wd (EM D ca ak av) A s (wM ad ca fi fl ar) H locs → lv_has ls 10 [(0, .ref (ad 0)), (1, .int v1), (2, .int v2), (3, .int v3), (4, .int v4), (5, .int v5), (6, .int v6), (7, .int v7), (9, .int v9)] → f_X9_isWord_95 fi ar k18 v1 v2 v3 v4 v5 v6 v7 v9 t0 t1 = some r0 → W p l e ({ frames := 0, cells := 0, slots := 0, locals := 0 } : Room) s m args below meth c H locs 0 0 (MQ below (Qz (EM D ca ak av) A (wM ad ca fi fl ar) r0) args s 0 0 A) (F0 m 95 ls [.int t1, .int t0]) := by
    intro k18 hk18 v1 v2 v3 v4 v5 v6 v7 v9 t0 t1 H locs ls w hl hf
    unfold f_X9_isWord_95 at hf
    refine lv_icmp_ne (x := t0) (y := t1) (tgt := 102) hx hb dX9_isWord_95 (by decide) (fun c_2 => ?_) (fun c_2 => ?_)
    · have hf := if_f hf c_2
      refine lv_iconst (v := 0) hx hb dX9_isWord_102 (by decide) ?_
      exact J103 _ hk18 v1 v2 v3 v4 v5 v6 v7 v9 0 H locs ls w (lv_sub hl [0, 1, 2, 3, 4, 5, 6, 7, 8] rfl) hf
    · have hf := if_t hf c_2
      refine lv_iconst (v := 1) hx hb dX9_isWord_98 (by decide) ?_
      refine lv_goto (tgt := 103) hx hb dX9_isWord_99 (by decide) ?_
      exact J103 _ hk18 v1 v2 v3 v4 v5 v6 v7 v9 1 H locs ls w (lv_sub hl [0, 1, 2, 3, 4, 5, 6, 7, 8] rfl) hf
  have J18 : ∀ (n : Nat) (v1 : Int32) (v2 : Int32) (v3 : Int32) (v4 : Int32) (v5 : Int32) (v6 : Int32) (v7 : Int32) (v8 : Int32) (v9 : Int32) (H : Heap) (locs : List Loc) (ls : Array Slot), Wd (EM D ca ak av) A s (wM ad ca fi fl ar) H locs → lv_has ls 10 [(0, .ref (ad 0)), (1, .int v1), (2, .int v2), (3, .int v3), (4, .int v4), (5, .int v5), (6, .int v6), (7, .int v7), (8, .int v8), (9, .int v9)] → f_X9_isWord_18 fi ar n v1 v2 v3 v4 v5 v6 v7 v8 v9 = some r0 → W p l e ({ frames := 0, cells := 0, slots := 0, locals := 0 } : Room) s m args below meth c H locs 0 0 (MQ below (Qz (EM D ca ak av) A (wM ad ca fi fl ar) r0) args s 0 0 A) (F0 m 18 ls []) := by
    intro  n
    induction n with
    | zero =>
      intro v1 v2 v3 v4 v5 v6 v7 v8 v9 H locs ls w hl hf
      cases hf
    | succ n ih =>
      intro v1 v2 v3 v4 v5 v6 v7 v8 v9 H locs ls w hl hf
      rw [f_X9_isWord_18] at hf
      refine lv_iload hx hb dX9_isWord_18 (lv_at hl 9 rfl) ?_
      refine lv_iload_n hx hb dX9_isWord_20 rfl (lv_at hl 1 rfl) ?_
      refine lv_icmp_ge (x := v9) (y := v1) (tgt := 111) hx hb dX9_isWord_21 (by decide) (fun c_3 => ?_) (fun c_3 => ?_)
      · have hf := if_t hf c_3
        refine lv_iload hx hb dX9_isWord_111 (lv_at hl 8 rfl) ?_
        obtain ⟨hz_4, hf⟩ := bz_eq hf
        have hf : some v8 = some r0 := hf
        have q0 := so1 hf
        subst q0
        exact retZ B hr hk w hz_4 dX9_isWord_113
      · have hf := if_f hf c_3
        refine lv_iload hx hb dX9_isWord_24 (lv_at hl 8 rfl) ?_
        refine lv_if_eq (x := v8) (tgt := 111) hx hb dX9_isWord_26 (by decide) (fun c_5 => ?_) (fun c_5 => ?_)
        · have hf := if_t hf c_5
          refine lv_iload hx hb dX9_isWord_111 (lv_at hl 8 rfl) ?_
          obtain ⟨hz_6, hf⟩ := bz_eq hf
          have hf : some v8 = some r0 := hf
          have q0 := so1 hf
          subst q0
          exact retZ B hr hk w hz_6 dX9_isWord_113
        · have hf := if_f hf c_5
          refine lv_aload_n hx hb dX9_isWord_29 rfl (lv_at hl 0 rfl) ?_
          refine gfM_0_3 B w kt4_28 dX9_isWord_30 ?_
          refine lv_aload_n hx hb dX9_isWord_33 rfl (lv_at hl 0 rfl) ?_
          refine gfM_0_6 B w kt4_31 dX9_isWord_34 ?_
          refine lv_iload hx hb dX9_isWord_37 (lv_at hl 9 rfl) ?_
          refine lv_iadd (x := (fi 3)) (y := v9) hx hb dX9_isWord_39 ?_
          obtain ⟨hi_7, hf⟩ := gd_eq hf
          refine alM_3 B w hi_7 dX9_isWord_40 ?_
          refine lv_iload hx hb dX9_isWord_41 (lv_at hl 9 rfl) ?_
          refine lv_if_ne (x := v9) (tgt := 50) hx hb dX9_isWord_43 (by decide) (fun c_8 => ?_) (fun c_8 => ?_)
          · have hf := if_f hf c_8
            refine lv_iload hx hb dX9_isWord_50 (lv_at hl 9 rfl) ?_
            refine lv_iconst (v := 1) hx hb dX9_isWord_52 (by decide) ?_
            refine lv_icmp_ne (x := v9) (y := 1) (tgt := 60) hx hb dX9_isWord_53 (by decide) (fun c_9 => ?_) (fun c_9 => ?_)
            · have hf := if_f hf c_9
              refine lv_iload hx hb dX9_isWord_60 (lv_at hl 9 rfl) ?_
              refine lv_iconst (v := 2) hx hb dX9_isWord_62 (by decide) ?_
              refine lv_icmp_ne (x := v9) (y := 2) (tgt := 71) hx hb dX9_isWord_63 (by decide) (fun c_10 => ?_) (fun c_10 => ?_)
              · have hf := if_f hf c_10
                refine lv_iload hx hb dX9_isWord_71 (lv_at hl 9 rfl) ?_
                refine lv_iconst (v := 3) hx hb dX9_isWord_73 (by decide) ?_
                refine lv_icmp_ne (x := v9) (y := 3) (tgt := 82) hx hb dX9_isWord_74 (by decide) (fun c_11 => ?_) (fun c_11 => ?_)
                · have hf := if_f hf c_11
                  refine lv_iload hx hb dX9_isWord_82 (lv_at hl 9 rfl) ?_
                  refine lv_iconst (v := 4) hx hb dX9_isWord_84 (by decide) ?_
                  refine lv_icmp_ne (x := v9) (y := 4) (tgt := 93) hx hb dX9_isWord_85 (by decide) (fun c_12 => ?_) (fun c_12 => ?_)
                  · have hf := if_f hf c_12
                    refine lv_iload hx hb dX9_isWord_93 (lv_at hl 7 rfl) ?_
                    exact J95 _ ih v1 v2 v3 v4 v5 v6 v7 v9 (ar 3 (Int32.toNatClampNeg ((fi 3) + v9))) v7 H locs ls w (lv_sub hl [0, 1, 2, 3, 4, 5, 6, 7, 9] rfl) hf
                  · have hf := if_t hf c_12
                    refine lv_iload hx hb dX9_isWord_88 (lv_at hl 6 rfl) ?_
                    refine lv_goto (tgt := 95) hx hb dX9_isWord_90 (by decide) ?_
                    exact J95 _ ih v1 v2 v3 v4 v5 v6 v7 v9 (ar 3 (Int32.toNatClampNeg ((fi 3) + v9))) v6 H locs ls w (lv_sub hl [0, 1, 2, 3, 4, 5, 6, 7, 9] rfl) hf
                · have hf := if_t hf c_11
                  refine lv_iload hx hb dX9_isWord_77 (lv_at hl 5 rfl) ?_
                  refine lv_goto (tgt := 95) hx hb dX9_isWord_79 (by decide) ?_
                  exact J95 _ ih v1 v2 v3 v4 v5 v6 v7 v9 (ar 3 (Int32.toNatClampNeg ((fi 3) + v9))) v5 H locs ls w (lv_sub hl [0, 1, 2, 3, 4, 5, 6, 7, 9] rfl) hf
              · have hf := if_t hf c_10
                refine lv_iload hx hb dX9_isWord_66 (lv_at hl 4 rfl) ?_
                refine lv_goto (tgt := 95) hx hb dX9_isWord_68 (by decide) ?_
                exact J95 _ ih v1 v2 v3 v4 v5 v6 v7 v9 (ar 3 (Int32.toNatClampNeg ((fi 3) + v9))) v4 H locs ls w (lv_sub hl [0, 1, 2, 3, 4, 5, 6, 7, 9] rfl) hf
            · have hf := if_t hf c_9
              refine lv_iload_n hx hb dX9_isWord_56 rfl (lv_at hl 3 rfl) ?_
              refine lv_goto (tgt := 95) hx hb dX9_isWord_57 (by decide) ?_
              exact J95 _ ih v1 v2 v3 v4 v5 v6 v7 v9 (ar 3 (Int32.toNatClampNeg ((fi 3) + v9))) v3 H locs ls w (lv_sub hl [0, 1, 2, 3, 4, 5, 6, 7, 9] rfl) hf
          · have hf := if_t hf c_8
            refine lv_iload_n hx hb dX9_isWord_46 rfl (lv_at hl 2 rfl) ?_
            refine lv_goto (tgt := 95) hx hb dX9_isWord_47 (by decide) ?_
            exact J95 _ ih v1 v2 v3 v4 v5 v6 v7 v9 (ar 3 (Int32.toNatClampNeg ((fi 3) + v9))) v2 H locs ls w (lv_sub hl [0, 1, 2, 3, 4, 5, 6, 7, 9] rfl) hf
  have J13 : ∀ (v1 : Int32) (v2 : Int32) (v3 : Int32) (v4 : Int32) (v5 : Int32) (v6 : Int32) (v7 : Int32) (t0 : Int32) (H : Heap) (locs : List Loc) (ls : Array Slot), Wd (EM D ca ak av) A s (wM ad ca fi fl ar) H locs → lv_has ls 10 [(0, .ref (ad 0)), (1, .int v1), (2, .int v2), (3, .int v3), (4, .int v4), (5, .int v5), (6, .int v6), (7, .int v7)] → f_X9_isWord_13 fi ar v1 v2 v3 v4 v5 v6 v7 t0 = some r0 → W p l e ({ frames := 0, cells := 0, slots := 0, locals := 0 } : Room) s m args below meth c H locs 0 0 (MQ below (Qz (EM D ca ak av) A (wM ad ca fi fl ar) r0) args s 0 0 A) (F0 m 13 ls [.int t0]) := by
    intro  v1 v2 v3 v4 v5 v6 v7 t0 H locs ls w hl hf
    unfold f_X9_isWord_13 at hf
    refine lv_istore (lv' := [(8, .int t0), (0, .ref (ad 0)), (1, .int v1), (2, .int v2), (3, .int v3), (4, .int v4), (5, .int v5), (6, .int v6), (7, .int v7)]) hx hb dX9_isWord_13 hl (by decide) rfl (fun ls hl => ?_)
    refine lv_iconst (v := 0) hx hb dX9_isWord_15 (by decide) ?_
    refine lv_istore (lv' := [(9, .int 0), (8, .int t0), (0, .ref (ad 0)), (1, .int v1), (2, .int v2), (3, .int v3), (4, .int v4), (5, .int v5), (6, .int v6), (7, .int v7)]) hx hb dX9_isWord_16 hl (by decide) rfl (fun ls hl => ?_)
    exact J18  5000 v1 v2 v3 v4 v5 v6 v7 t0 0 H locs ls w (lv_sub hl [2, 3, 4, 5, 6, 7, 8, 9, 1, 0] rfl) hf
  unfold f_X9_isWord at hf
  refine (show ∀ (H : Heap) (locs : List Loc), Wd (EM D ca ak av) A s (wM ad ca fi fl ar) H locs → W p l e ({ frames := 0, cells := 0, slots := 0, locals := 0 } : Room) s m args below meth c H locs 0 0 (MQ below (Qz (EM D ca ak av) A (wM ad ca fi fl ar) r0) args s 0 0 A) (F0 m 0 ls []) from ?_) s.heap [] w
  intro H locs w
  refine lv_aload_n hx hb dX9_isWord_0 rfl (lv_at hl 0 rfl) ?_
  refine gfM_0_7 B w kt4_32 dX9_isWord_1 ?_
  refine lv_iload_n hx hb dX9_isWord_4 rfl (lv_at hl 1 rfl) ?_
  refine lv_icmp_ne (x := (fi 4)) (y := v1) (tgt := 12) hx hb dX9_isWord_5 (by decide) (fun c_13 => ?_) (fun c_13 => ?_)
  · have hf := if_f hf c_13
    refine lv_iconst (v := 0) hx hb dX9_isWord_12 (by decide) ?_
    exact J13  v1 v2 v3 v4 v5 v6 v7 0 H locs ls w (lv_sub hl [0, 1, 2, 3, 4, 5, 6, 7] rfl) hf
  · have hf := if_t hf c_13
    refine lv_iconst (v := 1) hx hb dX9_isWord_8 (by decide) ?_
    refine lv_goto (tgt := 13) hx hb dX9_isWord_9 (by decide) ?_
    exact J13  v1 v2 v3 v4 v5 v6 v7 1 H locs ls w (lv_sub hl [0, 1, 2, 3, 4, 5, 6, 7] rfl) hf
def f_X9_takeNumber_161 (ar : Nat → Nat → Int32)  (v4 : Int32) (t1 : Int32) (fi : Nat → Int32) : Option (Int32 × (Nat → Int32)) := bind2 (f_X9_want fi t1 2 (fi 3)) (fun r_1 fi_2 => some (v4, fi_2))
def f_X9_takeNumber_160 (ar : Nat → Nat → Int32)  (v4 : Int32) (fi : Nat → Int32) : Option (Int32 × (Nat → Int32)) := f_X9_takeNumber_161 ar v4 0 fi
def f_X9_takeNumber_129 (ar : Nat → Nat → Int32)  (v1 : Int32) (v2 : Int32) (v4 : Int32) (fi : Nat → Int32) : Option (Int32 × (Nat → Int32)) := if (3 ≤ ((fi 2) - (fi 3)) : Prop) then (f_X9_takeNumber_160 ar v4 fi) else (bindv (f_X9_in (Int32.toInt64 v4) (Int32.toInt64 v1) (Int32.toInt64 v2)) (fun r_5 => if (r_5 = 0 : Prop) then (f_X9_takeNumber_160 ar v4 fi) else (f_X9_takeNumber_161 ar v4 1 fi)))
def f_X9_takeNumber_114 (ar : Nat → Nat → Int32) (k50 : Int32 → Int32 → Int32 → (Nat → Int32) → Option (Int32 × (Nat → Int32))) (v1 : Int32) (v2 : Int32) (t0 : Int32) (fi : Nat → Int32) : Option (Int32 × (Nat → Int32)) := bindv (upd fi 2 ((fi 2) + 1)) (fun fi_8 => k50 v1 v2 t0 fi_8)
def f_X9_takeNumber_50 (ar : Nat → Nat → Int32)  : Nat → (Int32) → (Int32) → (Int32) → (Nat → Int32) → Option (Int32 × (Nat → Int32))
  | 0, _, _, _, _ => none
  | n + 1, v1, v2, v4, fi => if ((fi 1) ≤ (fi 2) : Prop) then (f_X9_takeNumber_129 ar v1 v2 v4 fi) else (gd (fi 2) 120 (bindv (f_X9_in (Int32.toInt64 (ar 3 (Int32.toNatClampNeg (fi 2)))) 48 57) (fun r_11 => if (r_11 = 0 : Prop) then (f_X9_takeNumber_129 ar v1 v2 v4 fi) else (if (v4 ≤ 999 : Prop) then (gd (fi 2) 120 (f_X9_takeNumber_114 ar (f_X9_takeNumber_50 ar n) v1 v2 (((10 * v4) + (ar 3 (Int32.toNatClampNeg (fi 2)))) - 48) fi)) else (f_X9_takeNumber_114 ar (f_X9_takeNumber_50 ar n) v1 v2 v4 fi)))))
def f_X9_takeNumber (fi : Nat → Int32) (ar : Nat → Nat → Int32) (v1 : Int32) (v2 : Int32) : Option (Int32 × (Nat → Int32)) := if ((fi 5) ≤ 0 : Prop) then (bind2 (f_X9_here fi ar) (fun r_17 fi_18 => bindv (upd fi_18 3 (fi_18 2)) (fun fi_20 => bindv (f_X9_in (Int32.toInt64 r_17) 48 57) (fun r_21 => bind2 (f_X9_want fi_20 r_21 1 (fi_20 2)) (fun r_23 fi_24 => if (r_23 = 0 : Prop) then (some (0, fi_24)) else (f_X9_takeNumber_50 ar 5000 v1 v2 0 fi_24)))))) else (some (0, fi))
set_option maxHeartbeats 4000000 in
set_option maxRecDepth 100000 in
theorem c_X9_takeNumber (l : Launch) (D : va_G) (ca : Nat → ClassId) (ak av ad : Nat → Nat) (fi : Nat → Int32) (fl : Nat → Int64) (ar : Nat → Nat → Int32) (v1 : Int32) (v2 : Int32) {r0 : Int32} {fi0 : Nat → Int32} (hf : f_X9_takeNumber fi ar v1 v2 = some (r0, fi0)) : MtI l yX9_takeNumber cX9_takeNumber 6 { frames := 1, cells := 0, slots := 0, locals := 25 } (EM D ca ak av) [.ref (ad 0), .int v1, .int v2] (wM ad ca fi fl ar) (wM ad ca fi0 fl ar) r0 := by
  refine MtI.of (own := RX9) (by decide +kernel) rfl (Nat.le_of_ble_eq_true rfl) ?_
  intro p e s m args below meth c A B hr hk w ls hl
  have hx := B.1.1
  have hb := B.1.2.1
  have hown := B.1.2.2.2.1
  have hts := B.1.2.2.2.2
  have hl : lv_has ls 6 [(0, .ref (ad 0)), (1, .int v1), (2, .int v2)] := hl
  have J161 : ∀ (v4 : Int32) (t1 : Int32) (fi : Nat → Int32) (H : Heap) (locs : List Loc) (ls : Array Slot), Wd (EM D ca ak av) A s (wM ad ca fi fl ar) H locs → lv_has ls 6 [(0, .ref (ad 0)), (4, .int v4)] → f_X9_takeNumber_161 ar v4 t1 fi = some (r0, fi0) → W p l e ({ frames := 1, cells := 0, slots := 0, locals := 25 } : Room) s m args below meth c H locs 0 0 (MQ below (Qi (EM D ca ak av) A (wM ad ca fi0 fl ar) r0) args s 0 0 A) (F0 m 161 ls [.int t1, .ref (ad 0)]) := by
    intro  v4 t1 fi H locs ls w hl hf
    unfold f_X9_takeNumber_161 at hf
    refine lv_iconst (v := 2) hx hb dX9_takeNumber_161 (by decide) ?_
    refine lv_aload_n hx hb dX9_takeNumber_162 rfl (lv_at hl 0 rfl) ?_
    refine gfM_0_6 B w kt4_31 dX9_takeNumber_163 ?_
    obtain ⟨r_1, fi_2, er_3, hf⟩ := bind2_eq hf
    refine callVZ (As := [.int t1, .int 2, .int (fi 3)]) (rest := []) B w (c_X9_want l D ca ak av ad fi fl ar t1 2 (fi 3) er_3) (gV kt4_125 kt4_127 kp1_15 kt1_11 kt4_128) hdV_X9_want 0 rfl rfl rfl rfl ⟨Nat.le_of_ble_eq_true rfl, Nat.le_of_ble_eq_true rfl⟩ rfl hl.1 rfl (Nat.le_of_ble_eq_true rfl) dX9_takeNumber_166 ⟨Nat.le_of_ble_eq_true rfl, Nat.le_of_ble_eq_true rfl⟩ (fun H locs w hzr_1 => ?_)
    refine lv_istore (lv' := [(5, .int r_1), (0, .ref (ad 0)), (4, .int v4)]) hx hb dX9_takeNumber_169 hl (by decide) rfl (fun ls hl => ?_)
    refine lv_iload hx hb dX9_takeNumber_171 (lv_at hl 2 rfl) ?_
    have hf : some (v4, fi_2) = some (r0, fi0) := hf
    obtain ⟨q0, q1⟩ := so2 hf
    subst q0
    subst q1
    exact retI B hr hk w dX9_takeNumber_173
  have J160 : ∀ (v4 : Int32) (fi : Nat → Int32) (H : Heap) (locs : List Loc) (ls : Array Slot), Wd (EM D ca ak av) A s (wM ad ca fi fl ar) H locs → lv_has ls 6 [(0, .ref (ad 0)), (4, .int v4)] → f_X9_takeNumber_160 ar v4 fi = some (r0, fi0) → W p l e ({ frames := 1, cells := 0, slots := 0, locals := 25 } : Room) s m args below meth c H locs 0 0 (MQ below (Qi (EM D ca ak av) A (wM ad ca fi0 fl ar) r0) args s 0 0 A) (F0 m 160 ls [.ref (ad 0)]) := by
    intro  v4 fi H locs ls w hl hf
    unfold f_X9_takeNumber_160 at hf
    refine lv_iconst (v := 0) hx hb dX9_takeNumber_160 (by decide) ?_
    exact J161  v4 0 fi H locs ls w (lv_sub hl [0, 1] rfl) hf
  have J129 : ∀ (v1 : Int32) (v2 : Int32) (v4 : Int32) (fi : Nat → Int32) (H : Heap) (locs : List Loc) (ls : Array Slot), Wd (EM D ca ak av) A s (wM ad ca fi fl ar) H locs → lv_has ls 6 [(0, .ref (ad 0)), (1, .int v1), (2, .int v2), (4, .int v4)] → f_X9_takeNumber_129 ar v1 v2 v4 fi = some (r0, fi0) → W p l e ({ frames := 1, cells := 0, slots := 0, locals := 25 } : Room) s m args below meth c H locs 0 0 (MQ below (Qi (EM D ca ak av) A (wM ad ca fi0 fl ar) r0) args s 0 0 A) (F0 m 129 ls []) := by
    intro  v1 v2 v4 fi H locs ls w hl hf
    unfold f_X9_takeNumber_129 at hf
    refine lv_aload_n hx hb dX9_takeNumber_129 rfl (lv_at hl 0 rfl) ?_
    refine lv_aload_n hx hb dX9_takeNumber_130 rfl (lv_at hl 0 rfl) ?_
    refine gfM_0_5 B w kt4_30 dX9_takeNumber_131 ?_
    refine lv_aload_n hx hb dX9_takeNumber_134 rfl (lv_at hl 0 rfl) ?_
    refine gfM_0_6 B w kt4_31 dX9_takeNumber_135 ?_
    refine lv_isub (x := (fi 2)) (y := (fi 3)) hx hb dX9_takeNumber_138 ?_
    refine lv_iconst (v := 3) hx hb dX9_takeNumber_139 (by decide) ?_
    refine lv_icmp_ge (x := ((fi 2) - (fi 3))) (y := 3) (tgt := 160) hx hb dX9_takeNumber_140 (by decide) (fun c_4 => ?_) (fun c_4 => ?_)
    · have hf := if_t hf c_4
      exact J160  v4 fi H locs ls w (lv_sub hl [0, 3] rfl) hf
    · have hf := if_f hf c_4
      refine lv_iload hx hb dX9_takeNumber_143 (lv_at hl 3 rfl) ?_
      refine lv_i2l hx hb dX9_takeNumber_145 rfl ?_
      refine lv_iload_n hx hb dX9_takeNumber_146 rfl (lv_at hl 1 rfl) ?_
      refine lv_i2l hx hb dX9_takeNumber_147 rfl ?_
      refine lv_iload_n hx hb dX9_takeNumber_148 rfl (lv_at hl 2 rfl) ?_
      refine lv_i2l hx hb dX9_takeNumber_149 rfl ?_
      obtain ⟨r_5, er_6⟩ : ∃ y, f_X9_in (Int32.toInt64 v4) (Int32.toInt64 v1) (Int32.toInt64 v2) = y := ⟨_, rfl⟩
      have hf := bindv_eq hf r_5 er_6.symm
      refine callSZ (As := [.long (Int32.toInt64 v4), .long (Int32.toInt64 v1), .long (Int32.toInt64 v2)]) (rest := [.ref (ad 0)]) B w (c_X9_in l _ (Int32.toInt64 v4) (Int32.toInt64 v1) (Int32.toInt64 v2) er_6) (gS kt4_95 kt4_96 kt1_11 kt4_97) hdS_X9_in rfl rfl ⟨Nat.le_of_ble_eq_true rfl, Nat.le_of_ble_eq_true rfl⟩ rfl hl.1 rfl (Nat.le_of_ble_eq_true rfl) dX9_takeNumber_150 ⟨Nat.le_of_ble_eq_true rfl, Nat.le_of_ble_eq_true rfl⟩ (fun H locs w hzr_5 => ?_)
      refine lv_if_eq (x := r_5) (tgt := 160) hx hb dX9_takeNumber_153 (by decide) (fun c_7 => ?_) (fun c_7 => ?_)
      · have hf := if_t hf c_7
        exact J160  v4 fi H locs ls w (lv_sub hl [0, 3] rfl) hf
      · have hf := if_f hf c_7
        refine lv_iconst (v := 1) hx hb dX9_takeNumber_156 (by decide) ?_
        refine lv_goto (tgt := 161) hx hb dX9_takeNumber_157 (by decide) ?_
        exact J161  v4 1 fi H locs ls w (lv_sub hl [0, 3] rfl) hf
  have J114 : ∀ (k50 : Int32 → Int32 → Int32 → (Nat → Int32) → Option (Int32 × (Nat → Int32))) (hk50 : ∀ (v1 : Int32) (v2 : Int32) (v4 : Int32) (fi : Nat → Int32) (H : Heap) (locs : List Loc) (ls : Array Slot), Wd (EM D ca ak av) A s (wM ad ca fi fl ar) H locs → lv_has ls 6 [(0, .ref (ad 0)), (1, .int v1), (2, .int v2), (4, .int v4)] → k50 v1 v2 v4 fi = some (r0, fi0) → W p l e ({ frames := 1, cells := 0, slots := 0, locals := 25 } : Room) s m args below meth c H locs 0 0 (MQ below (Qi (EM D ca ak av) A (wM ad ca fi0 fl ar) r0) args s 0 0 A) (F0 m 50 ls [])) (v1 : Int32) (v2 : Int32) (t0 : Int32) (fi : Nat → Int32) (H : Heap) (locs : List Loc) (ls : Array Slot), Wd (EM D ca ak av) A s (wM ad ca fi fl ar) H locs → lv_has ls 6 [(0, .ref (ad 0)), (1, .int v1), (2, .int v2)] → f_X9_takeNumber_114 ar k50 v1 v2 t0 fi = some (r0, fi0) → W p l e ({ frames := 1, cells := 0, slots := 0, locals := 25 } : Room) s m args below meth c H locs 0 0 (MQ below (Qi (EM D ca ak av) A (wM ad ca fi0 fl ar) r0) args s 0 0 A) (F0 m 114 ls [.int t0]) := by
    intro k50 hk50 v1 v2 t0 fi H locs ls w hl hf
    unfold f_X9_takeNumber_114 at hf
    refine lv_istore (lv' := [(4, .int t0), (0, .ref (ad 0)), (1, .int v1), (2, .int v2)]) hx hb dX9_takeNumber_114 hl (by decide) rfl (fun ls hl => ?_)
    refine lv_aload_n hx hb dX9_takeNumber_116 rfl (lv_at hl 1 rfl) ?_
    refine lv_dup hx hb dX9_takeNumber_117 rfl ?_
    refine gfM_0_5 B w kt4_30 dX9_takeNumber_118 ?_
    refine lv_iconst (v := 1) hx hb dX9_takeNumber_121 (by decide) ?_
    refine lv_iadd (x := (fi 2)) (y := 1) hx hb dX9_takeNumber_122 ?_
    refine pfM_0_5 (v := ((fi 2) + 1)) B w kt4_30 dX9_takeNumber_123 (fun H locs fi_8 efi_8 w => ?_)
    have hf := bindv_eq hf fi_8 efi_8
    refine lv_goto (tgt := 50) hx hb dX9_takeNumber_126 (by decide) ?_
    exact hk50 v1 v2 t0 fi_8 H locs ls w (lv_sub hl [1, 2, 3, 0] rfl) hf
  have J50 : ∀ (n : Nat) (v1 : Int32) (v2 : Int32) (v4 : Int32) (fi : Nat → Int32) (H : Heap) (locs : List Loc) (ls : Array Slot), Wd (EM D ca ak av) A s (wM ad ca fi fl ar) H locs → lv_has ls 6 [(0, .ref (ad 0)), (1, .int v1), (2, .int v2), (4, .int v4)] → f_X9_takeNumber_50 ar n v1 v2 v4 fi = some (r0, fi0) → W p l e ({ frames := 1, cells := 0, slots := 0, locals := 25 } : Room) s m args below meth c H locs 0 0 (MQ below (Qi (EM D ca ak av) A (wM ad ca fi0 fl ar) r0) args s 0 0 A) (F0 m 50 ls []) := by
    intro  n
    induction n with
    | zero =>
      intro v1 v2 v4 fi H locs ls w hl hf
      cases hf
    | succ n ih =>
      intro v1 v2 v4 fi H locs ls w hl hf
      rw [f_X9_takeNumber_50] at hf
      refine lv_aload_n hx hb dX9_takeNumber_50 rfl (lv_at hl 0 rfl) ?_
      refine gfM_0_5 B w kt4_30 dX9_takeNumber_51 ?_
      refine lv_aload_n hx hb dX9_takeNumber_54 rfl (lv_at hl 0 rfl) ?_
      refine gfM_0_4 B w kt4_29 dX9_takeNumber_55 ?_
      refine lv_icmp_ge (x := (fi 2)) (y := (fi 1)) (tgt := 129) hx hb dX9_takeNumber_58 (by decide) (fun c_9 => ?_) (fun c_9 => ?_)
      · have hf := if_t hf c_9
        exact J129  v1 v2 v4 fi H locs ls w (lv_sub hl [0, 1, 2, 3] rfl) hf
      · have hf := if_f hf c_9
        refine lv_aload_n hx hb dX9_takeNumber_61 rfl (lv_at hl 0 rfl) ?_
        refine gfM_0_3 B w kt4_28 dX9_takeNumber_62 ?_
        refine lv_aload_n hx hb dX9_takeNumber_65 rfl (lv_at hl 0 rfl) ?_
        refine gfM_0_5 B w kt4_30 dX9_takeNumber_66 ?_
        obtain ⟨hi_10, hf⟩ := gd_eq hf
        refine alM_3 B w hi_10 dX9_takeNumber_69 ?_
        refine lv_i2l hx hb dX9_takeNumber_70 rfl ?_
        refine lv_ldc2 (own := RX9) (v := 48) hx hb hown (hts _ kt4_144) dX9_takeNumber_71 ?_
        refine lv_ldc2 (own := RX9) (v := 57) hx hb hown (hts _ kt4_145) dX9_takeNumber_74 ?_
        obtain ⟨r_11, er_12⟩ : ∃ y, f_X9_in (Int32.toInt64 (ar 3 (Int32.toNatClampNeg (fi 2)))) 48 57 = y := ⟨_, rfl⟩
        have hf := bindv_eq hf r_11 er_12.symm
        refine callSZ (As := [.long (Int32.toInt64 (ar 3 (Int32.toNatClampNeg (fi 2)))), .long 48, .long 57]) (rest := []) B w (c_X9_in l _ (Int32.toInt64 (ar 3 (Int32.toNatClampNeg (fi 2)))) 48 57 er_12) (gS kt4_95 kt4_96 kt1_11 kt4_97) hdS_X9_in rfl rfl ⟨Nat.le_of_ble_eq_true rfl, Nat.le_of_ble_eq_true rfl⟩ rfl hl.1 rfl (Nat.le_of_ble_eq_true rfl) dX9_takeNumber_77 ⟨Nat.le_of_ble_eq_true rfl, Nat.le_of_ble_eq_true rfl⟩ (fun H locs w hzr_11 => ?_)
        refine lv_if_eq (x := r_11) (tgt := 129) hx hb dX9_takeNumber_80 (by decide) (fun c_13 => ?_) (fun c_13 => ?_)
        · have hf := if_t hf c_13
          exact J129  v1 v2 v4 fi H locs ls w (lv_sub hl [0, 1, 2, 3] rfl) hf
        · have hf := if_f hf c_13
          refine lv_iload hx hb dX9_takeNumber_83 (lv_at hl 3 rfl) ?_
          refine lv_sipush (v := 999) hx hb dX9_takeNumber_85 (by decide) ?_
          refine lv_icmp_le (x := v4) (y := 999) (tgt := 96) hx hb dX9_takeNumber_88 (by decide) (fun c_14 => ?_) (fun c_14 => ?_)
          · have hf := if_t hf c_14
            refine lv_bipush (v := 10) hx hb dX9_takeNumber_96 (by decide) ?_
            refine lv_iload hx hb dX9_takeNumber_98 (lv_at hl 3 rfl) ?_
            refine lv_imul (x := 10) (y := v4) hx hb dX9_takeNumber_100 ?_
            refine lv_aload_n hx hb dX9_takeNumber_101 rfl (lv_at hl 0 rfl) ?_
            refine gfM_0_3 B w kt4_28 dX9_takeNumber_102 ?_
            refine lv_aload_n hx hb dX9_takeNumber_105 rfl (lv_at hl 0 rfl) ?_
            refine gfM_0_5 B w kt4_30 dX9_takeNumber_106 ?_
            obtain ⟨hi_15, hf⟩ := gd_eq hf
            refine alM_3 B w hi_15 dX9_takeNumber_109 ?_
            refine lv_iadd (x := (10 * v4)) (y := (ar 3 (Int32.toNatClampNeg (fi 2)))) hx hb dX9_takeNumber_110 ?_
            refine lv_bipush (v := 48) hx hb dX9_takeNumber_111 (by decide) ?_
            refine lv_isub (x := ((10 * v4) + (ar 3 (Int32.toNatClampNeg (fi 2))))) (y := 48) hx hb dX9_takeNumber_113 ?_
            exact J114 _ ih v1 v2 (((10 * v4) + (ar 3 (Int32.toNatClampNeg (fi 2)))) - 48) fi H locs ls w (lv_sub hl [0, 1, 2] rfl) hf
          · have hf := if_f hf c_14
            refine lv_iload hx hb dX9_takeNumber_91 (lv_at hl 3 rfl) ?_
            refine lv_goto (tgt := 114) hx hb dX9_takeNumber_93 (by decide) ?_
            exact J114 _ ih v1 v2 v4 fi H locs ls w (lv_sub hl [0, 1, 2] rfl) hf
  unfold f_X9_takeNumber at hf
  refine (show ∀ (H : Heap) (locs : List Loc), Wd (EM D ca ak av) A s (wM ad ca fi fl ar) H locs → W p l e ({ frames := 1, cells := 0, slots := 0, locals := 25 } : Room) s m args below meth c H locs 0 0 (MQ below (Qi (EM D ca ak av) A (wM ad ca fi0 fl ar) r0) args s 0 0 A) (F0 m 0 ls []) from ?_) s.heap [] w
  intro H locs w
  refine lv_aload_n hx hb dX9_takeNumber_0 rfl (lv_at hl 0 rfl) ?_
  refine gfM_0_8 B w kt4_33 dX9_takeNumber_1 ?_
  refine lv_if_le (x := (fi 5)) (tgt := 9) hx hb dX9_takeNumber_4 (by decide) (fun c_16 => ?_) (fun c_16 => ?_)
  · have hf := if_t hf c_16
    refine lv_aload_n hx hb dX9_takeNumber_9 rfl (lv_at hl 0 rfl) ?_
    obtain ⟨r_17, fi_18, er_19, hf⟩ := bind2_eq hf
    refine callVI (As := []) (rest := []) B w (c_X9_here l D ca ak av ad fi fl ar  er_19) (gV kt4_103 kt4_105 kp1_10 kt1_11 kt4_106) hdV_X9_here 0 rfl rfl rfl rfl ⟨Nat.le_of_ble_eq_true rfl, Nat.le_of_ble_eq_true rfl⟩ rfl hl.1 rfl (Nat.le_of_ble_eq_true rfl) dX9_takeNumber_10 ⟨Nat.le_of_ble_eq_true rfl, Nat.le_of_ble_eq_true rfl⟩ (fun H locs w => ?_)
    refine lv_istore_n (lv' := [(3, .int r_17), (0, .ref (ad 0)), (1, .int v1), (2, .int v2)]) hx hb dX9_takeNumber_13 rfl hl (by decide) rfl (fun ls hl => ?_)
    refine lv_aload_n hx hb dX9_takeNumber_14 rfl (lv_at hl 1 rfl) ?_
    refine lv_aload_n hx hb dX9_takeNumber_15 rfl (lv_at hl 1 rfl) ?_
    refine gfM_0_5 B w kt4_30 dX9_takeNumber_16 ?_
    refine pfM_0_6 (v := (fi_18 2)) B w kt4_31 dX9_takeNumber_19 (fun H locs fi_20 efi_20 w => ?_)
    have hf := bindv_eq hf fi_20 efi_20
    refine lv_aload_n hx hb dX9_takeNumber_22 rfl (lv_at hl 1 rfl) ?_
    refine lv_iload_n hx hb dX9_takeNumber_23 rfl (lv_at hl 0 rfl) ?_
    refine lv_i2l hx hb dX9_takeNumber_24 rfl ?_
    refine lv_ldc2 (own := RX9) (v := 48) hx hb hown (hts _ kt4_144) dX9_takeNumber_25 ?_
    refine lv_ldc2 (own := RX9) (v := 57) hx hb hown (hts _ kt4_145) dX9_takeNumber_28 ?_
    obtain ⟨r_21, er_22⟩ : ∃ y, f_X9_in (Int32.toInt64 r_17) 48 57 = y := ⟨_, rfl⟩
    have hf := bindv_eq hf r_21 er_22.symm
    refine callSZ (As := [.long (Int32.toInt64 r_17), .long 48, .long 57]) (rest := [.ref (ad 0)]) B w (c_X9_in l _ (Int32.toInt64 r_17) 48 57 er_22) (gS kt4_95 kt4_96 kt1_11 kt4_97) hdS_X9_in rfl rfl ⟨Nat.le_of_ble_eq_true rfl, Nat.le_of_ble_eq_true rfl⟩ rfl hl.1 rfl (Nat.le_of_ble_eq_true rfl) dX9_takeNumber_31 ⟨Nat.le_of_ble_eq_true rfl, Nat.le_of_ble_eq_true rfl⟩ (fun H locs w hzr_21 => ?_)
    refine lv_iconst (v := 1) hx hb dX9_takeNumber_34 (by decide) ?_
    refine lv_aload_n hx hb dX9_takeNumber_35 rfl (lv_at hl 1 rfl) ?_
    refine gfM_0_5 B w kt4_30 dX9_takeNumber_36 ?_
    obtain ⟨r_23, fi_24, er_25, hf⟩ := bind2_eq hf
    refine callVZ (As := [.int r_21, .int 1, .int (fi_20 2)]) (rest := []) B w (c_X9_want l D ca ak av ad fi_20 fl ar r_21 1 (fi_20 2) er_25) (gV kt4_125 kt4_127 kp1_15 kt1_11 kt4_128) hdV_X9_want 0 rfl rfl rfl rfl ⟨Nat.le_of_ble_eq_true rfl, Nat.le_of_ble_eq_true rfl⟩ rfl hl.1 rfl (Nat.le_of_ble_eq_true rfl) dX9_takeNumber_39 ⟨Nat.le_of_ble_eq_true rfl, Nat.le_of_ble_eq_true rfl⟩ (fun H locs w hzr_23 => ?_)
    refine lv_if_ne (x := r_23) (tgt := 47) hx hb dX9_takeNumber_42 (by decide) (fun c_26 => ?_) (fun c_26 => ?_)
    · have hf := if_f hf c_26
      refine lv_iconst (v := 0) hx hb dX9_takeNumber_47 (by decide) ?_
      refine lv_istore (lv' := [(4, .int 0), (3, .int r_17), (0, .ref (ad 0)), (1, .int v1), (2, .int v2)]) hx hb dX9_takeNumber_48 hl (by decide) rfl (fun ls hl => ?_)
      exact J50  5000 v1 v2 0 fi_24 H locs ls w (lv_sub hl [2, 3, 4, 0] rfl) hf
    · have hf := if_t hf c_26
      refine lv_iconst (v := 0) hx hb dX9_takeNumber_45 (by decide) ?_
      have hf : some (0, fi_24) = some (r0, fi0) := hf
      obtain ⟨q0, q1⟩ := so2 hf
      subst q0
      subst q1
      exact retI B hr hk w dX9_takeNumber_46
  · have hf := if_f hf c_16
    refine lv_iconst (v := 0) hx hb dX9_takeNumber_7 (by decide) ?_
    have hf : some (0, fi) = some (r0, fi0) := hf
    obtain ⟨q0, q1⟩ := so2 hf
    subst q0
    subst q1
    exact retI B hr hk w dX9_takeNumber_8
def f_X9_kindOf (fi : Nat → Int32) (ar : Nat → Nat → Int32) : Option (Int32) := bind1 (f_X9_isWord fi ar 4 99 111 115 116 0 0) (fun r_1 => if (r_1 = 0 : Prop) then (bind1 (f_X9_isWord fi ar 5 119 111 114 116 104 0) (fun r_4 => if (r_4 = 0 : Prop) then (bind1 (f_X9_isWord fi ar 4 104 97 110 100 0 0) (fun r_7 => if (r_7 = 0 : Prop) then (bind1 (f_X9_isWord fi ar 3 101 121 101 0 0 0) (fun r_10 => if (r_10 = 0 : Prop) then (bind1 (f_X9_isWord fi ar 4 102 97 100 101 0 0) (fun r_13 => if (r_13 = 0 : Prop) then (bind1 (f_X9_isWord fi ar 3 119 97 121 0 0 0) (fun r_16 => if (r_16 = 0 : Prop) then (bind1 (f_X9_isWord fi ar 6 110 97 109 105 110 103) (fun r_19 => if (r_19 = 0 : Prop) then (some (-1)) else (some 7))) else (some 6))) else (some 4))) else (some 3))) else (some 2))) else (some 1))) else (some 0))
set_option maxHeartbeats 4000000 in
set_option maxRecDepth 100000 in
theorem c_X9_kindOf (l : Launch) (D : va_G) (ca : Nat → ClassId) (ak av ad : Nat → Nat) (fi : Nat → Int32) (fl : Nat → Int64) (ar : Nat → Nat → Int32) {r0 : Int32} (hf : f_X9_kindOf fi ar = some r0) : MtI l yX9_kindOf cX9_kindOf 1 { frames := 1, cells := 0, slots := 0, locals := 29 } (EM D ca ak av) [.ref (ad 0)] (wM ad ca fi fl ar) (wM ad ca fi fl ar) r0 := by
  refine MtI.of (own := RX9) (by decide +kernel) rfl (Nat.le_of_ble_eq_true rfl) ?_
  intro p e s m args below meth c A B hr hk w ls hl
  have hx := B.1.1
  have hb := B.1.2.1
  have hown := B.1.2.2.2.1
  have hts := B.1.2.2.2.2
  have hl : lv_has ls 1 [(0, .ref (ad 0))] := hl
  unfold f_X9_kindOf at hf
  refine (show ∀ (H : Heap) (locs : List Loc), Wd (EM D ca ak av) A s (wM ad ca fi fl ar) H locs → W p l e ({ frames := 1, cells := 0, slots := 0, locals := 29 } : Room) s m args below meth c H locs 0 0 (MQ below (Qi (EM D ca ak av) A (wM ad ca fi fl ar) r0) args s 0 0 A) (F0 m 0 ls []) from ?_) s.heap [] w
  intro H locs w
  refine lv_aload_n hx hb dX9_kindOf_0 rfl (lv_at hl 0 rfl) ?_
  refine lv_iconst (v := 4) hx hb dX9_kindOf_1 (by decide) ?_
  refine lv_bipush (v := 99) hx hb dX9_kindOf_2 (by decide) ?_
  refine lv_bipush (v := 111) hx hb dX9_kindOf_4 (by decide) ?_
  refine lv_bipush (v := 115) hx hb dX9_kindOf_6 (by decide) ?_
  refine lv_bipush (v := 116) hx hb dX9_kindOf_8 (by decide) ?_
  refine lv_iconst (v := 0) hx hb dX9_kindOf_10 (by decide) ?_
  refine lv_iconst (v := 0) hx hb dX9_kindOf_11 (by decide) ?_
  obtain ⟨r_1, er_2, hf⟩ := bind1_eq hf
  refine callVZ (As := [.int 4, .int 99, .int 111, .int 115, .int 116, .int 0, .int 0]) (rest := []) B w (c_X9_isWord l D ca ak av ad fi fl ar 4 99 111 115 116 0 0 er_2) (gV kt4_121 kt4_123 kp1_14 kt1_11 kt4_124) hdV_X9_isWord 0 rfl rfl rfl rfl ⟨Nat.le_of_ble_eq_true rfl, Nat.le_of_ble_eq_true rfl⟩ rfl hl.1 rfl (Nat.le_of_ble_eq_true rfl) dX9_kindOf_12 ⟨Nat.le_of_ble_eq_true rfl, Nat.le_of_ble_eq_true rfl⟩ (fun H locs w hzr_1 => ?_)
  refine lv_if_eq (x := r_1) (tgt := 20) hx hb dX9_kindOf_15 (by decide) (fun c_3 => ?_) (fun c_3 => ?_)
  · have hf := if_t hf c_3
    refine lv_aload_n hx hb dX9_kindOf_20 rfl (lv_at hl 0 rfl) ?_
    refine lv_iconst (v := 5) hx hb dX9_kindOf_21 (by decide) ?_
    refine lv_bipush (v := 119) hx hb dX9_kindOf_22 (by decide) ?_
    refine lv_bipush (v := 111) hx hb dX9_kindOf_24 (by decide) ?_
    refine lv_bipush (v := 114) hx hb dX9_kindOf_26 (by decide) ?_
    refine lv_bipush (v := 116) hx hb dX9_kindOf_28 (by decide) ?_
    refine lv_bipush (v := 104) hx hb dX9_kindOf_30 (by decide) ?_
    refine lv_iconst (v := 0) hx hb dX9_kindOf_32 (by decide) ?_
    obtain ⟨r_4, er_5, hf⟩ := bind1_eq hf
    refine callVZ (As := [.int 5, .int 119, .int 111, .int 114, .int 116, .int 104, .int 0]) (rest := []) B w (c_X9_isWord l D ca ak av ad fi fl ar 5 119 111 114 116 104 0 er_5) (gV kt4_121 kt4_123 kp1_14 kt1_11 kt4_124) hdV_X9_isWord 0 rfl rfl rfl rfl ⟨Nat.le_of_ble_eq_true rfl, Nat.le_of_ble_eq_true rfl⟩ rfl hl.1 rfl (Nat.le_of_ble_eq_true rfl) dX9_kindOf_33 ⟨Nat.le_of_ble_eq_true rfl, Nat.le_of_ble_eq_true rfl⟩ (fun H locs w hzr_4 => ?_)
    refine lv_if_eq (x := r_4) (tgt := 41) hx hb dX9_kindOf_36 (by decide) (fun c_6 => ?_) (fun c_6 => ?_)
    · have hf := if_t hf c_6
      refine lv_aload_n hx hb dX9_kindOf_41 rfl (lv_at hl 0 rfl) ?_
      refine lv_iconst (v := 4) hx hb dX9_kindOf_42 (by decide) ?_
      refine lv_bipush (v := 104) hx hb dX9_kindOf_43 (by decide) ?_
      refine lv_bipush (v := 97) hx hb dX9_kindOf_45 (by decide) ?_
      refine lv_bipush (v := 110) hx hb dX9_kindOf_47 (by decide) ?_
      refine lv_bipush (v := 100) hx hb dX9_kindOf_49 (by decide) ?_
      refine lv_iconst (v := 0) hx hb dX9_kindOf_51 (by decide) ?_
      refine lv_iconst (v := 0) hx hb dX9_kindOf_52 (by decide) ?_
      obtain ⟨r_7, er_8, hf⟩ := bind1_eq hf
      refine callVZ (As := [.int 4, .int 104, .int 97, .int 110, .int 100, .int 0, .int 0]) (rest := []) B w (c_X9_isWord l D ca ak av ad fi fl ar 4 104 97 110 100 0 0 er_8) (gV kt4_121 kt4_123 kp1_14 kt1_11 kt4_124) hdV_X9_isWord 0 rfl rfl rfl rfl ⟨Nat.le_of_ble_eq_true rfl, Nat.le_of_ble_eq_true rfl⟩ rfl hl.1 rfl (Nat.le_of_ble_eq_true rfl) dX9_kindOf_53 ⟨Nat.le_of_ble_eq_true rfl, Nat.le_of_ble_eq_true rfl⟩ (fun H locs w hzr_7 => ?_)
      refine lv_if_eq (x := r_7) (tgt := 61) hx hb dX9_kindOf_56 (by decide) (fun c_9 => ?_) (fun c_9 => ?_)
      · have hf := if_t hf c_9
        refine lv_aload_n hx hb dX9_kindOf_61 rfl (lv_at hl 0 rfl) ?_
        refine lv_iconst (v := 3) hx hb dX9_kindOf_62 (by decide) ?_
        refine lv_bipush (v := 101) hx hb dX9_kindOf_63 (by decide) ?_
        refine lv_bipush (v := 121) hx hb dX9_kindOf_65 (by decide) ?_
        refine lv_bipush (v := 101) hx hb dX9_kindOf_67 (by decide) ?_
        refine lv_iconst (v := 0) hx hb dX9_kindOf_69 (by decide) ?_
        refine lv_iconst (v := 0) hx hb dX9_kindOf_70 (by decide) ?_
        refine lv_iconst (v := 0) hx hb dX9_kindOf_71 (by decide) ?_
        obtain ⟨r_10, er_11, hf⟩ := bind1_eq hf
        refine callVZ (As := [.int 3, .int 101, .int 121, .int 101, .int 0, .int 0, .int 0]) (rest := []) B w (c_X9_isWord l D ca ak av ad fi fl ar 3 101 121 101 0 0 0 er_11) (gV kt4_121 kt4_123 kp1_14 kt1_11 kt4_124) hdV_X9_isWord 0 rfl rfl rfl rfl ⟨Nat.le_of_ble_eq_true rfl, Nat.le_of_ble_eq_true rfl⟩ rfl hl.1 rfl (Nat.le_of_ble_eq_true rfl) dX9_kindOf_72 ⟨Nat.le_of_ble_eq_true rfl, Nat.le_of_ble_eq_true rfl⟩ (fun H locs w hzr_10 => ?_)
        refine lv_if_eq (x := r_10) (tgt := 80) hx hb dX9_kindOf_75 (by decide) (fun c_12 => ?_) (fun c_12 => ?_)
        · have hf := if_t hf c_12
          refine lv_aload_n hx hb dX9_kindOf_80 rfl (lv_at hl 0 rfl) ?_
          refine lv_iconst (v := 4) hx hb dX9_kindOf_81 (by decide) ?_
          refine lv_bipush (v := 102) hx hb dX9_kindOf_82 (by decide) ?_
          refine lv_bipush (v := 97) hx hb dX9_kindOf_84 (by decide) ?_
          refine lv_bipush (v := 100) hx hb dX9_kindOf_86 (by decide) ?_
          refine lv_bipush (v := 101) hx hb dX9_kindOf_88 (by decide) ?_
          refine lv_iconst (v := 0) hx hb dX9_kindOf_90 (by decide) ?_
          refine lv_iconst (v := 0) hx hb dX9_kindOf_91 (by decide) ?_
          obtain ⟨r_13, er_14, hf⟩ := bind1_eq hf
          refine callVZ (As := [.int 4, .int 102, .int 97, .int 100, .int 101, .int 0, .int 0]) (rest := []) B w (c_X9_isWord l D ca ak av ad fi fl ar 4 102 97 100 101 0 0 er_14) (gV kt4_121 kt4_123 kp1_14 kt1_11 kt4_124) hdV_X9_isWord 0 rfl rfl rfl rfl ⟨Nat.le_of_ble_eq_true rfl, Nat.le_of_ble_eq_true rfl⟩ rfl hl.1 rfl (Nat.le_of_ble_eq_true rfl) dX9_kindOf_92 ⟨Nat.le_of_ble_eq_true rfl, Nat.le_of_ble_eq_true rfl⟩ (fun H locs w hzr_13 => ?_)
          refine lv_if_eq (x := r_13) (tgt := 100) hx hb dX9_kindOf_95 (by decide) (fun c_15 => ?_) (fun c_15 => ?_)
          · have hf := if_t hf c_15
            refine lv_aload_n hx hb dX9_kindOf_100 rfl (lv_at hl 0 rfl) ?_
            refine lv_iconst (v := 3) hx hb dX9_kindOf_101 (by decide) ?_
            refine lv_bipush (v := 119) hx hb dX9_kindOf_102 (by decide) ?_
            refine lv_bipush (v := 97) hx hb dX9_kindOf_104 (by decide) ?_
            refine lv_bipush (v := 121) hx hb dX9_kindOf_106 (by decide) ?_
            refine lv_iconst (v := 0) hx hb dX9_kindOf_108 (by decide) ?_
            refine lv_iconst (v := 0) hx hb dX9_kindOf_109 (by decide) ?_
            refine lv_iconst (v := 0) hx hb dX9_kindOf_110 (by decide) ?_
            obtain ⟨r_16, er_17, hf⟩ := bind1_eq hf
            refine callVZ (As := [.int 3, .int 119, .int 97, .int 121, .int 0, .int 0, .int 0]) (rest := []) B w (c_X9_isWord l D ca ak av ad fi fl ar 3 119 97 121 0 0 0 er_17) (gV kt4_121 kt4_123 kp1_14 kt1_11 kt4_124) hdV_X9_isWord 0 rfl rfl rfl rfl ⟨Nat.le_of_ble_eq_true rfl, Nat.le_of_ble_eq_true rfl⟩ rfl hl.1 rfl (Nat.le_of_ble_eq_true rfl) dX9_kindOf_111 ⟨Nat.le_of_ble_eq_true rfl, Nat.le_of_ble_eq_true rfl⟩ (fun H locs w hzr_16 => ?_)
            refine lv_if_eq (x := r_16) (tgt := 120) hx hb dX9_kindOf_114 (by decide) (fun c_18 => ?_) (fun c_18 => ?_)
            · have hf := if_t hf c_18
              refine lv_aload_n hx hb dX9_kindOf_120 rfl (lv_at hl 0 rfl) ?_
              refine lv_bipush (v := 6) hx hb dX9_kindOf_121 (by decide) ?_
              refine lv_bipush (v := 110) hx hb dX9_kindOf_123 (by decide) ?_
              refine lv_bipush (v := 97) hx hb dX9_kindOf_125 (by decide) ?_
              refine lv_bipush (v := 109) hx hb dX9_kindOf_127 (by decide) ?_
              refine lv_bipush (v := 105) hx hb dX9_kindOf_129 (by decide) ?_
              refine lv_bipush (v := 110) hx hb dX9_kindOf_131 (by decide) ?_
              refine lv_bipush (v := 103) hx hb dX9_kindOf_133 (by decide) ?_
              obtain ⟨r_19, er_20, hf⟩ := bind1_eq hf
              refine callVZ (As := [.int 6, .int 110, .int 97, .int 109, .int 105, .int 110, .int 103]) (rest := []) B w (c_X9_isWord l D ca ak av ad fi fl ar 6 110 97 109 105 110 103 er_20) (gV kt4_121 kt4_123 kp1_14 kt1_11 kt4_124) hdV_X9_isWord 0 rfl rfl rfl rfl ⟨Nat.le_of_ble_eq_true rfl, Nat.le_of_ble_eq_true rfl⟩ rfl hl.1 rfl (Nat.le_of_ble_eq_true rfl) dX9_kindOf_135 ⟨Nat.le_of_ble_eq_true rfl, Nat.le_of_ble_eq_true rfl⟩ (fun H locs w hzr_19 => ?_)
              refine lv_if_eq (x := r_19) (tgt := 146) hx hb dX9_kindOf_138 (by decide) (fun c_21 => ?_) (fun c_21 => ?_)
              · have hf := if_t hf c_21
                refine lv_iconst (v := (-1)) hx hb dX9_kindOf_146 (by decide) ?_
                have hf : some (-1) = some r0 := hf
                have q0 := so1 hf
                subst q0
                exact retI B hr hk w dX9_kindOf_147
              · have hf := if_f hf c_21
                refine lv_bipush (v := 7) hx hb dX9_kindOf_141 (by decide) ?_
                refine lv_goto (tgt := 147) hx hb dX9_kindOf_143 (by decide) ?_
                have hf : some 7 = some r0 := hf
                have q0 := so1 hf
                subst q0
                exact retI B hr hk w dX9_kindOf_147
            · have hf := if_f hf c_18
              refine lv_bipush (v := 6) hx hb dX9_kindOf_117 (by decide) ?_
              have hf : some 6 = some r0 := hf
              have q0 := so1 hf
              subst q0
              exact retI B hr hk w dX9_kindOf_119
          · have hf := if_f hf c_15
            refine lv_iconst (v := 4) hx hb dX9_kindOf_98 (by decide) ?_
            have hf : some 4 = some r0 := hf
            have q0 := so1 hf
            subst q0
            exact retI B hr hk w dX9_kindOf_99
        · have hf := if_f hf c_12
          refine lv_iconst (v := 3) hx hb dX9_kindOf_78 (by decide) ?_
          have hf : some 3 = some r0 := hf
          have q0 := so1 hf
          subst q0
          exact retI B hr hk w dX9_kindOf_79
      · have hf := if_f hf c_9
        refine lv_iconst (v := 2) hx hb dX9_kindOf_59 (by decide) ?_
        have hf : some 2 = some r0 := hf
        have q0 := so1 hf
        subst q0
        exact retI B hr hk w dX9_kindOf_60
    · have hf := if_f hf c_6
      refine lv_iconst (v := 1) hx hb dX9_kindOf_39 (by decide) ?_
      have hf : some 1 = some r0 := hf
      have q0 := so1 hf
      subst q0
      exact retI B hr hk w dX9_kindOf_40
  · have hf := if_f hf c_3
    refine lv_iconst (v := 0) hx hb dX9_kindOf_18 (by decide) ?_
    have hf : some 0 = some r0 := hf
    have q0 := so1 hf
    subst q0
    exact retI B hr hk w dX9_kindOf_19
def f_X9_takeBits_136 (ar : Nat → Nat → Int32) (k5 : Int32 → Int32 → Int32 → Int32 → (Nat → Int32) → Option (Int32 × (Nat → Int32))) (v1 : Int32) (v2 : Int32) (v3 : Int32) (v4 : Int32) (fi : Nat → Int32) : Option (Int32 × (Nat → Int32)) := bindv (v4 + 1 : Int32) (fun x_1 => k5 v1 v2 v3 x_1 fi)
def f_X9_takeBits_114 (ar : Nat → Nat → Int32) (k5 : Int32 → Int32 → Int32 → Int32 → (Nat → Int32) → Option (Int32 × (Nat → Int32))) (v1 : Int32) (v2 : Int32) (v3 : Int32) (v4 : Int32) (v5 : Int32) (t1 : Int32) (fi : Nat → Int32) : Option (Int32 × (Nat → Int32)) := bind2 (f_X9_want fi t1 1 (fi 3)) (fun r_2 fi_3 => if (r_2 = 0 : Prop) then (f_X9_takeBits_136 ar k5 v1 v2 v3 v4 fi_3) else (bindv (f_X9_one v5) (fun r_6 => bindv ((v3 ||| (r_6 <<< (v4 &&& 31))) : Int32) (fun x_8 => f_X9_takeBits_136 ar k5 v1 v2 x_8 v4 fi_3))))
def f_X9_takeBits_109 (ar : Nat → Nat → Int32) (k5 : Int32 → Int32 → Int32 → Int32 → (Nat → Int32) → Option (Int32 × (Nat → Int32))) (v1 : Int32) (v2 : Int32) (v3 : Int32) (v4 : Int32) (v5 : Int32) (fi : Nat → Int32) : Option (Int32 × (Nat → Int32)) := f_X9_takeBits_114 ar k5 v1 v2 v3 v4 v5 1 fi
def f_X9_takeBits_96 (ar : Nat → Nat → Int32) (k5 : Int32 → Int32 → Int32 → Int32 → (Nat → Int32) → Option (Int32 × (Nat → Int32))) (v1 : Int32) (v2 : Int32) (v3 : Int32) (v4 : Int32) (v5 : Int32) (t0 : Int32) (fi : Nat → Int32) : Option (Int32 × (Nat → Int32)) := if (v5 = 0 : Prop) then (if (t0 = 0 : Prop) then (f_X9_takeBits_114 ar k5 v1 v2 v3 v4 v5 0 fi) else (f_X9_takeBits_109 ar k5 v1 v2 v3 v4 v5 fi)) else (f_X9_takeBits_109 ar k5 v1 v2 v3 v4 v5 fi)
def f_X9_takeBits_59 (ar : Nat → Nat → Int32) (k5 : Int32 → Int32 → Int32 → Int32 → (Nat → Int32) → Option (Int32 × (Nat → Int32))) (v1 : Int32) (v2 : Int32) (v3 : Int32) (v4 : Int32) (t0 : Int32) (fi : Nat → Int32) : Option (Int32 × (Nat → Int32)) := if (v2 = 0 : Prop) then (bind1 (f_X9_isWord fi ar 3 98 97 100 0 0 0) (fun r_12 => f_X9_takeBits_96 ar k5 v1 v2 v3 v4 t0 r_12 fi)) else (bind1 (f_X9_isWord fi ar 3 110 111 116 0 0 0) (fun r_14 => f_X9_takeBits_96 ar k5 v1 v2 v3 v4 t0 r_14 fi))
def f_X9_takeBits_5 (ar : Nat → Nat → Int32)  : Nat → (Int32) → (Int32) → (Int32) → (Int32) → (Nat → Int32) → Option (Int32 × (Nat → Int32))
  | 0, _, _, _, _, _ => none
  | n + 1, v1, v2, v3, v4, fi => if (v1 ≤ v4 : Prop) then (some (v3, fi)) else (if ((fi 5) = 0 : Prop) then (bind1 (f_X9_takeWord fi ar) (fun fi_18 => if (v2 = 0 : Prop) then (bind1 (f_X9_isWord fi_18 ar 4 103 111 111 100 0 0) (fun r_21 => f_X9_takeBits_59 ar (f_X9_takeBits_5 ar n) v1 v2 v3 v4 r_21 fi_18)) else (bind1 (f_X9_isWord fi_18 ar 4 104 101 108 112 0 0) (fun r_23 => f_X9_takeBits_59 ar (f_X9_takeBits_5 ar n) v1 v2 v3 v4 r_23 fi_18)))) else (some (v3, fi)))
def f_X9_takeBits (fi : Nat → Int32) (ar : Nat → Nat → Int32) (v1 : Int32) (v2 : Int32) : Option (Int32 × (Nat → Int32)) := f_X9_takeBits_5 ar 5000 v1 v2 0 0 fi
set_option maxHeartbeats 4000000 in
set_option maxRecDepth 100000 in
theorem c_X9_takeBits (l : Launch) (D : va_G) (ca : Nat → ClassId) (ak av ad : Nat → Nat) (fi : Nat → Int32) (fl : Nat → Int64) (ar : Nat → Nat → Int32) (v1 : Int32) (v2 : Int32) {r0 : Int32} {fi0 : Nat → Int32} (hf : f_X9_takeBits fi ar v1 v2 = some (r0, fi0)) : MtI l yX9_takeBits cX9_takeBits 7 { frames := 2, cells := 0, slots := 0, locals := 46 } (EM D ca ak av) [.ref (ad 0), .int v1, .int v2] (wM ad ca fi fl ar) (wM ad ca fi0 fl ar) r0 := by
  refine MtI.of (own := RX9) (by decide +kernel) rfl (Nat.le_of_ble_eq_true rfl) ?_
  intro p e s m args below meth c A B hr hk w ls hl
  have hx := B.1.1
  have hb := B.1.2.1
  have hown := B.1.2.2.2.1
  have hts := B.1.2.2.2.2
  have hl : lv_has ls 7 [(0, .ref (ad 0)), (1, .int v1), (2, .int v2)] := hl
  have J136 : ∀ (k5 : Int32 → Int32 → Int32 → Int32 → (Nat → Int32) → Option (Int32 × (Nat → Int32))) (hk5 : ∀ (v1 : Int32) (v2 : Int32) (v3 : Int32) (v4 : Int32) (fi : Nat → Int32) (H : Heap) (locs : List Loc) (ls : Array Slot), Wd (EM D ca ak av) A s (wM ad ca fi fl ar) H locs → lv_has ls 7 [(0, .ref (ad 0)), (1, .int v1), (2, .int v2), (3, .int v3), (4, .int v4)] → k5 v1 v2 v3 v4 fi = some (r0, fi0) → W p l e ({ frames := 2, cells := 0, slots := 0, locals := 46 } : Room) s m args below meth c H locs 0 0 (MQ below (Qi (EM D ca ak av) A (wM ad ca fi0 fl ar) r0) args s 0 0 A) (F0 m 5 ls [])) (v1 : Int32) (v2 : Int32) (v3 : Int32) (v4 : Int32) (fi : Nat → Int32) (H : Heap) (locs : List Loc) (ls : Array Slot), Wd (EM D ca ak av) A s (wM ad ca fi fl ar) H locs → lv_has ls 7 [(0, .ref (ad 0)), (1, .int v1), (2, .int v2), (3, .int v3), (4, .int v4)] → f_X9_takeBits_136 ar k5 v1 v2 v3 v4 fi = some (r0, fi0) → W p l e ({ frames := 2, cells := 0, slots := 0, locals := 46 } : Room) s m args below meth c H locs 0 0 (MQ below (Qi (EM D ca ak av) A (wM ad ca fi0 fl ar) r0) args s 0 0 A) (F0 m 136 ls []) := by
    intro k5 hk5 v1 v2 v3 v4 fi H locs ls w hl hf
    unfold f_X9_takeBits_136 at hf
    obtain ⟨x_1, ex_1⟩ : ∃ y : Int32, y = v4 + 1 := ⟨_, rfl⟩
    have hf := bindv_eq hf x_1 ex_1
    refine lv_iinc (v := x_1) (lv' := [(4, .int x_1), (0, .ref (ad 0)), (1, .int v1), (2, .int v2), (3, .int v3)]) hx hb dX9_takeBits_136 hl (k := 4) rfl (by rw [ex_1]; rfl) (by decide) rfl (fun ls hl => ?_)
    refine lv_goto (tgt := 5) hx hb dX9_takeBits_139 (by decide) ?_
    exact hk5 v1 v2 v3 x_1 fi H locs ls w (lv_sub hl [1, 2, 3, 4, 0] rfl) hf
  have J114 : ∀ (k5 : Int32 → Int32 → Int32 → Int32 → (Nat → Int32) → Option (Int32 × (Nat → Int32))) (hk5 : ∀ (v1 : Int32) (v2 : Int32) (v3 : Int32) (v4 : Int32) (fi : Nat → Int32) (H : Heap) (locs : List Loc) (ls : Array Slot), Wd (EM D ca ak av) A s (wM ad ca fi fl ar) H locs → lv_has ls 7 [(0, .ref (ad 0)), (1, .int v1), (2, .int v2), (3, .int v3), (4, .int v4)] → k5 v1 v2 v3 v4 fi = some (r0, fi0) → W p l e ({ frames := 2, cells := 0, slots := 0, locals := 46 } : Room) s m args below meth c H locs 0 0 (MQ below (Qi (EM D ca ak av) A (wM ad ca fi0 fl ar) r0) args s 0 0 A) (F0 m 5 ls [])) (v1 : Int32) (v2 : Int32) (v3 : Int32) (v4 : Int32) (v5 : Int32) (t1 : Int32) (fi : Nat → Int32) (H : Heap) (locs : List Loc) (ls : Array Slot), Wd (EM D ca ak av) A s (wM ad ca fi fl ar) H locs → lv_has ls 7 [(0, .ref (ad 0)), (1, .int v1), (2, .int v2), (3, .int v3), (4, .int v4), (5, .int v5)] → f_X9_takeBits_114 ar k5 v1 v2 v3 v4 v5 t1 fi = some (r0, fi0) → W p l e ({ frames := 2, cells := 0, slots := 0, locals := 46 } : Room) s m args below meth c H locs 0 0 (MQ below (Qi (EM D ca ak av) A (wM ad ca fi0 fl ar) r0) args s 0 0 A) (F0 m 114 ls [.int t1, .ref (ad 0)]) := by
    intro k5 hk5 v1 v2 v3 v4 v5 t1 fi H locs ls w hl hf
    unfold f_X9_takeBits_114 at hf
    refine lv_iconst (v := 1) hx hb dX9_takeBits_114 (by decide) ?_
    refine lv_aload_n hx hb dX9_takeBits_115 rfl (lv_at hl 0 rfl) ?_
    refine gfM_0_6 B w kt4_31 dX9_takeBits_116 ?_
    obtain ⟨r_2, fi_3, er_4, hf⟩ := bind2_eq hf
    refine callVZ (As := [.int t1, .int 1, .int (fi 3)]) (rest := []) B w (c_X9_want l D ca ak av ad fi fl ar t1 1 (fi 3) er_4) (gV kt4_125 kt4_127 kp1_15 kt1_11 kt4_128) hdV_X9_want 0 rfl rfl rfl rfl ⟨Nat.le_of_ble_eq_true rfl, Nat.le_of_ble_eq_true rfl⟩ rfl hl.1 rfl (Nat.le_of_ble_eq_true rfl) dX9_takeBits_119 ⟨Nat.le_of_ble_eq_true rfl, Nat.le_of_ble_eq_true rfl⟩ (fun H locs w hzr_2 => ?_)
    refine lv_if_eq (x := r_2) (tgt := 136) hx hb dX9_takeBits_122 (by decide) (fun c_5 => ?_) (fun c_5 => ?_)
    · have hf := if_t hf c_5
      exact J136 _ hk5 v1 v2 v3 v4 fi_3 H locs ls w (lv_sub hl [0, 1, 2, 3, 4] rfl) hf
    · have hf := if_f hf c_5
      refine lv_iload_n hx hb dX9_takeBits_125 rfl (lv_at hl 3 rfl) ?_
      refine lv_iload hx hb dX9_takeBits_126 (lv_at hl 5 rfl) ?_
      obtain ⟨r_6, er_7⟩ : ∃ y, f_X9_one v5 = y := ⟨_, rfl⟩
      have hf := bindv_eq hf r_6 er_7.symm
      refine callSI (As := [.int v5]) (rest := [.int v3]) B w (c_X9_one l _ v5 er_7) (gS kt4_133 kt4_134 kt1_11 kt4_135) hdS_X9_one rfl rfl ⟨Nat.le_of_ble_eq_true rfl, Nat.le_of_ble_eq_true rfl⟩ rfl hl.1 rfl (Nat.le_of_ble_eq_true rfl) dX9_takeBits_128 ⟨Nat.le_of_ble_eq_true rfl, Nat.le_of_ble_eq_true rfl⟩ (fun H locs w => ?_)
      refine lv_iload hx hb dX9_takeBits_131 (lv_at hl 4 rfl) ?_
      refine lv_ishl (x := r_6) (y := v4) hx hb dX9_takeBits_133 ?_
      refine lv_ior (x := v3) (y := (r_6 <<< (v4 &&& 31))) hx hb dX9_takeBits_134 ?_
      refine lv_topi (fun x_8 ex_8 => ?_)
      have hf := bindv_eq hf x_8 ex_8
      refine lv_istore_n (lv' := [(3, .int x_8), (0, .ref (ad 0)), (1, .int v1), (2, .int v2), (4, .int v4), (5, .int v5)]) hx hb dX9_takeBits_135 rfl hl (by decide) rfl (fun ls hl => ?_)
      exact J136 _ hk5 v1 v2 x_8 v4 fi_3 H locs ls w (lv_sub hl [1, 2, 3, 0, 4] rfl) hf
  have J109 : ∀ (k5 : Int32 → Int32 → Int32 → Int32 → (Nat → Int32) → Option (Int32 × (Nat → Int32))) (hk5 : ∀ (v1 : Int32) (v2 : Int32) (v3 : Int32) (v4 : Int32) (fi : Nat → Int32) (H : Heap) (locs : List Loc) (ls : Array Slot), Wd (EM D ca ak av) A s (wM ad ca fi fl ar) H locs → lv_has ls 7 [(0, .ref (ad 0)), (1, .int v1), (2, .int v2), (3, .int v3), (4, .int v4)] → k5 v1 v2 v3 v4 fi = some (r0, fi0) → W p l e ({ frames := 2, cells := 0, slots := 0, locals := 46 } : Room) s m args below meth c H locs 0 0 (MQ below (Qi (EM D ca ak av) A (wM ad ca fi0 fl ar) r0) args s 0 0 A) (F0 m 5 ls [])) (v1 : Int32) (v2 : Int32) (v3 : Int32) (v4 : Int32) (v5 : Int32) (fi : Nat → Int32) (H : Heap) (locs : List Loc) (ls : Array Slot), Wd (EM D ca ak av) A s (wM ad ca fi fl ar) H locs → lv_has ls 7 [(0, .ref (ad 0)), (1, .int v1), (2, .int v2), (3, .int v3), (4, .int v4), (5, .int v5)] → f_X9_takeBits_109 ar k5 v1 v2 v3 v4 v5 fi = some (r0, fi0) → W p l e ({ frames := 2, cells := 0, slots := 0, locals := 46 } : Room) s m args below meth c H locs 0 0 (MQ below (Qi (EM D ca ak av) A (wM ad ca fi0 fl ar) r0) args s 0 0 A) (F0 m 109 ls [.ref (ad 0)]) := by
    intro k5 hk5 v1 v2 v3 v4 v5 fi H locs ls w hl hf
    unfold f_X9_takeBits_109 at hf
    refine lv_iconst (v := 1) hx hb dX9_takeBits_109 (by decide) ?_
    refine lv_goto (tgt := 114) hx hb dX9_takeBits_110 (by decide) ?_
    exact J114 _ hk5 v1 v2 v3 v4 v5 1 fi H locs ls w (lv_sub hl [0, 1, 2, 3, 4, 5] rfl) hf
  have J96 : ∀ (k5 : Int32 → Int32 → Int32 → Int32 → (Nat → Int32) → Option (Int32 × (Nat → Int32))) (hk5 : ∀ (v1 : Int32) (v2 : Int32) (v3 : Int32) (v4 : Int32) (fi : Nat → Int32) (H : Heap) (locs : List Loc) (ls : Array Slot), Wd (EM D ca ak av) A s (wM ad ca fi fl ar) H locs → lv_has ls 7 [(0, .ref (ad 0)), (1, .int v1), (2, .int v2), (3, .int v3), (4, .int v4)] → k5 v1 v2 v3 v4 fi = some (r0, fi0) → W p l e ({ frames := 2, cells := 0, slots := 0, locals := 46 } : Room) s m args below meth c H locs 0 0 (MQ below (Qi (EM D ca ak av) A (wM ad ca fi0 fl ar) r0) args s 0 0 A) (F0 m 5 ls [])) (v1 : Int32) (v2 : Int32) (v3 : Int32) (v4 : Int32) (v5 : Int32) (t0 : Int32) (fi : Nat → Int32) (H : Heap) (locs : List Loc) (ls : Array Slot), Wd (EM D ca ak av) A s (wM ad ca fi fl ar) H locs → lv_has ls 7 [(0, .ref (ad 0)), (1, .int v1), (2, .int v2), (3, .int v3), (4, .int v4), (5, .int v5)] → f_X9_takeBits_96 ar k5 v1 v2 v3 v4 v5 t0 fi = some (r0, fi0) → W p l e ({ frames := 2, cells := 0, slots := 0, locals := 46 } : Room) s m args below meth c H locs 0 0 (MQ below (Qi (EM D ca ak av) A (wM ad ca fi0 fl ar) r0) args s 0 0 A) (F0 m 96 ls [.int t0]) := by
    intro k5 hk5 v1 v2 v3 v4 v5 t0 fi H locs ls w hl hf
    unfold f_X9_takeBits_96 at hf
    refine lv_istore (lv' := [(6, .int t0), (0, .ref (ad 0)), (1, .int v1), (2, .int v2), (3, .int v3), (4, .int v4), (5, .int v5)]) hx hb dX9_takeBits_96 hl (by decide) rfl (fun ls hl => ?_)
    refine lv_aload_n hx hb dX9_takeBits_98 rfl (lv_at hl 1 rfl) ?_
    refine lv_iload hx hb dX9_takeBits_99 (lv_at hl 6 rfl) ?_
    refine lv_if_ne (x := v5) (tgt := 109) hx hb dX9_takeBits_101 (by decide) (fun c_9 => ?_) (fun c_9 => ?_)
    · have hf := if_f hf c_9
      exact J109 _ hk5 v1 v2 v3 v4 v5 fi H locs ls w (lv_sub hl [1, 2, 3, 4, 5, 6] rfl) hf
    · have hf := if_t hf c_9
      refine lv_iload hx hb dX9_takeBits_104 (lv_at hl 0 rfl) ?_
      refine lv_if_eq (x := t0) (tgt := 113) hx hb dX9_takeBits_106 (by decide) (fun c_10 => ?_) (fun c_10 => ?_)
      · have hf := if_t hf c_10
        refine lv_iconst (v := 0) hx hb dX9_takeBits_113 (by decide) ?_
        exact J114 _ hk5 v1 v2 v3 v4 v5 0 fi H locs ls w (lv_sub hl [1, 2, 3, 4, 5, 6] rfl) hf
      · have hf := if_f hf c_10
        exact J109 _ hk5 v1 v2 v3 v4 v5 fi H locs ls w (lv_sub hl [1, 2, 3, 4, 5, 6] rfl) hf
  have J59 : ∀ (k5 : Int32 → Int32 → Int32 → Int32 → (Nat → Int32) → Option (Int32 × (Nat → Int32))) (hk5 : ∀ (v1 : Int32) (v2 : Int32) (v3 : Int32) (v4 : Int32) (fi : Nat → Int32) (H : Heap) (locs : List Loc) (ls : Array Slot), Wd (EM D ca ak av) A s (wM ad ca fi fl ar) H locs → lv_has ls 7 [(0, .ref (ad 0)), (1, .int v1), (2, .int v2), (3, .int v3), (4, .int v4)] → k5 v1 v2 v3 v4 fi = some (r0, fi0) → W p l e ({ frames := 2, cells := 0, slots := 0, locals := 46 } : Room) s m args below meth c H locs 0 0 (MQ below (Qi (EM D ca ak av) A (wM ad ca fi0 fl ar) r0) args s 0 0 A) (F0 m 5 ls [])) (v1 : Int32) (v2 : Int32) (v3 : Int32) (v4 : Int32) (t0 : Int32) (fi : Nat → Int32) (H : Heap) (locs : List Loc) (ls : Array Slot), Wd (EM D ca ak av) A s (wM ad ca fi fl ar) H locs → lv_has ls 7 [(0, .ref (ad 0)), (1, .int v1), (2, .int v2), (3, .int v3), (4, .int v4)] → f_X9_takeBits_59 ar k5 v1 v2 v3 v4 t0 fi = some (r0, fi0) → W p l e ({ frames := 2, cells := 0, slots := 0, locals := 46 } : Room) s m args below meth c H locs 0 0 (MQ below (Qi (EM D ca ak av) A (wM ad ca fi0 fl ar) r0) args s 0 0 A) (F0 m 59 ls [.int t0]) := by
    intro k5 hk5 v1 v2 v3 v4 t0 fi H locs ls w hl hf
    unfold f_X9_takeBits_59 at hf
    refine lv_istore (lv' := [(5, .int t0), (0, .ref (ad 0)), (1, .int v1), (2, .int v2), (3, .int v3), (4, .int v4)]) hx hb dX9_takeBits_59 hl (by decide) rfl (fun ls hl => ?_)
    refine lv_iload_n hx hb dX9_takeBits_61 rfl (lv_at hl 3 rfl) ?_
    refine lv_if_eq (x := v2) (tgt := 82) hx hb dX9_takeBits_62 (by decide) (fun c_11 => ?_) (fun c_11 => ?_)
    · have hf := if_t hf c_11
      refine lv_aload_n hx hb dX9_takeBits_82 rfl (lv_at hl 1 rfl) ?_
      refine lv_iconst (v := 3) hx hb dX9_takeBits_83 (by decide) ?_
      refine lv_bipush (v := 98) hx hb dX9_takeBits_84 (by decide) ?_
      refine lv_bipush (v := 97) hx hb dX9_takeBits_86 (by decide) ?_
      refine lv_bipush (v := 100) hx hb dX9_takeBits_88 (by decide) ?_
      refine lv_iconst (v := 0) hx hb dX9_takeBits_90 (by decide) ?_
      refine lv_iconst (v := 0) hx hb dX9_takeBits_91 (by decide) ?_
      refine lv_iconst (v := 0) hx hb dX9_takeBits_92 (by decide) ?_
      obtain ⟨r_12, er_13, hf⟩ := bind1_eq hf
      refine callVZ (As := [.int 3, .int 98, .int 97, .int 100, .int 0, .int 0, .int 0]) (rest := []) B w (c_X9_isWord l D ca ak av ad fi fl ar 3 98 97 100 0 0 0 er_13) (gV kt4_121 kt4_123 kp1_14 kt1_11 kt4_124) hdV_X9_isWord 0 rfl rfl rfl rfl ⟨Nat.le_of_ble_eq_true rfl, Nat.le_of_ble_eq_true rfl⟩ rfl hl.1 rfl (Nat.le_of_ble_eq_true rfl) dX9_takeBits_93 ⟨Nat.le_of_ble_eq_true rfl, Nat.le_of_ble_eq_true rfl⟩ (fun H locs w hzr_12 => ?_)
      exact J96 _ hk5 v1 v2 v3 v4 t0 r_12 fi H locs ls w (lv_sub hl [1, 2, 3, 4, 5, 0] rfl) hf
    · have hf := if_f hf c_11
      refine lv_aload_n hx hb dX9_takeBits_65 rfl (lv_at hl 1 rfl) ?_
      refine lv_iconst (v := 3) hx hb dX9_takeBits_66 (by decide) ?_
      refine lv_bipush (v := 110) hx hb dX9_takeBits_67 (by decide) ?_
      refine lv_bipush (v := 111) hx hb dX9_takeBits_69 (by decide) ?_
      refine lv_bipush (v := 116) hx hb dX9_takeBits_71 (by decide) ?_
      refine lv_iconst (v := 0) hx hb dX9_takeBits_73 (by decide) ?_
      refine lv_iconst (v := 0) hx hb dX9_takeBits_74 (by decide) ?_
      refine lv_iconst (v := 0) hx hb dX9_takeBits_75 (by decide) ?_
      obtain ⟨r_14, er_15, hf⟩ := bind1_eq hf
      refine callVZ (As := [.int 3, .int 110, .int 111, .int 116, .int 0, .int 0, .int 0]) (rest := []) B w (c_X9_isWord l D ca ak av ad fi fl ar 3 110 111 116 0 0 0 er_15) (gV kt4_121 kt4_123 kp1_14 kt1_11 kt4_124) hdV_X9_isWord 0 rfl rfl rfl rfl ⟨Nat.le_of_ble_eq_true rfl, Nat.le_of_ble_eq_true rfl⟩ rfl hl.1 rfl (Nat.le_of_ble_eq_true rfl) dX9_takeBits_76 ⟨Nat.le_of_ble_eq_true rfl, Nat.le_of_ble_eq_true rfl⟩ (fun H locs w hzr_14 => ?_)
      refine lv_goto (tgt := 96) hx hb dX9_takeBits_79 (by decide) ?_
      exact J96 _ hk5 v1 v2 v3 v4 t0 r_14 fi H locs ls w (lv_sub hl [1, 2, 3, 4, 5, 0] rfl) hf
  have J5 : ∀ (n : Nat) (v1 : Int32) (v2 : Int32) (v3 : Int32) (v4 : Int32) (fi : Nat → Int32) (H : Heap) (locs : List Loc) (ls : Array Slot), Wd (EM D ca ak av) A s (wM ad ca fi fl ar) H locs → lv_has ls 7 [(0, .ref (ad 0)), (1, .int v1), (2, .int v2), (3, .int v3), (4, .int v4)] → f_X9_takeBits_5 ar n v1 v2 v3 v4 fi = some (r0, fi0) → W p l e ({ frames := 2, cells := 0, slots := 0, locals := 46 } : Room) s m args below meth c H locs 0 0 (MQ below (Qi (EM D ca ak av) A (wM ad ca fi0 fl ar) r0) args s 0 0 A) (F0 m 5 ls []) := by
    intro  n
    induction n with
    | zero =>
      intro v1 v2 v3 v4 fi H locs ls w hl hf
      cases hf
    | succ n ih =>
      intro v1 v2 v3 v4 fi H locs ls w hl hf
      rw [f_X9_takeBits_5] at hf
      refine lv_iload hx hb dX9_takeBits_5 (lv_at hl 4 rfl) ?_
      refine lv_iload_n hx hb dX9_takeBits_7 rfl (lv_at hl 1 rfl) ?_
      refine lv_icmp_ge (x := v4) (y := v1) (tgt := 142) hx hb dX9_takeBits_8 (by decide) (fun c_16 => ?_) (fun c_16 => ?_)
      · have hf := if_t hf c_16
        refine lv_iload_n hx hb dX9_takeBits_142 rfl (lv_at hl 3 rfl) ?_
        have hf : some (v3, fi) = some (r0, fi0) := hf
        obtain ⟨q0, q1⟩ := so2 hf
        subst q0
        subst q1
        exact retI B hr hk w dX9_takeBits_143
      · have hf := if_f hf c_16
        refine lv_aload_n hx hb dX9_takeBits_11 rfl (lv_at hl 0 rfl) ?_
        refine gfM_0_8 B w kt4_33 dX9_takeBits_12 ?_
        refine lv_if_ne (x := (fi 5)) (tgt := 142) hx hb dX9_takeBits_15 (by decide) (fun c_17 => ?_) (fun c_17 => ?_)
        · have hf := if_f hf c_17
          refine lv_iload_n hx hb dX9_takeBits_142 rfl (lv_at hl 3 rfl) ?_
          have hf : some (v3, fi) = some (r0, fi0) := hf
          obtain ⟨q0, q1⟩ := so2 hf
          subst q0
          subst q1
          exact retI B hr hk w dX9_takeBits_143
        · have hf := if_t hf c_17
          refine lv_aload_n hx hb dX9_takeBits_18 rfl (lv_at hl 0 rfl) ?_
          obtain ⟨fi_18, er_19, hf⟩ := bind1_eq hf
          refine callVV (As := []) (rest := []) B w (c_X9_takeWord l D ca ak av ad fi fl ar  er_19) (gV kt4_111 kt4_113 kp1_12 kt1_11 kt4_114) hdV_X9_takeWord 0 rfl rfl rfl rfl ⟨Nat.le_of_ble_eq_true rfl, Nat.le_of_ble_eq_true rfl⟩ rfl hl.1 rfl (Nat.le_of_ble_eq_true rfl) dX9_takeBits_19 ⟨Nat.le_of_ble_eq_true rfl, Nat.le_of_ble_eq_true rfl⟩ (fun H locs w => ?_)
          refine lv_iload_n hx hb dX9_takeBits_22 rfl (lv_at hl 2 rfl) ?_
          refine lv_if_eq (x := v2) (tgt := 44) hx hb dX9_takeBits_23 (by decide) (fun c_20 => ?_) (fun c_20 => ?_)
          · have hf := if_t hf c_20
            refine lv_aload_n hx hb dX9_takeBits_44 rfl (lv_at hl 0 rfl) ?_
            refine lv_iconst (v := 4) hx hb dX9_takeBits_45 (by decide) ?_
            refine lv_bipush (v := 103) hx hb dX9_takeBits_46 (by decide) ?_
            refine lv_bipush (v := 111) hx hb dX9_takeBits_48 (by decide) ?_
            refine lv_bipush (v := 111) hx hb dX9_takeBits_50 (by decide) ?_
            refine lv_bipush (v := 100) hx hb dX9_takeBits_52 (by decide) ?_
            refine lv_iconst (v := 0) hx hb dX9_takeBits_54 (by decide) ?_
            refine lv_iconst (v := 0) hx hb dX9_takeBits_55 (by decide) ?_
            obtain ⟨r_21, er_22, hf⟩ := bind1_eq hf
            refine callVZ (As := [.int 4, .int 103, .int 111, .int 111, .int 100, .int 0, .int 0]) (rest := []) B w (c_X9_isWord l D ca ak av ad fi_18 fl ar 4 103 111 111 100 0 0 er_22) (gV kt4_121 kt4_123 kp1_14 kt1_11 kt4_124) hdV_X9_isWord 0 rfl rfl rfl rfl ⟨Nat.le_of_ble_eq_true rfl, Nat.le_of_ble_eq_true rfl⟩ rfl hl.1 rfl (Nat.le_of_ble_eq_true rfl) dX9_takeBits_56 ⟨Nat.le_of_ble_eq_true rfl, Nat.le_of_ble_eq_true rfl⟩ (fun H locs w hzr_21 => ?_)
            exact J59 _ ih v1 v2 v3 v4 r_21 fi_18 H locs ls w (lv_sub hl [0, 1, 2, 3, 4] rfl) hf
          · have hf := if_f hf c_20
            refine lv_aload_n hx hb dX9_takeBits_26 rfl (lv_at hl 0 rfl) ?_
            refine lv_iconst (v := 4) hx hb dX9_takeBits_27 (by decide) ?_
            refine lv_bipush (v := 104) hx hb dX9_takeBits_28 (by decide) ?_
            refine lv_bipush (v := 101) hx hb dX9_takeBits_30 (by decide) ?_
            refine lv_bipush (v := 108) hx hb dX9_takeBits_32 (by decide) ?_
            refine lv_bipush (v := 112) hx hb dX9_takeBits_34 (by decide) ?_
            refine lv_iconst (v := 0) hx hb dX9_takeBits_36 (by decide) ?_
            refine lv_iconst (v := 0) hx hb dX9_takeBits_37 (by decide) ?_
            obtain ⟨r_23, er_24, hf⟩ := bind1_eq hf
            refine callVZ (As := [.int 4, .int 104, .int 101, .int 108, .int 112, .int 0, .int 0]) (rest := []) B w (c_X9_isWord l D ca ak av ad fi_18 fl ar 4 104 101 108 112 0 0 er_24) (gV kt4_121 kt4_123 kp1_14 kt1_11 kt4_124) hdV_X9_isWord 0 rfl rfl rfl rfl ⟨Nat.le_of_ble_eq_true rfl, Nat.le_of_ble_eq_true rfl⟩ rfl hl.1 rfl (Nat.le_of_ble_eq_true rfl) dX9_takeBits_38 ⟨Nat.le_of_ble_eq_true rfl, Nat.le_of_ble_eq_true rfl⟩ (fun H locs w hzr_23 => ?_)
            refine lv_goto (tgt := 59) hx hb dX9_takeBits_41 (by decide) ?_
            exact J59 _ ih v1 v2 v3 v4 r_23 fi_18 H locs ls w (lv_sub hl [0, 1, 2, 3, 4] rfl) hf
  unfold f_X9_takeBits at hf
  refine (show ∀ (H : Heap) (locs : List Loc), Wd (EM D ca ak av) A s (wM ad ca fi fl ar) H locs → W p l e ({ frames := 2, cells := 0, slots := 0, locals := 46 } : Room) s m args below meth c H locs 0 0 (MQ below (Qi (EM D ca ak av) A (wM ad ca fi0 fl ar) r0) args s 0 0 A) (F0 m 0 ls []) from ?_) s.heap [] w
  intro H locs w
  refine lv_iconst (v := 0) hx hb dX9_takeBits_0 (by decide) ?_
  refine lv_istore_n (lv' := [(3, .int 0), (0, .ref (ad 0)), (1, .int v1), (2, .int v2)]) hx hb dX9_takeBits_1 rfl hl (by decide) rfl (fun ls hl => ?_)
  refine lv_iconst (v := 0) hx hb dX9_takeBits_2 (by decide) ?_
  refine lv_istore (lv' := [(4, .int 0), (3, .int 0), (0, .ref (ad 0)), (1, .int v1), (2, .int v2)]) hx hb dX9_takeBits_3 hl (by decide) rfl (fun ls hl => ?_)
  exact J5  5000 v1 v2 0 0 fi H locs ls w (lv_sub hl [2, 3, 4, 1, 0] rfl) hf
def f_X9_takeFade (fi : Nat → Int32) (ar : Nat → Nat → Int32) : Option ((Nat → Int32) × (Nat → Nat → Int32)) := bind2 (f_X9_takeNumber fi ar 0 99) (fun r_1 fi_2 => bindv (updA ar 2 (upd (ar 2) (Int32.toNatClampNeg 4) r_1)) (fun ar_4 => if ((fi_2 5) = 0 : Prop) then (bind1 (f_X9_takeWord fi_2 ar_4) (fun fi_6 => bind1 (f_X9_isWord fi_6 ar_4 3 110 101 119 0 0 0) (fun r_8 => if (r_8 = 0 : Prop) then (bindv (upd fi_6 2 (fi_6 3)) (fun fi_11 => some (fi_11, ar_4))) else (bind2 (f_X9_takeNumber fi_6 ar_4 0 1) (fun r_12 fi_13 => bindv (updA ar_4 2 (upd (ar_4 2) (Int32.toNatClampNeg 5) r_12)) (fun ar_15 => some (fi_13, ar_15))))))) else (some (fi_2, ar_4))))
set_option maxHeartbeats 4000000 in
set_option maxRecDepth 100000 in
theorem c_X9_takeFade (l : Launch) (D : va_G) (ca : Nat → ClassId) (ak av ad : Nat → Nat) (fi : Nat → Int32) (fl : Nat → Int64) (ar : Nat → Nat → Int32) {fi0 : Nat → Int32} {ar0 : Nat → Nat → Int32} (hf : f_X9_takeFade fi ar = some (fi0, ar0)) : MtV l yX9_takeFade cX9_takeFade 1 { frames := 2, cells := 0, slots := 0, locals := 50 } (EM D ca ak av) [.ref (ad 0)] (wM ad ca fi fl ar) (wM ad ca fi0 fl ar0) := by
  refine MtV.of (own := RX9) (by decide +kernel) rfl (Nat.le_of_ble_eq_true rfl) ?_
  intro p e s m args below meth c A B hr hk w ls hl
  have hx := B.1.1
  have hb := B.1.2.1
  have hown := B.1.2.2.2.1
  have hts := B.1.2.2.2.2
  have hl : lv_has ls 1 [(0, .ref (ad 0))] := hl
  unfold f_X9_takeFade at hf
  refine (show ∀ (H : Heap) (locs : List Loc), Wd (EM D ca ak av) A s (wM ad ca fi fl ar) H locs → W p l e ({ frames := 2, cells := 0, slots := 0, locals := 50 } : Room) s m args below meth c H locs 0 0 (MQ below (Qv (EM D ca ak av) A (wM ad ca fi0 fl ar0)) args s 0 0 A) (F0 m 0 ls []) from ?_) s.heap [] w
  intro H locs w
  refine lv_aload_n hx hb dX9_takeFade_0 rfl (lv_at hl 0 rfl) ?_
  refine gfM_0_1 B w kt4_26 dX9_takeFade_1 ?_
  refine lv_iconst (v := 4) hx hb dX9_takeFade_4 (by decide) ?_
  refine lv_aload_n hx hb dX9_takeFade_5 rfl (lv_at hl 0 rfl) ?_
  refine lv_iconst (v := 0) hx hb dX9_takeFade_6 (by decide) ?_
  refine lv_bipush (v := 99) hx hb dX9_takeFade_7 (by decide) ?_
  obtain ⟨r_1, fi_2, er_3, hf⟩ := bind2_eq hf
  refine callVI (As := [.int 0, .int 99]) (rest := [.int 4, .ref (ad 2)]) B w (c_X9_takeNumber l D ca ak av ad fi fl ar 0 99 er_3) (gV kt4_140 kt4_142 kp2_2 kt1_11 kt4_143) hdV_X9_takeNumber 0 rfl rfl rfl rfl ⟨Nat.le_of_ble_eq_true rfl, Nat.le_of_ble_eq_true rfl⟩ rfl hl.1 rfl (Nat.le_of_ble_eq_true rfl) dX9_takeFade_9 ⟨Nat.le_of_ble_eq_true rfl, Nat.le_of_ble_eq_true rfl⟩ (fun H locs w => ?_)
  refine asM_2 (x := r_1) B w (vp_in_iff.mpr (by decide)) dX9_takeFade_12 (fun H locs ar_4 ear_4 w => ?_)
  have hf := bindv_eq hf ar_4 ear_4
  refine lv_aload_n hx hb dX9_takeFade_13 rfl (lv_at hl 0 rfl) ?_
  refine gfM_0_8 B w kt4_33 dX9_takeFade_14 ?_
  refine lv_if_ne (x := (fi_2 5)) (tgt := 64) hx hb dX9_takeFade_17 (by decide) (fun c_5 => ?_) (fun c_5 => ?_)
  · have hf := if_f hf c_5
    have hf : some (fi_2, ar_4) = some (fi0, ar0) := hf
    obtain ⟨q0, q1⟩ := so2 hf
    subst q0
    subst q1
    exact retV B hr hk w dX9_takeFade_64
  · have hf := if_t hf c_5
    refine lv_aload_n hx hb dX9_takeFade_20 rfl (lv_at hl 0 rfl) ?_
    obtain ⟨fi_6, er_7, hf⟩ := bind1_eq hf
    refine callVV (As := []) (rest := []) B w (c_X9_takeWord l D ca ak av ad fi_2 fl ar_4  er_7) (gV kt4_111 kt4_113 kp1_12 kt1_11 kt4_114) hdV_X9_takeWord 0 rfl rfl rfl rfl ⟨Nat.le_of_ble_eq_true rfl, Nat.le_of_ble_eq_true rfl⟩ rfl hl.1 rfl (Nat.le_of_ble_eq_true rfl) dX9_takeFade_21 ⟨Nat.le_of_ble_eq_true rfl, Nat.le_of_ble_eq_true rfl⟩ (fun H locs w => ?_)
    refine lv_aload_n hx hb dX9_takeFade_24 rfl (lv_at hl 0 rfl) ?_
    refine lv_iconst (v := 3) hx hb dX9_takeFade_25 (by decide) ?_
    refine lv_bipush (v := 110) hx hb dX9_takeFade_26 (by decide) ?_
    refine lv_bipush (v := 101) hx hb dX9_takeFade_28 (by decide) ?_
    refine lv_bipush (v := 119) hx hb dX9_takeFade_30 (by decide) ?_
    refine lv_iconst (v := 0) hx hb dX9_takeFade_32 (by decide) ?_
    refine lv_iconst (v := 0) hx hb dX9_takeFade_33 (by decide) ?_
    refine lv_iconst (v := 0) hx hb dX9_takeFade_34 (by decide) ?_
    obtain ⟨r_8, er_9, hf⟩ := bind1_eq hf
    refine callVZ (As := [.int 3, .int 110, .int 101, .int 119, .int 0, .int 0, .int 0]) (rest := []) B w (c_X9_isWord l D ca ak av ad fi_6 fl ar_4 3 110 101 119 0 0 0 er_9) (gV kt4_121 kt4_123 kp1_14 kt1_11 kt4_124) hdV_X9_isWord 0 rfl rfl rfl rfl ⟨Nat.le_of_ble_eq_true rfl, Nat.le_of_ble_eq_true rfl⟩ rfl hl.1 rfl (Nat.le_of_ble_eq_true rfl) dX9_takeFade_35 ⟨Nat.le_of_ble_eq_true rfl, Nat.le_of_ble_eq_true rfl⟩ (fun H locs w hzr_8 => ?_)
    refine lv_if_eq (x := r_8) (tgt := 56) hx hb dX9_takeFade_38 (by decide) (fun c_10 => ?_) (fun c_10 => ?_)
    · have hf := if_t hf c_10
      refine lv_aload_n hx hb dX9_takeFade_56 rfl (lv_at hl 0 rfl) ?_
      refine lv_aload_n hx hb dX9_takeFade_57 rfl (lv_at hl 0 rfl) ?_
      refine gfM_0_6 B w kt4_31 dX9_takeFade_58 ?_
      refine pfM_0_5 (v := (fi_6 3)) B w kt4_30 dX9_takeFade_61 (fun H locs fi_11 efi_11 w => ?_)
      have hf := bindv_eq hf fi_11 efi_11
      have hf : some (fi_11, ar_4) = some (fi0, ar0) := hf
      obtain ⟨q0, q1⟩ := so2 hf
      subst q0
      subst q1
      exact retV B hr hk w dX9_takeFade_64
    · have hf := if_f hf c_10
      refine lv_aload_n hx hb dX9_takeFade_41 rfl (lv_at hl 0 rfl) ?_
      refine gfM_0_1 B w kt4_26 dX9_takeFade_42 ?_
      refine lv_iconst (v := 5) hx hb dX9_takeFade_45 (by decide) ?_
      refine lv_aload_n hx hb dX9_takeFade_46 rfl (lv_at hl 0 rfl) ?_
      refine lv_iconst (v := 0) hx hb dX9_takeFade_47 (by decide) ?_
      refine lv_iconst (v := 1) hx hb dX9_takeFade_48 (by decide) ?_
      obtain ⟨r_12, fi_13, er_14, hf⟩ := bind2_eq hf
      refine callVI (As := [.int 0, .int 1]) (rest := [.int 5, .ref (ad 2)]) B w (c_X9_takeNumber l D ca ak av ad fi_6 fl ar_4 0 1 er_14) (gV kt4_140 kt4_142 kp2_2 kt1_11 kt4_143) hdV_X9_takeNumber 0 rfl rfl rfl rfl ⟨Nat.le_of_ble_eq_true rfl, Nat.le_of_ble_eq_true rfl⟩ rfl hl.1 rfl (Nat.le_of_ble_eq_true rfl) dX9_takeFade_49 ⟨Nat.le_of_ble_eq_true rfl, Nat.le_of_ble_eq_true rfl⟩ (fun H locs w => ?_)
      refine asM_2 (x := r_12) B w (vp_in_iff.mpr (by decide)) dX9_takeFade_52 (fun H locs ar_15 ear_15 w => ?_)
      have hf := bindv_eq hf ar_15 ear_15
      refine lv_goto (tgt := 64) hx hb dX9_takeFade_53 (by decide) ?_
      have hf : some (fi_13, ar_15) = some (fi0, ar0) := hf
      obtain ⟨q0, q1⟩ := so2 hf
      subst q0
      subst q1
      exact retV B hr hk w dX9_takeFade_64
def f_X9_takeClause_183   (t1 : Int32) (t3 : Int32) (fi : Nat → Int32) (ar : Nat → Nat → Int32) : Option ((Nat → Int32) × (Nat → Nat → Int32)) := bind2 (f_X9_want fi t3 1 (fi 2)) (fun r_1 fi_2 => bindv (f_X9_one r_1) (fun r_4 => bindv (upd fi_2 2 (t1 + r_4)) (fun fi_6 => some (fi_6, ar))))
def f_X9_takeClause_154   (fi : Nat → Int32) (ar : Nat → Nat → Int32) : Option ((Nat → Int32) × (Nat → Nat → Int32)) := if ((fi 5) = 0 : Prop) then (bind2 (f_X9_here fi ar) (fun r_8 fi_9 => if (r_8 = 59 : Prop) then (f_X9_takeClause_183  (fi_9 2) 1 fi_9 ar) else (f_X9_takeClause_183  (fi_9 2) 0 fi_9 ar))) else (some (fi, ar))
def f_X9_takeClause_150   (t1 : Int32) (t3 : Int32) (t4 : Int32) (fi : Nat → Int32) (ar : Nat → Nat → Int32) : Option ((Nat → Int32) × (Nat → Nat → Int32)) := bind2 (f_X9_takeNumber fi ar t3 t4) (fun r_12 fi_13 => gd t1 8 (bindv (updA ar 2 (upd (ar 2) (Int32.toNatClampNeg t1) r_12)) (fun ar_16 => f_X9_takeClause_154  fi_13 ar_16)))
def f_X9_takeClause_143   (t1 : Int32) (t3 : Int32) (fi : Nat → Int32) (ar : Nat → Nat → Int32) : Option ((Nat → Int32) × (Nat → Nat → Int32)) := f_X9_takeClause_150  t1 t3 50 fi ar
def f_X9_takeClause_49   (v1 : Int32) (v2 : Int32) (t1 : Int32) (fi : Nat → Int32) (ar : Nat → Nat → Int32) : Option ((Nat → Int32) × (Nat → Nat → Int32)) := bind2 (f_X9_want fi t1 3 v1) (fun r_17 fi_18 => if (r_17 = 0 : Prop) then (f_X9_takeClause_154  fi_18 ar) else (bindv (upd fi_18 7 ((fi_18 7) ||| ((1 : Int32) <<< (v2 &&& 31)))) (fun fi_21 => if (v2 = 6 : Prop) then (bind2 (f_X9_takeBits fi_21 ar 4 1) (fun r_34 fi_35 => bindv (updA ar 2 (upd (ar 2) (Int32.toNatClampNeg 6) r_34)) (fun ar_37 => f_X9_takeClause_154  fi_35 ar_37))) else (if (v2 = 7 : Prop) then (bind2 (f_X9_takeBits fi_21 ar 8 0) (fun r_30 fi_31 => bindv (updA ar 2 (upd (ar 2) (Int32.toNatClampNeg 7) r_30)) (fun ar_33 => f_X9_takeClause_154  fi_31 ar_33))) else (if (v2 = 4 : Prop) then (bind2 (f_X9_takeFade fi_21 ar) (fun fi_27 ar_28 => f_X9_takeClause_154  fi_27 ar_28)) else (if (v2 = 2 : Prop) then (f_X9_takeClause_143  v2 0 fi_21 ar) else (if (v2 = 3 : Prop) then (f_X9_takeClause_143  v2 0 fi_21 ar) else (f_X9_takeClause_150  v2 0 99 fi_21 ar))))))))
def f_X9_takeClause_24   (v1 : Int32) (v2 : Int32) (t1 : Int32) (fi : Nat → Int32) (ar : Nat → Nat → Int32) : Option ((Nat → Int32) × (Nat → Nat → Int32)) := bind2 (f_X9_want fi t1 1 v1) (fun r_38 fi_39 => if (r_38 = 0 : Prop) then (f_X9_takeClause_154  fi_39 ar) else (if ((((fi_39 7) >>> (v2 &&& 31)) &&& 1) = 0 : Prop) then (f_X9_takeClause_49  v1 v2 1 fi_39 ar) else (f_X9_takeClause_49  v1 v2 0 fi_39 ar)))
def f_X9_takeClause (fi : Nat → Int32) (ar : Nat → Nat → Int32) : Option ((Nat → Int32) × (Nat → Nat → Int32)) := bind1 (f_X9_takeWord fi ar) (fun fi_43 => bindv ((fi_43 3) : Int32) (fun x_45 => bind1 (f_X9_kindOf fi_43 ar) (fun r_46 => if (r_46 < 0 : Prop) then (f_X9_takeClause_24  x_45 r_46 0 fi_43 ar) else (f_X9_takeClause_24  x_45 r_46 1 fi_43 ar))))
set_option maxHeartbeats 4000000 in
set_option maxRecDepth 100000 in
theorem c_X9_takeClause (l : Launch) (D : va_G) (ca : Nat → ClassId) (ak av ad : Nat → Nat) (fi : Nat → Int32) (fl : Nat → Int64) (ar : Nat → Nat → Int32) {fi0 : Nat → Int32} {ar0 : Nat → Nat → Int32} (hf : f_X9_takeClause fi ar = some (fi0, ar0)) : MtV l yX9_takeClause cX9_takeClause 4 { frames := 3, cells := 0, slots := 0, locals := 72 } (EM D ca ak av) [.ref (ad 0)] (wM ad ca fi fl ar) (wM ad ca fi0 fl ar0) := by
  refine MtV.of (own := RX9) (by decide +kernel) rfl (Nat.le_of_ble_eq_true rfl) ?_
  intro p e s m args below meth c A B hr hk w ls hl
  have hx := B.1.1
  have hb := B.1.2.1
  have hown := B.1.2.2.2.1
  have hts := B.1.2.2.2.2
  have hl : lv_has ls 4 [(0, .ref (ad 0))] := hl
  have J183 : ∀ (t1 : Int32) (t3 : Int32) (fi : Nat → Int32) (ar : Nat → Nat → Int32) (H : Heap) (locs : List Loc) (ls : Array Slot), Wd (EM D ca ak av) A s (wM ad ca fi fl ar) H locs → lv_has ls 4 [(0, .ref (ad 0))] → f_X9_takeClause_183  t1 t3 fi ar = some (fi0, ar0) → W p l e ({ frames := 3, cells := 0, slots := 0, locals := 72 } : Room) s m args below meth c H locs 0 0 (MQ below (Qv (EM D ca ak av) A (wM ad ca fi0 fl ar0)) args s 0 0 A) (F0 m 183 ls [.int t3, .ref (ad 0), .int t1, .ref (ad 0)]) := by
    intro  t1 t3 fi ar H locs ls w hl hf
    unfold f_X9_takeClause_183 at hf
    refine lv_iconst (v := 1) hx hb dX9_takeClause_183 (by decide) ?_
    refine lv_aload_n hx hb dX9_takeClause_184 rfl (lv_at hl 0 rfl) ?_
    refine gfM_0_5 B w kt4_30 dX9_takeClause_185 ?_
    obtain ⟨r_1, fi_2, er_3, hf⟩ := bind2_eq hf
    refine callVZ (As := [.int t3, .int 1, .int (fi 2)]) (rest := [.int t1, .ref (ad 0)]) B w (c_X9_want l D ca ak av ad fi fl ar t3 1 (fi 2) er_3) (gV kt4_125 kt4_127 kp1_15 kt1_11 kt4_128) hdV_X9_want 0 rfl rfl rfl rfl ⟨Nat.le_of_ble_eq_true rfl, Nat.le_of_ble_eq_true rfl⟩ rfl hl.1 rfl (Nat.le_of_ble_eq_true rfl) dX9_takeClause_188 ⟨Nat.le_of_ble_eq_true rfl, Nat.le_of_ble_eq_true rfl⟩ (fun H locs w hzr_1 => ?_)
    obtain ⟨r_4, er_5⟩ : ∃ y, f_X9_one r_1 = y := ⟨_, rfl⟩
    have hf := bindv_eq hf r_4 er_5.symm
    refine callSI (As := [.int r_1]) (rest := [.int t1, .ref (ad 0)]) B w (c_X9_one l _ r_1 er_5) (gS kt4_133 kt4_134 kt1_11 kt4_135) hdS_X9_one rfl rfl ⟨Nat.le_of_ble_eq_true rfl, Nat.le_of_ble_eq_true rfl⟩ rfl hl.1 rfl (Nat.le_of_ble_eq_true rfl) dX9_takeClause_191 ⟨Nat.le_of_ble_eq_true rfl, Nat.le_of_ble_eq_true rfl⟩ (fun H locs w => ?_)
    refine lv_iadd (x := t1) (y := r_4) hx hb dX9_takeClause_194 ?_
    refine pfM_0_5 (v := (t1 + r_4)) B w kt4_30 dX9_takeClause_195 (fun H locs fi_6 efi_6 w => ?_)
    have hf := bindv_eq hf fi_6 efi_6
    have hf : some (fi_6, ar) = some (fi0, ar0) := hf
    obtain ⟨q0, q1⟩ := so2 hf
    subst q0
    subst q1
    exact retV B hr hk w dX9_takeClause_198
  have J154 : ∀ (fi : Nat → Int32) (ar : Nat → Nat → Int32) (H : Heap) (locs : List Loc) (ls : Array Slot), Wd (EM D ca ak av) A s (wM ad ca fi fl ar) H locs → lv_has ls 4 [(0, .ref (ad 0))] → f_X9_takeClause_154  fi ar = some (fi0, ar0) → W p l e ({ frames := 3, cells := 0, slots := 0, locals := 72 } : Room) s m args below meth c H locs 0 0 (MQ below (Qv (EM D ca ak av) A (wM ad ca fi0 fl ar0)) args s 0 0 A) (F0 m 154 ls []) := by
    intro  fi ar H locs ls w hl hf
    unfold f_X9_takeClause_154 at hf
    refine lv_aload_n hx hb dX9_takeClause_154 rfl (lv_at hl 0 rfl) ?_
    refine gfM_0_8 B w kt4_33 dX9_takeClause_155 ?_
    refine lv_if_ne (x := (fi 5)) (tgt := 198) hx hb dX9_takeClause_158 (by decide) (fun c_7 => ?_) (fun c_7 => ?_)
    · have hf := if_f hf c_7
      have hf : some (fi, ar) = some (fi0, ar0) := hf
      obtain ⟨q0, q1⟩ := so2 hf
      subst q0
      subst q1
      exact retV B hr hk w dX9_takeClause_198
    · have hf := if_t hf c_7
      refine lv_aload_n hx hb dX9_takeClause_161 rfl (lv_at hl 0 rfl) ?_
      obtain ⟨r_8, fi_9, er_10, hf⟩ := bind2_eq hf
      refine callVI (As := []) (rest := []) B w (c_X9_here l D ca ak av ad fi fl ar  er_10) (gV kt4_103 kt4_105 kp1_10 kt1_11 kt4_106) hdV_X9_here 0 rfl rfl rfl rfl ⟨Nat.le_of_ble_eq_true rfl, Nat.le_of_ble_eq_true rfl⟩ rfl hl.1 rfl (Nat.le_of_ble_eq_true rfl) dX9_takeClause_162 ⟨Nat.le_of_ble_eq_true rfl, Nat.le_of_ble_eq_true rfl⟩ (fun H locs w => ?_)
      refine lv_istore_n (lv' := [(3, .int r_8), (0, .ref (ad 0))]) hx hb dX9_takeClause_165 rfl hl (by decide) rfl (fun ls hl => ?_)
      refine lv_aload_n hx hb dX9_takeClause_166 rfl (lv_at hl 1 rfl) ?_
      refine lv_dup hx hb dX9_takeClause_167 rfl ?_
      refine gfM_0_5 B w kt4_30 dX9_takeClause_168 ?_
      refine lv_aload_n hx hb dX9_takeClause_171 rfl (lv_at hl 1 rfl) ?_
      refine lv_iload_n hx hb dX9_takeClause_172 rfl (lv_at hl 0 rfl) ?_
      refine lv_bipush (v := 59) hx hb dX9_takeClause_173 (by decide) ?_
      refine lv_icmp_ne (x := r_8) (y := 59) (tgt := 182) hx hb dX9_takeClause_175 (by decide) (fun c_11 => ?_) (fun c_11 => ?_)
      · have hf := if_f hf c_11
        refine lv_iconst (v := 0) hx hb dX9_takeClause_182 (by decide) ?_
        exact J183  (fi_9 2) 0 fi_9 ar H locs ls w (lv_sub hl [1] rfl) hf
      · have hf := if_t hf c_11
        refine lv_iconst (v := 1) hx hb dX9_takeClause_178 (by decide) ?_
        refine lv_goto (tgt := 183) hx hb dX9_takeClause_179 (by decide) ?_
        exact J183  (fi_9 2) 1 fi_9 ar H locs ls w (lv_sub hl [1] rfl) hf
  have J150 : ∀ (t1 : Int32) (t3 : Int32) (t4 : Int32) (fi : Nat → Int32) (ar : Nat → Nat → Int32) (H : Heap) (locs : List Loc) (ls : Array Slot), Wd (EM D ca ak av) A s (wM ad ca fi fl ar) H locs → lv_has ls 4 [(0, .ref (ad 0))] → f_X9_takeClause_150  t1 t3 t4 fi ar = some (fi0, ar0) → W p l e ({ frames := 3, cells := 0, slots := 0, locals := 72 } : Room) s m args below meth c H locs 0 0 (MQ below (Qv (EM D ca ak av) A (wM ad ca fi0 fl ar0)) args s 0 0 A) (F0 m 150 ls [.int t4, .int t3, .ref (ad 0), .int t1, .ref (ad 2)]) := by
    intro  t1 t3 t4 fi ar H locs ls w hl hf
    unfold f_X9_takeClause_150 at hf
    obtain ⟨r_12, fi_13, er_14, hf⟩ := bind2_eq hf
    refine callVI (As := [.int t3, .int t4]) (rest := [.int t1, .ref (ad 2)]) B w (c_X9_takeNumber l D ca ak av ad fi fl ar t3 t4 er_14) (gV kt4_140 kt4_142 kp2_2 kt1_11 kt4_143) hdV_X9_takeNumber 0 rfl rfl rfl rfl ⟨Nat.le_of_ble_eq_true rfl, Nat.le_of_ble_eq_true rfl⟩ rfl hl.1 rfl (Nat.le_of_ble_eq_true rfl) dX9_takeClause_150 ⟨Nat.le_of_ble_eq_true rfl, Nat.le_of_ble_eq_true rfl⟩ (fun H locs w => ?_)
    obtain ⟨hi_15, hf⟩ := gd_eq hf
    refine asM_2 (x := r_12) B w hi_15 dX9_takeClause_153 (fun H locs ar_16 ear_16 w => ?_)
    have hf := bindv_eq hf ar_16 ear_16
    exact J154  fi_13 ar_16 H locs ls w (lv_sub hl [0] rfl) hf
  have J143 : ∀ (t1 : Int32) (t3 : Int32) (fi : Nat → Int32) (ar : Nat → Nat → Int32) (H : Heap) (locs : List Loc) (ls : Array Slot), Wd (EM D ca ak av) A s (wM ad ca fi fl ar) H locs → lv_has ls 4 [(0, .ref (ad 0))] → f_X9_takeClause_143  t1 t3 fi ar = some (fi0, ar0) → W p l e ({ frames := 3, cells := 0, slots := 0, locals := 72 } : Room) s m args below meth c H locs 0 0 (MQ below (Qv (EM D ca ak av) A (wM ad ca fi0 fl ar0)) args s 0 0 A) (F0 m 143 ls [.int t3, .ref (ad 0), .int t1, .ref (ad 2)]) := by
    intro  t1 t3 fi ar H locs ls w hl hf
    unfold f_X9_takeClause_143 at hf
    refine lv_bipush (v := 50) hx hb dX9_takeClause_143 (by decide) ?_
    refine lv_goto (tgt := 150) hx hb dX9_takeClause_145 (by decide) ?_
    exact J150  t1 t3 50 fi ar H locs ls w (lv_sub hl [0] rfl) hf
  have J49 : ∀ (v1 : Int32) (v2 : Int32) (t1 : Int32) (fi : Nat → Int32) (ar : Nat → Nat → Int32) (H : Heap) (locs : List Loc) (ls : Array Slot), Wd (EM D ca ak av) A s (wM ad ca fi fl ar) H locs → lv_has ls 4 [(0, .ref (ad 0)), (1, .int v1), (2, .int v2)] → f_X9_takeClause_49  v1 v2 t1 fi ar = some (fi0, ar0) → W p l e ({ frames := 3, cells := 0, slots := 0, locals := 72 } : Room) s m args below meth c H locs 0 0 (MQ below (Qv (EM D ca ak av) A (wM ad ca fi0 fl ar0)) args s 0 0 A) (F0 m 49 ls [.int t1, .ref (ad 0)]) := by
    intro  v1 v2 t1 fi ar H locs ls w hl hf
    unfold f_X9_takeClause_49 at hf
    refine lv_iconst (v := 3) hx hb dX9_takeClause_49 (by decide) ?_
    refine lv_iload_n hx hb dX9_takeClause_50 rfl (lv_at hl 1 rfl) ?_
    obtain ⟨r_17, fi_18, er_19, hf⟩ := bind2_eq hf
    refine callVZ (As := [.int t1, .int 3, .int v1]) (rest := []) B w (c_X9_want l D ca ak av ad fi fl ar t1 3 v1 er_19) (gV kt4_125 kt4_127 kp1_15 kt1_11 kt4_128) hdV_X9_want 0 rfl rfl rfl rfl ⟨Nat.le_of_ble_eq_true rfl, Nat.le_of_ble_eq_true rfl⟩ rfl hl.1 rfl (Nat.le_of_ble_eq_true rfl) dX9_takeClause_51 ⟨Nat.le_of_ble_eq_true rfl, Nat.le_of_ble_eq_true rfl⟩ (fun H locs w hzr_17 => ?_)
    refine lv_if_eq (x := r_17) (tgt := 154) hx hb dX9_takeClause_54 (by decide) (fun c_20 => ?_) (fun c_20 => ?_)
    · have hf := if_t hf c_20
      exact J154  fi_18 ar H locs ls w (lv_sub hl [0] rfl) hf
    · have hf := if_f hf c_20
      refine lv_aload_n hx hb dX9_takeClause_57 rfl (lv_at hl 0 rfl) ?_
      refine lv_dup hx hb dX9_takeClause_58 rfl ?_
      refine gfM_0_10 B w kt4_35 dX9_takeClause_59 ?_
      refine lv_iconst (v := 1) hx hb dX9_takeClause_62 (by decide) ?_
      refine lv_iload_n hx hb dX9_takeClause_63 rfl (lv_at hl 2 rfl) ?_
      refine lv_ishl (x := 1) (y := v2) hx hb dX9_takeClause_64 ?_
      refine lv_ior (x := (fi_18 7)) (y := ((1 : Int32) <<< (v2 &&& 31))) hx hb dX9_takeClause_65 ?_
      refine pfM_0_10 (v := ((fi_18 7) ||| ((1 : Int32) <<< (v2 &&& 31)))) B w kt4_35 dX9_takeClause_66 (fun H locs fi_21 efi_21 w => ?_)
      have hf := bindv_eq hf fi_21 efi_21
      refine lv_iload_n hx hb dX9_takeClause_69 rfl (lv_at hl 2 rfl) ?_
      refine lv_bipush (v := 6) hx hb dX9_takeClause_70 (by decide) ?_
      refine lv_icmp_ne (x := v2) (y := 6) (tgt := 91) hx hb dX9_takeClause_72 (by decide) (fun c_22 => ?_) (fun c_22 => ?_)
      · have hf := if_f hf c_22
        refine lv_iload_n hx hb dX9_takeClause_91 rfl (lv_at hl 2 rfl) ?_
        refine lv_bipush (v := 7) hx hb dX9_takeClause_92 (by decide) ?_
        refine lv_icmp_ne (x := v2) (y := 7) (tgt := 114) hx hb dX9_takeClause_94 (by decide) (fun c_23 => ?_) (fun c_23 => ?_)
        · have hf := if_f hf c_23
          refine lv_iload_n hx hb dX9_takeClause_114 rfl (lv_at hl 2 rfl) ?_
          refine lv_iconst (v := 4) hx hb dX9_takeClause_115 (by decide) ?_
          refine lv_icmp_ne (x := v2) (y := 4) (tgt := 126) hx hb dX9_takeClause_116 (by decide) (fun c_24 => ?_) (fun c_24 => ?_)
          · have hf := if_f hf c_24
            refine lv_aload_n hx hb dX9_takeClause_126 rfl (lv_at hl 0 rfl) ?_
            refine gfM_0_1 B w kt4_26 dX9_takeClause_127 ?_
            refine lv_iload_n hx hb dX9_takeClause_130 rfl (lv_at hl 2 rfl) ?_
            refine lv_aload_n hx hb dX9_takeClause_131 rfl (lv_at hl 0 rfl) ?_
            refine lv_iconst (v := 0) hx hb dX9_takeClause_132 (by decide) ?_
            refine lv_iload_n hx hb dX9_takeClause_133 rfl (lv_at hl 2 rfl) ?_
            refine lv_iconst (v := 2) hx hb dX9_takeClause_134 (by decide) ?_
            refine lv_icmp_eq (x := v2) (y := 2) (tgt := 143) hx hb dX9_takeClause_135 (by decide) (fun c_25 => ?_) (fun c_25 => ?_)
            · have hf := if_t hf c_25
              exact J143  v2 0 fi_21 ar H locs ls w (lv_sub hl [0] rfl) hf
            · have hf := if_f hf c_25
              refine lv_iload_n hx hb dX9_takeClause_138 rfl (lv_at hl 2 rfl) ?_
              refine lv_iconst (v := 3) hx hb dX9_takeClause_139 (by decide) ?_
              refine lv_icmp_ne (x := v2) (y := 3) (tgt := 148) hx hb dX9_takeClause_140 (by decide) (fun c_26 => ?_) (fun c_26 => ?_)
              · have hf := if_f hf c_26
                refine lv_bipush (v := 99) hx hb dX9_takeClause_148 (by decide) ?_
                exact J150  v2 0 99 fi_21 ar H locs ls w (lv_sub hl [0] rfl) hf
              · have hf := if_t hf c_26
                exact J143  v2 0 fi_21 ar H locs ls w (lv_sub hl [0] rfl) hf
          · have hf := if_t hf c_24
            refine lv_aload_n hx hb dX9_takeClause_119 rfl (lv_at hl 0 rfl) ?_
            obtain ⟨fi_27, ar_28, er_29, hf⟩ := bind2_eq hf
            refine callVV (As := []) (rest := []) B w (c_X9_takeFade l D ca ak av ad fi_21 fl ar  er_29) (gV kt4_136 kt4_138 kp2_1 kt1_11 kt4_139) hdV_X9_takeFade 0 rfl rfl rfl rfl ⟨Nat.le_of_ble_eq_true rfl, Nat.le_of_ble_eq_true rfl⟩ rfl hl.1 rfl (Nat.le_of_ble_eq_true rfl) dX9_takeClause_120 ⟨Nat.le_of_ble_eq_true rfl, Nat.le_of_ble_eq_true rfl⟩ (fun H locs w => ?_)
            refine lv_goto (tgt := 154) hx hb dX9_takeClause_123 (by decide) ?_
            exact J154  fi_27 ar_28 H locs ls w (lv_sub hl [0] rfl) hf
        · have hf := if_t hf c_23
          refine lv_aload_n hx hb dX9_takeClause_97 rfl (lv_at hl 0 rfl) ?_
          refine gfM_0_1 B w kt4_26 dX9_takeClause_98 ?_
          refine lv_bipush (v := 7) hx hb dX9_takeClause_101 (by decide) ?_
          refine lv_aload_n hx hb dX9_takeClause_103 rfl (lv_at hl 0 rfl) ?_
          refine lv_bipush (v := 8) hx hb dX9_takeClause_104 (by decide) ?_
          refine lv_iconst (v := 0) hx hb dX9_takeClause_106 (by decide) ?_
          obtain ⟨r_30, fi_31, er_32, hf⟩ := bind2_eq hf
          refine callVI (As := [.int 8, .int 0]) (rest := [.int 7, .ref (ad 2)]) B w (c_X9_takeBits l D ca ak av ad fi_21 fl ar 8 0 er_32) (gV kt4_129 kt4_131 kp2_0 kt1_11 kt4_132) hdV_X9_takeBits 0 rfl rfl rfl rfl ⟨Nat.le_of_ble_eq_true rfl, Nat.le_of_ble_eq_true rfl⟩ rfl hl.1 rfl (Nat.le_of_ble_eq_true rfl) dX9_takeClause_107 ⟨Nat.le_of_ble_eq_true rfl, Nat.le_of_ble_eq_true rfl⟩ (fun H locs w => ?_)
          refine asM_2 (x := r_30) B w (vp_in_iff.mpr (by decide)) dX9_takeClause_110 (fun H locs ar_33 ear_33 w => ?_)
          have hf := bindv_eq hf ar_33 ear_33
          refine lv_goto (tgt := 154) hx hb dX9_takeClause_111 (by decide) ?_
          exact J154  fi_31 ar_33 H locs ls w (lv_sub hl [0] rfl) hf
      · have hf := if_t hf c_22
        refine lv_aload_n hx hb dX9_takeClause_75 rfl (lv_at hl 0 rfl) ?_
        refine gfM_0_1 B w kt4_26 dX9_takeClause_76 ?_
        refine lv_bipush (v := 6) hx hb dX9_takeClause_79 (by decide) ?_
        refine lv_aload_n hx hb dX9_takeClause_81 rfl (lv_at hl 0 rfl) ?_
        refine lv_iconst (v := 4) hx hb dX9_takeClause_82 (by decide) ?_
        refine lv_iconst (v := 1) hx hb dX9_takeClause_83 (by decide) ?_
        obtain ⟨r_34, fi_35, er_36, hf⟩ := bind2_eq hf
        refine callVI (As := [.int 4, .int 1]) (rest := [.int 6, .ref (ad 2)]) B w (c_X9_takeBits l D ca ak av ad fi_21 fl ar 4 1 er_36) (gV kt4_129 kt4_131 kp2_0 kt1_11 kt4_132) hdV_X9_takeBits 0 rfl rfl rfl rfl ⟨Nat.le_of_ble_eq_true rfl, Nat.le_of_ble_eq_true rfl⟩ rfl hl.1 rfl (Nat.le_of_ble_eq_true rfl) dX9_takeClause_84 ⟨Nat.le_of_ble_eq_true rfl, Nat.le_of_ble_eq_true rfl⟩ (fun H locs w => ?_)
        refine asM_2 (x := r_34) B w (vp_in_iff.mpr (by decide)) dX9_takeClause_87 (fun H locs ar_37 ear_37 w => ?_)
        have hf := bindv_eq hf ar_37 ear_37
        refine lv_goto (tgt := 154) hx hb dX9_takeClause_88 (by decide) ?_
        exact J154  fi_35 ar_37 H locs ls w (lv_sub hl [0] rfl) hf
  have J24 : ∀ (v1 : Int32) (v2 : Int32) (t1 : Int32) (fi : Nat → Int32) (ar : Nat → Nat → Int32) (H : Heap) (locs : List Loc) (ls : Array Slot), Wd (EM D ca ak av) A s (wM ad ca fi fl ar) H locs → lv_has ls 4 [(0, .ref (ad 0)), (1, .int v1), (2, .int v2)] → f_X9_takeClause_24  v1 v2 t1 fi ar = some (fi0, ar0) → W p l e ({ frames := 3, cells := 0, slots := 0, locals := 72 } : Room) s m args below meth c H locs 0 0 (MQ below (Qv (EM D ca ak av) A (wM ad ca fi0 fl ar0)) args s 0 0 A) (F0 m 24 ls [.int t1, .ref (ad 0)]) := by
    intro  v1 v2 t1 fi ar H locs ls w hl hf
    unfold f_X9_takeClause_24 at hf
    refine lv_iconst (v := 1) hx hb dX9_takeClause_24 (by decide) ?_
    refine lv_iload_n hx hb dX9_takeClause_25 rfl (lv_at hl 1 rfl) ?_
    obtain ⟨r_38, fi_39, er_40, hf⟩ := bind2_eq hf
    refine callVZ (As := [.int t1, .int 1, .int v1]) (rest := []) B w (c_X9_want l D ca ak av ad fi fl ar t1 1 v1 er_40) (gV kt4_125 kt4_127 kp1_15 kt1_11 kt4_128) hdV_X9_want 0 rfl rfl rfl rfl ⟨Nat.le_of_ble_eq_true rfl, Nat.le_of_ble_eq_true rfl⟩ rfl hl.1 rfl (Nat.le_of_ble_eq_true rfl) dX9_takeClause_26 ⟨Nat.le_of_ble_eq_true rfl, Nat.le_of_ble_eq_true rfl⟩ (fun H locs w hzr_38 => ?_)
    refine lv_if_eq (x := r_38) (tgt := 154) hx hb dX9_takeClause_29 (by decide) (fun c_41 => ?_) (fun c_41 => ?_)
    · have hf := if_t hf c_41
      exact J154  fi_39 ar H locs ls w (lv_sub hl [0] rfl) hf
    · have hf := if_f hf c_41
      refine lv_aload_n hx hb dX9_takeClause_32 rfl (lv_at hl 0 rfl) ?_
      refine lv_aload_n hx hb dX9_takeClause_33 rfl (lv_at hl 0 rfl) ?_
      refine gfM_0_10 B w kt4_35 dX9_takeClause_34 ?_
      refine lv_iload_n hx hb dX9_takeClause_37 rfl (lv_at hl 2 rfl) ?_
      refine lv_ishr (x := (fi_39 7)) (y := v2) hx hb dX9_takeClause_38 ?_
      refine lv_iconst (v := 1) hx hb dX9_takeClause_39 (by decide) ?_
      refine lv_iand (x := ((fi_39 7) >>> (v2 &&& 31))) (y := 1) hx hb dX9_takeClause_40 ?_
      refine lv_if_ne (x := (((fi_39 7) >>> (v2 &&& 31)) &&& 1)) (tgt := 48) hx hb dX9_takeClause_41 (by decide) (fun c_42 => ?_) (fun c_42 => ?_)
      · have hf := if_f hf c_42
        refine lv_iconst (v := 0) hx hb dX9_takeClause_48 (by decide) ?_
        exact J49  v1 v2 0 fi_39 ar H locs ls w (lv_sub hl [0, 1, 2] rfl) hf
      · have hf := if_t hf c_42
        refine lv_iconst (v := 1) hx hb dX9_takeClause_44 (by decide) ?_
        refine lv_goto (tgt := 49) hx hb dX9_takeClause_45 (by decide) ?_
        exact J49  v1 v2 1 fi_39 ar H locs ls w (lv_sub hl [0, 1, 2] rfl) hf
  unfold f_X9_takeClause at hf
  refine (show ∀ (H : Heap) (locs : List Loc), Wd (EM D ca ak av) A s (wM ad ca fi fl ar) H locs → W p l e ({ frames := 3, cells := 0, slots := 0, locals := 72 } : Room) s m args below meth c H locs 0 0 (MQ below (Qv (EM D ca ak av) A (wM ad ca fi0 fl ar0)) args s 0 0 A) (F0 m 0 ls []) from ?_) s.heap [] w
  intro H locs w
  refine lv_aload_n hx hb dX9_takeClause_0 rfl (lv_at hl 0 rfl) ?_
  obtain ⟨fi_43, er_44, hf⟩ := bind1_eq hf
  refine callVV (As := []) (rest := []) B w (c_X9_takeWord l D ca ak av ad fi fl ar  er_44) (gV kt4_111 kt4_113 kp1_12 kt1_11 kt4_114) hdV_X9_takeWord 0 rfl rfl rfl rfl ⟨Nat.le_of_ble_eq_true rfl, Nat.le_of_ble_eq_true rfl⟩ rfl hl.1 rfl (Nat.le_of_ble_eq_true rfl) dX9_takeClause_1 ⟨Nat.le_of_ble_eq_true rfl, Nat.le_of_ble_eq_true rfl⟩ (fun H locs w => ?_)
  refine lv_aload_n hx hb dX9_takeClause_4 rfl (lv_at hl 0 rfl) ?_
  refine gfM_0_6 B w kt4_31 dX9_takeClause_5 ?_
  refine lv_topi (fun x_45 ex_45 => ?_)
  have hf := bindv_eq hf x_45 ex_45
  refine lv_istore_n (lv' := [(1, .int x_45), (0, .ref (ad 0))]) hx hb dX9_takeClause_8 rfl hl (by decide) rfl (fun ls hl => ?_)
  refine lv_aload_n hx hb dX9_takeClause_9 rfl (lv_at hl 1 rfl) ?_
  obtain ⟨r_46, er_47, hf⟩ := bind1_eq hf
  refine callVI (As := []) (rest := []) B w (c_X9_kindOf l D ca ak av ad fi_43 fl ar  er_47) (gV kt4_117 kt4_119 kp1_13 kt1_11 kt4_120) hdV_X9_kindOf 0 rfl rfl rfl rfl ⟨Nat.le_of_ble_eq_true rfl, Nat.le_of_ble_eq_true rfl⟩ rfl hl.1 rfl (Nat.le_of_ble_eq_true rfl) dX9_takeClause_10 ⟨Nat.le_of_ble_eq_true rfl, Nat.le_of_ble_eq_true rfl⟩ (fun H locs w => ?_)
  refine lv_istore_n (lv' := [(2, .int r_46), (1, .int x_45), (0, .ref (ad 0))]) hx hb dX9_takeClause_13 rfl hl (by decide) rfl (fun ls hl => ?_)
  refine lv_aload_n hx hb dX9_takeClause_14 rfl (lv_at hl 2 rfl) ?_
  refine lv_iload_n hx hb dX9_takeClause_15 rfl (lv_at hl 0 rfl) ?_
  refine lv_if_lt (x := r_46) (tgt := 23) hx hb dX9_takeClause_16 (by decide) (fun c_48 => ?_) (fun c_48 => ?_)
  · have hf := if_t hf c_48
    refine lv_iconst (v := 0) hx hb dX9_takeClause_23 (by decide) ?_
    exact J24  x_45 r_46 0 fi_43 ar H locs ls w (lv_sub hl [2, 1, 0] rfl) hf
  · have hf := if_f hf c_48
    refine lv_iconst (v := 1) hx hb dX9_takeClause_19 (by decide) ?_
    refine lv_goto (tgt := 24) hx hb dX9_takeClause_20 (by decide) ?_
    exact J24  x_45 r_46 1 fi_43 ar H locs ls w (lv_sub hl [2, 1, 0] rfl) hf
def f_X9_read_92   : Nat → (Int32) → (Int32) → (Nat → Int32) → (Nat → Nat → Int32) → Option (Int32 × (Nat → Int32) × (Nat → Nat → Int32))
  | 0, _, _, _, _ => none
  | n + 1, v1, v2, fi, ar => if (8 ≤ v2 : Prop) then (some (v1, fi, ar)) else (gd v2 8 (gd v2 8 (bindv (updA ar 1 (upd (ar 1) (Int32.toNatClampNeg v2) (ar 2 (Int32.toNatClampNeg v2)))) (fun ar_4 => bindv (v2 + 1 : Int32) (fun x_5 => (f_X9_read_92 n) v1 x_5 fi ar_4)))))
def f_X9_read_70   (v1 : Int32) (fi : Nat → Int32) (ar : Nat → Nat → Int32) : Option (Int32 × (Nat → Int32) × (Nat → Nat → Int32)) := bindv (upd fi 1 0) (fun fi_6 => if ((fi_6 5) ≤ 0 : Prop) then (f_X9_read_92  5000 v1 0 fi_6 ar) else (some (((-10) - (fi_6 5)), fi_6, ar)))
def f_X9_read_46   : Nat → (Int32) → (Nat → Int32) → (Nat → Nat → Int32) → Option (Int32 × (Nat → Int32) × (Nat → Nat → Int32))
  | 0, _, _, _ => none
  | n + 1, v1, fi, ar => if ((fi 5) = 0 : Prop) then (bind2 (f_X9_here fi ar) (fun r_9 fi_10 => if (r_9 < 0 : Prop) then (f_X9_read_70  v1 fi_10 ar) else (bind2 (f_X9_takeClause fi_10 ar) (fun fi_13 ar_14 => bindv (v1 + 1 : Int32) (fun x_16 => (f_X9_read_46 n) x_16 fi_13 ar_14))))) else (f_X9_read_70  v1 fi ar)
def f_X9_read_22   : Nat → (Int32) → (Nat → Int32) → (Nat → Nat → Int32) → Option (Int32 × (Nat → Int32) × (Nat → Nat → Int32))
  | 0, _, _, _ => none
  | n + 1, v1, fi, ar => if (8 ≤ v1 : Prop) then (f_X9_read_46  5000 0 fi ar) else (bindv (f_X9_atFirst v1) (fun r_18 => gd v1 8 (bindv (updA ar 2 (upd (ar 2) (Int32.toNatClampNeg v1) r_18)) (fun ar_21 => bindv (v1 + 1 : Int32) (fun x_22 => (f_X9_read_22 n) x_22 fi ar_21)))))
def f_X9_read (fi : Nat → Int32) (ar : Nat → Nat → Int32) : Option (Int32 × (Nat → Int32) × (Nat → Nat → Int32)) := bindv (upd fi 2 0) (fun fi_23 => bindv (upd fi_23 5 0) (fun fi_24 => bindv (upd fi_24 6 (-1)) (fun fi_25 => bindv (upd fi_25 7 0) (fun fi_26 => f_X9_read_22  5000 0 fi_26 ar))))
set_option maxHeartbeats 4000000 in
set_option maxRecDepth 100000 in
theorem c_X9_read (l : Launch) (D : va_G) (ca : Nat → ClassId) (ak av ad : Nat → Nat) (fi : Nat → Int32) (fl : Nat → Int64) (ar : Nat → Nat → Int32) {r0 : Int32} {fi0 : Nat → Int32} {ar0 : Nat → Nat → Int32} (hf : f_X9_read fi ar = some (r0, fi0, ar0)) : MtI l yX9_read cX9_read 3 { frames := 4, cells := 0, slots := 0, locals := 95 } (EM D ca ak av) [.ref (ad 0)] (wM ad ca fi fl ar) (wM ad ca fi0 fl ar0) r0 := by
  refine MtI.of (own := RX9) (by decide +kernel) rfl (Nat.le_of_ble_eq_true rfl) ?_
  intro p e s m args below meth c A B hr hk w ls hl
  have hx := B.1.1
  have hb := B.1.2.1
  have hown := B.1.2.2.2.1
  have hts := B.1.2.2.2.2
  have hl : lv_has ls 3 [(0, .ref (ad 0))] := hl
  have J92 : ∀ (n : Nat) (v1 : Int32) (v2 : Int32) (fi : Nat → Int32) (ar : Nat → Nat → Int32) (H : Heap) (locs : List Loc) (ls : Array Slot), Wd (EM D ca ak av) A s (wM ad ca fi fl ar) H locs → lv_has ls 3 [(0, .ref (ad 0)), (1, .int v1), (2, .int v2)] → f_X9_read_92  n v1 v2 fi ar = some (r0, fi0, ar0) → W p l e ({ frames := 4, cells := 0, slots := 0, locals := 95 } : Room) s m args below meth c H locs 0 0 (MQ below (Qi (EM D ca ak av) A (wM ad ca fi0 fl ar0) r0) args s 0 0 A) (F0 m 92 ls []) := by
    intro  n
    induction n with
    | zero =>
      intro v1 v2 fi ar H locs ls w hl hf
      cases hf
    | succ n ih =>
      intro v1 v2 fi ar H locs ls w hl hf
      rw [f_X9_read_92] at hf
      refine lv_iload_n hx hb dX9_read_92 rfl (lv_at hl 2 rfl) ?_
      refine lv_bipush (v := 8) hx hb dX9_read_93 (by decide) ?_
      refine lv_icmp_ge (x := v2) (y := 8) (tgt := 116) hx hb dX9_read_95 (by decide) (fun c_1 => ?_) (fun c_1 => ?_)
      · have hf := if_t hf c_1
        refine lv_iload_n hx hb dX9_read_116 rfl (lv_at hl 1 rfl) ?_
        have hf : some (v1, fi, ar) = some (r0, fi0, ar0) := hf
        obtain ⟨q0, q1, q2⟩ := so3 hf
        subst q0
        subst q1
        subst q2
        exact retI B hr hk w dX9_read_117
      · have hf := if_f hf c_1
        refine lv_aload_n hx hb dX9_read_98 rfl (lv_at hl 0 rfl) ?_
        refine gfM_0_0 B w kt4_25 dX9_read_99 ?_
        refine lv_iload_n hx hb dX9_read_102 rfl (lv_at hl 2 rfl) ?_
        refine lv_aload_n hx hb dX9_read_103 rfl (lv_at hl 0 rfl) ?_
        refine gfM_0_1 B w kt4_26 dX9_read_104 ?_
        refine lv_iload_n hx hb dX9_read_107 rfl (lv_at hl 2 rfl) ?_
        obtain ⟨hi_2, hf⟩ := gd_eq hf
        refine alM_2 B w hi_2 dX9_read_108 ?_
        obtain ⟨hi_3, hf⟩ := gd_eq hf
        refine asM_1 (x := (ar 2 (Int32.toNatClampNeg v2))) B w hi_3 dX9_read_109 (fun H locs ar_4 ear_4 w => ?_)
        have hf := bindv_eq hf ar_4 ear_4
        obtain ⟨x_5, ex_5⟩ : ∃ y : Int32, y = v2 + 1 := ⟨_, rfl⟩
        have hf := bindv_eq hf x_5 ex_5
        refine lv_iinc (v := x_5) (lv' := [(2, .int x_5), (0, .ref (ad 0)), (1, .int v1)]) hx hb dX9_read_110 hl (k := 2) rfl (by rw [ex_5]; rfl) (by decide) rfl (fun ls hl => ?_)
        refine lv_goto (tgt := 92) hx hb dX9_read_113 (by decide) ?_
        exact ih v1 x_5 fi ar_4 H locs ls w (lv_sub hl [1, 2, 0] rfl) hf
  have J70 : ∀ (v1 : Int32) (fi : Nat → Int32) (ar : Nat → Nat → Int32) (H : Heap) (locs : List Loc) (ls : Array Slot), Wd (EM D ca ak av) A s (wM ad ca fi fl ar) H locs → lv_has ls 3 [(0, .ref (ad 0)), (1, .int v1)] → f_X9_read_70  v1 fi ar = some (r0, fi0, ar0) → W p l e ({ frames := 4, cells := 0, slots := 0, locals := 95 } : Room) s m args below meth c H locs 0 0 (MQ below (Qi (EM D ca ak av) A (wM ad ca fi0 fl ar0) r0) args s 0 0 A) (F0 m 70 ls []) := by
    intro  v1 fi ar H locs ls w hl hf
    unfold f_X9_read_70 at hf
    refine lv_aload_n hx hb dX9_read_70 rfl (lv_at hl 0 rfl) ?_
    refine lv_iconst (v := 0) hx hb dX9_read_71 (by decide) ?_
    refine pfM_0_4 (v := 0) B w kt4_29 dX9_read_72 (fun H locs fi_6 efi_6 w => ?_)
    have hf := bindv_eq hf fi_6 efi_6
    refine lv_aload_n hx hb dX9_read_75 rfl (lv_at hl 0 rfl) ?_
    refine gfM_0_8 B w kt4_33 dX9_read_76 ?_
    refine lv_if_le (x := (fi_6 5)) (tgt := 90) hx hb dX9_read_79 (by decide) (fun c_7 => ?_) (fun c_7 => ?_)
    · have hf := if_t hf c_7
      refine lv_iconst (v := 0) hx hb dX9_read_90 (by decide) ?_
      refine lv_istore_n (lv' := [(2, .int 0), (0, .ref (ad 0)), (1, .int v1)]) hx hb dX9_read_91 rfl hl (by decide) rfl (fun ls hl => ?_)
      exact J92  5000 v1 0 fi_6 ar H locs ls w (lv_sub hl [1, 2, 0] rfl) hf
    · have hf := if_f hf c_7
      refine lv_bipush (v := (-10)) hx hb dX9_read_82 (by decide) ?_
      refine lv_aload_n hx hb dX9_read_84 rfl (lv_at hl 0 rfl) ?_
      refine gfM_0_8 B w kt4_33 dX9_read_85 ?_
      refine lv_isub (x := (-10)) (y := (fi_6 5)) hx hb dX9_read_88 ?_
      have hf : some (((-10) - (fi_6 5)), fi_6, ar) = some (r0, fi0, ar0) := hf
      obtain ⟨q0, q1, q2⟩ := so3 hf
      subst q0
      subst q1
      subst q2
      exact retI B hr hk w dX9_read_89
  have J46 : ∀ (n : Nat) (v1 : Int32) (fi : Nat → Int32) (ar : Nat → Nat → Int32) (H : Heap) (locs : List Loc) (ls : Array Slot), Wd (EM D ca ak av) A s (wM ad ca fi fl ar) H locs → lv_has ls 3 [(0, .ref (ad 0)), (1, .int v1)] → f_X9_read_46  n v1 fi ar = some (r0, fi0, ar0) → W p l e ({ frames := 4, cells := 0, slots := 0, locals := 95 } : Room) s m args below meth c H locs 0 0 (MQ below (Qi (EM D ca ak av) A (wM ad ca fi0 fl ar0) r0) args s 0 0 A) (F0 m 46 ls []) := by
    intro  n
    induction n with
    | zero =>
      intro v1 fi ar H locs ls w hl hf
      cases hf
    | succ n ih =>
      intro v1 fi ar H locs ls w hl hf
      rw [f_X9_read_46] at hf
      refine lv_aload_n hx hb dX9_read_46 rfl (lv_at hl 0 rfl) ?_
      refine gfM_0_8 B w kt4_33 dX9_read_47 ?_
      refine lv_if_ne (x := (fi 5)) (tgt := 70) hx hb dX9_read_50 (by decide) (fun c_8 => ?_) (fun c_8 => ?_)
      · have hf := if_f hf c_8
        exact J70  v1 fi ar H locs ls w (lv_sub hl [0, 1] rfl) hf
      · have hf := if_t hf c_8
        refine lv_aload_n hx hb dX9_read_53 rfl (lv_at hl 0 rfl) ?_
        obtain ⟨r_9, fi_10, er_11, hf⟩ := bind2_eq hf
        refine callVI (As := []) (rest := []) B w (c_X9_here l D ca ak av ad fi fl ar  er_11) (gV kt4_103 kt4_105 kp1_10 kt1_11 kt4_106) hdV_X9_here 0 rfl rfl rfl rfl ⟨Nat.le_of_ble_eq_true rfl, Nat.le_of_ble_eq_true rfl⟩ rfl hl.1 rfl (Nat.le_of_ble_eq_true rfl) dX9_read_54 ⟨Nat.le_of_ble_eq_true rfl, Nat.le_of_ble_eq_true rfl⟩ (fun H locs w => ?_)
        refine lv_if_lt (x := r_9) (tgt := 70) hx hb dX9_read_57 (by decide) (fun c_12 => ?_) (fun c_12 => ?_)
        · have hf := if_t hf c_12
          exact J70  v1 fi_10 ar H locs ls w (lv_sub hl [0, 1] rfl) hf
        · have hf := if_f hf c_12
          refine lv_aload_n hx hb dX9_read_60 rfl (lv_at hl 0 rfl) ?_
          obtain ⟨fi_13, ar_14, er_15, hf⟩ := bind2_eq hf
          refine callVV (As := []) (rest := []) B w (c_X9_takeClause l D ca ak av ad fi_10 fl ar  er_15) (gV kt4_107 kt4_109 kp1_11 kt1_11 kt4_110) hdV_X9_takeClause 0 rfl rfl rfl rfl ⟨Nat.le_of_ble_eq_true rfl, Nat.le_of_ble_eq_true rfl⟩ rfl hl.1 rfl (Nat.le_of_ble_eq_true rfl) dX9_read_61 ⟨Nat.le_of_ble_eq_true rfl, Nat.le_of_ble_eq_true rfl⟩ (fun H locs w => ?_)
          obtain ⟨x_16, ex_16⟩ : ∃ y : Int32, y = v1 + 1 := ⟨_, rfl⟩
          have hf := bindv_eq hf x_16 ex_16
          refine lv_iinc (v := x_16) (lv' := [(1, .int x_16), (0, .ref (ad 0))]) hx hb dX9_read_64 hl (k := 1) rfl (by rw [ex_16]; rfl) (by decide) rfl (fun ls hl => ?_)
          refine lv_goto (tgt := 46) hx hb dX9_read_67 (by decide) ?_
          exact ih x_16 fi_13 ar_14 H locs ls w (lv_sub hl [1, 0] rfl) hf
  have J22 : ∀ (n : Nat) (v1 : Int32) (fi : Nat → Int32) (ar : Nat → Nat → Int32) (H : Heap) (locs : List Loc) (ls : Array Slot), Wd (EM D ca ak av) A s (wM ad ca fi fl ar) H locs → lv_has ls 3 [(0, .ref (ad 0)), (1, .int v1)] → f_X9_read_22  n v1 fi ar = some (r0, fi0, ar0) → W p l e ({ frames := 4, cells := 0, slots := 0, locals := 95 } : Room) s m args below meth c H locs 0 0 (MQ below (Qi (EM D ca ak av) A (wM ad ca fi0 fl ar0) r0) args s 0 0 A) (F0 m 22 ls []) := by
    intro  n
    induction n with
    | zero =>
      intro v1 fi ar H locs ls w hl hf
      cases hf
    | succ n ih =>
      intro v1 fi ar H locs ls w hl hf
      rw [f_X9_read_22] at hf
      refine lv_iload_n hx hb dX9_read_22 rfl (lv_at hl 1 rfl) ?_
      refine lv_bipush (v := 8) hx hb dX9_read_23 (by decide) ?_
      refine lv_icmp_ge (x := v1) (y := 8) (tgt := 44) hx hb dX9_read_25 (by decide) (fun c_17 => ?_) (fun c_17 => ?_)
      · have hf := if_t hf c_17
        refine lv_iconst (v := 0) hx hb dX9_read_44 (by decide) ?_
        refine lv_istore_n (lv' := [(1, .int 0), (0, .ref (ad 0))]) hx hb dX9_read_45 rfl hl (by decide) rfl (fun ls hl => ?_)
        exact J46  5000 0 fi ar H locs ls w (lv_sub hl [1, 0] rfl) hf
      · have hf := if_f hf c_17
        refine lv_aload_n hx hb dX9_read_28 rfl (lv_at hl 0 rfl) ?_
        refine gfM_0_1 B w kt4_26 dX9_read_29 ?_
        refine lv_iload_n hx hb dX9_read_32 rfl (lv_at hl 1 rfl) ?_
        refine lv_iload_n hx hb dX9_read_33 rfl (lv_at hl 1 rfl) ?_
        obtain ⟨r_18, er_19⟩ : ∃ y, f_X9_atFirst v1 = y := ⟨_, rfl⟩
        have hf := bindv_eq hf r_18 er_19.symm
        refine callSI (As := [.int v1]) (rest := [.int v1, .ref (ad 2)]) B w (c_X9_atFirst l _ v1 er_19) (gS kt4_22 kt4_23 kt1_11 kt4_24) hdS_X9_atFirst rfl rfl ⟨Nat.le_of_ble_eq_true rfl, Nat.le_of_ble_eq_true rfl⟩ rfl hl.1 rfl (Nat.le_of_ble_eq_true rfl) dX9_read_34 ⟨Nat.le_of_ble_eq_true rfl, Nat.le_of_ble_eq_true rfl⟩ (fun H locs w => ?_)
        obtain ⟨hi_20, hf⟩ := gd_eq hf
        refine asM_2 (x := r_18) B w hi_20 dX9_read_37 (fun H locs ar_21 ear_21 w => ?_)
        have hf := bindv_eq hf ar_21 ear_21
        obtain ⟨x_22, ex_22⟩ : ∃ y : Int32, y = v1 + 1 := ⟨_, rfl⟩
        have hf := bindv_eq hf x_22 ex_22
        refine lv_iinc (v := x_22) (lv' := [(1, .int x_22), (0, .ref (ad 0))]) hx hb dX9_read_38 hl (k := 1) rfl (by rw [ex_22]; rfl) (by decide) rfl (fun ls hl => ?_)
        refine lv_goto (tgt := 22) hx hb dX9_read_41 (by decide) ?_
        exact ih x_22 fi ar_21 H locs ls w (lv_sub hl [1, 0] rfl) hf
  unfold f_X9_read at hf
  refine (show ∀ (H : Heap) (locs : List Loc), Wd (EM D ca ak av) A s (wM ad ca fi fl ar) H locs → W p l e ({ frames := 4, cells := 0, slots := 0, locals := 95 } : Room) s m args below meth c H locs 0 0 (MQ below (Qi (EM D ca ak av) A (wM ad ca fi0 fl ar0) r0) args s 0 0 A) (F0 m 0 ls []) from ?_) s.heap [] w
  intro H locs w
  refine lv_aload_n hx hb dX9_read_0 rfl (lv_at hl 0 rfl) ?_
  refine lv_iconst (v := 0) hx hb dX9_read_1 (by decide) ?_
  refine pfM_0_5 (v := 0) B w kt4_30 dX9_read_2 (fun H locs fi_23 efi_23 w => ?_)
  have hf := bindv_eq hf fi_23 efi_23
  refine lv_aload_n hx hb dX9_read_5 rfl (lv_at hl 0 rfl) ?_
  refine lv_iconst (v := 0) hx hb dX9_read_6 (by decide) ?_
  refine pfM_0_8 (v := 0) B w kt4_33 dX9_read_7 (fun H locs fi_24 efi_24 w => ?_)
  have hf := bindv_eq hf fi_24 efi_24
  refine lv_aload_n hx hb dX9_read_10 rfl (lv_at hl 0 rfl) ?_
  refine lv_iconst (v := (-1)) hx hb dX9_read_11 (by decide) ?_
  refine pfM_0_9 (v := (-1)) B w kt4_34 dX9_read_12 (fun H locs fi_25 efi_25 w => ?_)
  have hf := bindv_eq hf fi_25 efi_25
  refine lv_aload_n hx hb dX9_read_15 rfl (lv_at hl 0 rfl) ?_
  refine lv_iconst (v := 0) hx hb dX9_read_16 (by decide) ?_
  refine pfM_0_10 (v := 0) B w kt4_35 dX9_read_17 (fun H locs fi_26 efi_26 w => ?_)
  have hf := bindv_eq hf fi_26 efi_26
  refine lv_iconst (v := 0) hx hb dX9_read_20 (by decide) ?_
  refine lv_istore_n (lv' := [(1, .int 0), (0, .ref (ad 0))]) hx hb dX9_read_21 rfl hl (by decide) rfl (fun ls hl => ?_)
  exact J22  5000 0 fi_26 ar H locs ls w (lv_sub hl [1, 0] rfl) hf
def f_X9_fault (fi : Nat → Int32) : Int32 := (fi 6)
set_option maxHeartbeats 4000000 in
set_option maxRecDepth 100000 in
theorem c_X9_fault (l : Launch) (D : va_G) (ca : Nat → ClassId) (ak av ad : Nat → Nat) (fi : Nat → Int32) (fl : Nat → Int64) (ar : Nat → Nat → Int32) {r0 : Int32} (hf : f_X9_fault fi = r0) : MtI l yX9_fault cX9_fault 1 { frames := 0, cells := 0, slots := 0, locals := 0 } (EM D ca ak av) [.ref (ad 0)] (wM ad ca fi fl ar) (wM ad ca fi fl ar) r0 := by
  refine MtI.of (own := RX9) (by decide +kernel) rfl (Nat.le_of_ble_eq_true rfl) ?_
  intro p e s m args below meth c A B hr hk w ls hl
  have hx := B.1.1
  have hb := B.1.2.1
  have hown := B.1.2.2.2.1
  have hts := B.1.2.2.2.2
  have hl : lv_has ls 1 [(0, .ref (ad 0))] := hl
  unfold f_X9_fault at hf
  refine (show ∀ (H : Heap) (locs : List Loc), Wd (EM D ca ak av) A s (wM ad ca fi fl ar) H locs → W p l e ({ frames := 0, cells := 0, slots := 0, locals := 0 } : Room) s m args below meth c H locs 0 0 (MQ below (Qi (EM D ca ak av) A (wM ad ca fi fl ar) r0) args s 0 0 A) (F0 m 0 ls []) from ?_) s.heap [] w
  intro H locs w
  refine lv_aload_n hx hb dX9_fault_0 rfl (lv_at hl 0 rfl) ?_
  refine gfM_0_9 B w kt4_34 dX9_fault_1 ?_
  have hf : (fi 6) = r0 := hf
  subst hf
  exact retI B hr hk w dX9_fault_4
def f_X9_village (fi : Nat → Int32) (ar : Nat → Nat → Int32) (v1 : Int32) : Option (Int32) := bindv (f_X9_in (Int32.toInt64 v1) 0 9) (fun r_1 => if (r_1 = 0 : Prop) then (some (-1002)) else (if (v1 = 8 : Prop) then (some (fi 0)) else (if (v1 = 9 : Prop) then (some (fi 1)) else (gd v1 8 (some (ar 1 (Int32.toNatClampNeg v1)))))))
set_option maxHeartbeats 4000000 in
set_option maxRecDepth 100000 in
theorem c_X9_village (l : Launch) (D : va_G) (ca : Nat → ClassId) (ak av ad : Nat → Nat) (fi : Nat → Int32) (fl : Nat → Int64) (ar : Nat → Nat → Int32) (v1 : Int32) {r0 : Int32} (hf : f_X9_village fi ar v1 = some r0) : MtI l yX9_village cX9_village 2 { frames := 1, cells := 0, slots := 0, locals := 25 } (EM D ca ak av) [.ref (ad 0), .int v1] (wM ad ca fi fl ar) (wM ad ca fi fl ar) r0 := by
  refine MtI.of (own := RX9) (by decide +kernel) rfl (Nat.le_of_ble_eq_true rfl) ?_
  intro p e s m args below meth c A B hr hk w ls hl
  have hx := B.1.1
  have hb := B.1.2.1
  have hown := B.1.2.2.2.1
  have hts := B.1.2.2.2.2
  have hl : lv_has ls 2 [(0, .ref (ad 0)), (1, .int v1)] := hl
  unfold f_X9_village at hf
  refine (show ∀ (H : Heap) (locs : List Loc), Wd (EM D ca ak av) A s (wM ad ca fi fl ar) H locs → W p l e ({ frames := 1, cells := 0, slots := 0, locals := 25 } : Room) s m args below meth c H locs 0 0 (MQ below (Qi (EM D ca ak av) A (wM ad ca fi fl ar) r0) args s 0 0 A) (F0 m 0 ls []) from ?_) s.heap [] w
  intro H locs w
  refine lv_iload_n hx hb dX9_village_0 rfl (lv_at hl 1 rfl) ?_
  refine lv_i2l hx hb dX9_village_1 rfl ?_
  refine lv_lconst (v := 0) hx hb dX9_village_2 (by decide) ?_
  refine lv_ldc2 (own := RX9) (v := 9) hx hb hown (hts _ kt4_154) dX9_village_3 ?_
  obtain ⟨r_1, er_2⟩ : ∃ y, f_X9_in (Int32.toInt64 v1) 0 9 = y := ⟨_, rfl⟩
  have hf := bindv_eq hf r_1 er_2.symm
  refine callSZ (As := [.long (Int32.toInt64 v1), .long 0, .long 9]) (rest := []) B w (c_X9_in l _ (Int32.toInt64 v1) 0 9 er_2) (gS kt4_95 kt4_96 kt1_11 kt4_97) hdS_X9_in rfl rfl ⟨Nat.le_of_ble_eq_true rfl, Nat.le_of_ble_eq_true rfl⟩ rfl hl.1 rfl (Nat.le_of_ble_eq_true rfl) dX9_village_6 ⟨Nat.le_of_ble_eq_true rfl, Nat.le_of_ble_eq_true rfl⟩ (fun H locs w hzr_1 => ?_)
  refine lv_if_ne (x := r_1) (tgt := 18) hx hb dX9_village_9 (by decide) (fun c_3 => ?_) (fun c_3 => ?_)
  · have hf := if_f hf c_3
    refine lv_iload_n hx hb dX9_village_18 rfl (lv_at hl 1 rfl) ?_
    refine lv_bipush (v := 8) hx hb dX9_village_19 (by decide) ?_
    refine lv_icmp_ne (x := v1) (y := 8) (tgt := 31) hx hb dX9_village_21 (by decide) (fun c_4 => ?_) (fun c_4 => ?_)
    · have hf := if_f hf c_4
      refine lv_iload_n hx hb dX9_village_31 rfl (lv_at hl 1 rfl) ?_
      refine lv_bipush (v := 9) hx hb dX9_village_32 (by decide) ?_
      refine lv_icmp_ne (x := v1) (y := 9) (tgt := 44) hx hb dX9_village_34 (by decide) (fun c_5 => ?_) (fun c_5 => ?_)
      · have hf := if_f hf c_5
        refine lv_aload_n hx hb dX9_village_44 rfl (lv_at hl 0 rfl) ?_
        refine gfM_0_0 B w kt4_25 dX9_village_45 ?_
        refine lv_iload_n hx hb dX9_village_48 rfl (lv_at hl 1 rfl) ?_
        obtain ⟨hi_6, hf⟩ := gd_eq hf
        refine alM_1 B w hi_6 dX9_village_49 ?_
        have hf : some (ar 1 (Int32.toNatClampNeg v1)) = some r0 := hf
        have q0 := so1 hf
        subst q0
        exact retI B hr hk w dX9_village_50
      · have hf := if_t hf c_5
        refine lv_aload_n hx hb dX9_village_37 rfl (lv_at hl 0 rfl) ?_
        refine gfM_0_4 B w kt4_29 dX9_village_38 ?_
        refine lv_goto (tgt := 50) hx hb dX9_village_41 (by decide) ?_
        have hf : some (fi 1) = some r0 := hf
        have q0 := so1 hf
        subst q0
        exact retI B hr hk w dX9_village_50
    · have hf := if_t hf c_4
      refine lv_aload_n hx hb dX9_village_24 rfl (lv_at hl 0 rfl) ?_
      refine gfM_0_2 B w kt4_27 dX9_village_25 ?_
      refine lv_goto (tgt := 50) hx hb dX9_village_28 (by decide) ?_
      have hf : some (fi 0) = some r0 := hf
      have q0 := so1 hf
      subst q0
      exact retI B hr hk w dX9_village_50
  · have hf := if_t hf c_3
    refine lv_sipush (v := (-1002)) hx hb dX9_village_12 (by decide) ?_
    refine lv_goto (tgt := 50) hx hb dX9_village_15 (by decide) ?_
    have hf : some (-1002) = some r0 := hf
    have q0 := so1 hf
    subst q0
    exact retI B hr hk w dX9_village_50
def f_X9_least (fi : Nat → Int32) (v1 : Int32) : Option (Int32 × (Nat → Int32)) := bindv (f_X9_in (Int32.toInt64 v1) 0 999999) (fun r_1 => if (r_1 = 0 : Prop) then (some ((-1002), fi)) else (bindv ((fi 0) : Int32) (fun x_4 => bindv (upd fi 0 v1) (fun fi_5 => some (x_4, fi_5)))))
set_option maxHeartbeats 4000000 in
set_option maxRecDepth 100000 in
theorem c_X9_least (l : Launch) (D : va_G) (ca : Nat → ClassId) (ak av ad : Nat → Nat) (fi : Nat → Int32) (fl : Nat → Int64) (ar : Nat → Nat → Int32) (v1 : Int32) {r0 : Int32} {fi0 : Nat → Int32} (hf : f_X9_least fi v1 = some (r0, fi0)) : MtI l yX9_least cX9_least 3 { frames := 1, cells := 0, slots := 0, locals := 25 } (EM D ca ak av) [.ref (ad 0), .int v1] (wM ad ca fi fl ar) (wM ad ca fi0 fl ar) r0 := by
  refine MtI.of (own := RX9) (by decide +kernel) rfl (Nat.le_of_ble_eq_true rfl) ?_
  intro p e s m args below meth c A B hr hk w ls hl
  have hx := B.1.1
  have hb := B.1.2.1
  have hown := B.1.2.2.2.1
  have hts := B.1.2.2.2.2
  have hl : lv_has ls 3 [(0, .ref (ad 0)), (1, .int v1)] := hl
  unfold f_X9_least at hf
  refine (show ∀ (H : Heap) (locs : List Loc), Wd (EM D ca ak av) A s (wM ad ca fi fl ar) H locs → W p l e ({ frames := 1, cells := 0, slots := 0, locals := 25 } : Room) s m args below meth c H locs 0 0 (MQ below (Qi (EM D ca ak av) A (wM ad ca fi0 fl ar) r0) args s 0 0 A) (F0 m 0 ls []) from ?_) s.heap [] w
  intro H locs w
  refine lv_iload_n hx hb dX9_least_0 rfl (lv_at hl 1 rfl) ?_
  refine lv_i2l hx hb dX9_least_1 rfl ?_
  refine lv_lconst (v := 0) hx hb dX9_least_2 (by decide) ?_
  refine lv_ldc2 (own := RX9) (v := 999999) hx hb hown (hts _ kt4_159) dX9_least_3 ?_
  obtain ⟨r_1, er_2⟩ : ∃ y, f_X9_in (Int32.toInt64 v1) 0 999999 = y := ⟨_, rfl⟩
  have hf := bindv_eq hf r_1 er_2.symm
  refine callSZ (As := [.long (Int32.toInt64 v1), .long 0, .long 999999]) (rest := []) B w (c_X9_in l _ (Int32.toInt64 v1) 0 999999 er_2) (gS kt4_95 kt4_96 kt1_11 kt4_97) hdS_X9_in rfl rfl ⟨Nat.le_of_ble_eq_true rfl, Nat.le_of_ble_eq_true rfl⟩ rfl hl.1 rfl (Nat.le_of_ble_eq_true rfl) dX9_least_6 ⟨Nat.le_of_ble_eq_true rfl, Nat.le_of_ble_eq_true rfl⟩ (fun H locs w hzr_1 => ?_)
  refine lv_if_ne (x := r_1) (tgt := 16) hx hb dX9_least_9 (by decide) (fun c_3 => ?_) (fun c_3 => ?_)
  · have hf := if_f hf c_3
    refine lv_aload_n hx hb dX9_least_16 rfl (lv_at hl 0 rfl) ?_
    refine gfM_0_2 B w kt4_27 dX9_least_17 ?_
    refine lv_topi (fun x_4 ex_4 => ?_)
    have hf := bindv_eq hf x_4 ex_4
    refine lv_istore_n (lv' := [(2, .int x_4), (0, .ref (ad 0)), (1, .int v1)]) hx hb dX9_least_20 rfl hl (by decide) rfl (fun ls hl => ?_)
    refine lv_aload_n hx hb dX9_least_21 rfl (lv_at hl 1 rfl) ?_
    refine lv_iload_n hx hb dX9_least_22 rfl (lv_at hl 2 rfl) ?_
    refine pfM_0_2 (v := v1) B w kt4_27 dX9_least_23 (fun H locs fi_5 efi_5 w => ?_)
    have hf := bindv_eq hf fi_5 efi_5
    refine lv_iload_n hx hb dX9_least_26 rfl (lv_at hl 0 rfl) ?_
    have hf : some (x_4, fi_5) = some (r0, fi0) := hf
    obtain ⟨q0, q1⟩ := so2 hf
    subst q0
    subst q1
    exact retI B hr hk w dX9_least_27
  · have hf := if_t hf c_3
    refine lv_sipush (v := (-1002)) hx hb dX9_least_12 (by decide) ?_
    have hf : some ((-1002), fi) = some (r0, fi0) := hf
    obtain ⟨q0, q1⟩ := so2 hf
    subst q0
    subst q1
    exact retI B hr hk w dX9_least_15
def f_X9_means (v0 : Int32) (v1 : Int32) (v2 : Int32) : Int32 := ((v0 >>> (((2 * v1) + v2) &&& 31)) &&& 1)
set_option maxHeartbeats 4000000 in
set_option maxRecDepth 100000 in
theorem c_X9_means (l : Launch) (E : VE) (v0 : Int32) (v1 : Int32) (v2 : Int32) {r0 : Int32} (hf : f_X9_means v0 v1 v2 = r0) : MtI l yX9_means cX9_means 3 { frames := 0, cells := 0, slots := 0, locals := 0 } E [.int v0, .int v1, .int v2] [] [] r0 := by
  refine MtI.of (own := RX9) (by decide +kernel) rfl (Nat.le_of_ble_eq_true rfl) ?_
  intro p e s m args below meth c A B hr hk w ls hl
  have hx := B.1.1
  have hb := B.1.2.1
  have hown := B.1.2.2.2.1
  have hts := B.1.2.2.2.2
  have hl : lv_has ls 3 [(0, .int v0), (1, .int v1), (2, .int v2)] := hl
  unfold f_X9_means at hf
  refine (show ∀ (H : Heap) (locs : List Loc), Wd E A s [] H locs → W p l e ({ frames := 0, cells := 0, slots := 0, locals := 0 } : Room) s m args below meth c H locs 0 0 (MQ below (Qi E A [] r0) args s 0 0 A) (F0 m 0 ls []) from ?_) s.heap [] w
  intro H locs w
  refine lv_iload_n hx hb dX9_means_0 rfl (lv_at hl 0 rfl) ?_
  refine lv_iconst (v := 2) hx hb dX9_means_1 (by decide) ?_
  refine lv_iload_n hx hb dX9_means_2 rfl (lv_at hl 1 rfl) ?_
  refine lv_imul (x := 2) (y := v1) hx hb dX9_means_3 ?_
  refine lv_iload_n hx hb dX9_means_4 rfl (lv_at hl 2 rfl) ?_
  refine lv_iadd (x := (2 * v1)) (y := v2) hx hb dX9_means_5 ?_
  refine lv_ishr (x := v0) (y := ((2 * v1) + v2)) hx hb dX9_means_6 ?_
  refine lv_iconst (v := 1) hx hb dX9_means_7 (by decide) ?_
  refine lv_iand (x := (v0 >>> (((2 * v1) + v2) &&& 31))) (y := 1) hx hb dX9_means_8 ?_
  have hf : ((v0 >>> (((2 * v1) + v2) &&& 31)) &&& 1) = r0 := hf
  subst hf
  exact retI B hr hk w dX9_means_9
def f_X9_calls (v0 : Int32) (v1 : Int32) (v2 : Int32) (v3 : Int32) : Int32 := ((v0 >>> ((((4 * v1) + (2 * v2)) + v3) &&& 31)) &&& 1)
set_option maxHeartbeats 4000000 in
set_option maxRecDepth 100000 in
theorem c_X9_calls (l : Launch) (E : VE) (v0 : Int32) (v1 : Int32) (v2 : Int32) (v3 : Int32) {r0 : Int32} (hf : f_X9_calls v0 v1 v2 v3 = r0) : MtI l yX9_calls cX9_calls 4 { frames := 0, cells := 0, slots := 0, locals := 0 } E [.int v0, .int v1, .int v2, .int v3] [] [] r0 := by
  refine MtI.of (own := RX9) (by decide +kernel) rfl (Nat.le_of_ble_eq_true rfl) ?_
  intro p e s m args below meth c A B hr hk w ls hl
  have hx := B.1.1
  have hb := B.1.2.1
  have hown := B.1.2.2.2.1
  have hts := B.1.2.2.2.2
  have hl : lv_has ls 4 [(0, .int v0), (1, .int v1), (2, .int v2), (3, .int v3)] := hl
  unfold f_X9_calls at hf
  refine (show ∀ (H : Heap) (locs : List Loc), Wd E A s [] H locs → W p l e ({ frames := 0, cells := 0, slots := 0, locals := 0 } : Room) s m args below meth c H locs 0 0 (MQ below (Qi E A [] r0) args s 0 0 A) (F0 m 0 ls []) from ?_) s.heap [] w
  intro H locs w
  refine lv_iload_n hx hb dX9_calls_0 rfl (lv_at hl 0 rfl) ?_
  refine lv_iconst (v := 4) hx hb dX9_calls_1 (by decide) ?_
  refine lv_iload_n hx hb dX9_calls_2 rfl (lv_at hl 1 rfl) ?_
  refine lv_imul (x := 4) (y := v1) hx hb dX9_calls_3 ?_
  refine lv_iconst (v := 2) hx hb dX9_calls_4 (by decide) ?_
  refine lv_iload_n hx hb dX9_calls_5 rfl (lv_at hl 2 rfl) ?_
  refine lv_imul (x := 2) (y := v2) hx hb dX9_calls_6 ?_
  refine lv_iadd (x := (4 * v1)) (y := (2 * v2)) hx hb dX9_calls_7 ?_
  refine lv_iload_n hx hb dX9_calls_8 rfl (lv_at hl 3 rfl) ?_
  refine lv_iadd (x := ((4 * v1) + (2 * v2))) (y := v3) hx hb dX9_calls_9 ?_
  refine lv_ishr (x := v0) (y := (((4 * v1) + (2 * v2)) + v3)) hx hb dX9_calls_10 ?_
  refine lv_iconst (v := 1) hx hb dX9_calls_11 (by decide) ?_
  refine lv_iand (x := (v0 >>> ((((4 * v1) + (2 * v2)) + v3) &&& 31))) (y := 1) hx hb dX9_calls_12 ?_
  have hf : ((v0 >>> ((((4 * v1) + (2 * v2)) + v3) &&& 31)) &&& 1) = r0 := hf
  subst hf
  exact retI B hr hk w dX9_calls_13
def f_X9_isName (v0 : Int32) : Int32 := bindv (f_X9_in (Int32.toInt64 v0) 0 1) (fun r_1 => r_1)
set_option maxHeartbeats 4000000 in
set_option maxRecDepth 100000 in
theorem c_X9_isName (l : Launch) (E : VE) (v0 : Int32) {r0 : Int32} (hf : f_X9_isName v0 = r0) : MtZ l yX9_isName cX9_isName 1 { frames := 1, cells := 0, slots := 0, locals := 25 } E [.int v0] [] [] r0 := by
  refine MtZ.of (own := RX9) (by decide +kernel) rfl (Nat.le_of_ble_eq_true rfl) ?_
  intro p e s m args below meth c A B hr hk w ls hl
  have hx := B.1.1
  have hb := B.1.2.1
  have hown := B.1.2.2.2.1
  have hts := B.1.2.2.2.2
  have hl : lv_has ls 1 [(0, .int v0)] := hl
  unfold f_X9_isName at hf
  refine (show ∀ (H : Heap) (locs : List Loc), Wd E A s [] H locs → W p l e ({ frames := 1, cells := 0, slots := 0, locals := 25 } : Room) s m args below meth c H locs 0 0 (MQ below (Qz E A [] r0) args s 0 0 A) (F0 m 0 ls []) from ?_) s.heap [] w
  intro H locs w
  refine lv_iload_n hx hb dX9_isName_0 rfl (lv_at hl 0 rfl) ?_
  refine lv_i2l hx hb dX9_isName_1 rfl ?_
  refine lv_lconst (v := 0) hx hb dX9_isName_2 (by decide) ?_
  refine lv_lconst (v := 1) hx hb dX9_isName_3 (by decide) ?_
  obtain ⟨r_1, er_2⟩ : ∃ y, f_X9_in (Int32.toInt64 v0) 0 1 = y := ⟨_, rfl⟩
  have hf := bindv_eq hf r_1 er_2.symm
  refine callSZ (As := [.long (Int32.toInt64 v0), .long 0, .long 1]) (rest := []) B w (c_X9_in l _ (Int32.toInt64 v0) 0 1 er_2) (gS kt4_95 kt4_96 kt1_11 kt4_97) hdS_X9_in rfl rfl ⟨Nat.le_of_ble_eq_true rfl, Nat.le_of_ble_eq_true rfl⟩ rfl hl.1 rfl (Nat.le_of_ble_eq_true rfl) dX9_isName_4 ⟨Nat.le_of_ble_eq_true rfl, Nat.le_of_ble_eq_true rfl⟩ (fun H locs w hzr_1 => ?_)
  have hf : r_1 = r0 := hf
  subst hf
  exact retZ B hr hk w hzr_1 dX9_isName_7
def f_X9_shareOf (v0 : Int32) (v1 : Int32) : Int32 := if (v0 = 1 : Prop) then (v1) else ((1000 - v1))
set_option maxHeartbeats 4000000 in
set_option maxRecDepth 100000 in
theorem c_X9_shareOf (l : Launch) (E : VE) (v0 : Int32) (v1 : Int32) {r0 : Int32} (hf : f_X9_shareOf v0 v1 = r0) : MtI l yX9_shareOf cX9_shareOf 2 { frames := 0, cells := 0, slots := 0, locals := 0 } E [.int v0, .int v1] [] [] r0 := by
  refine MtI.of (own := RX9) (by decide +kernel) rfl (Nat.le_of_ble_eq_true rfl) ?_
  intro p e s m args below meth c A B hr hk w ls hl
  have hx := B.1.1
  have hb := B.1.2.1
  have hown := B.1.2.2.2.1
  have hts := B.1.2.2.2.2
  have hl : lv_has ls 2 [(0, .int v0), (1, .int v1)] := hl
  unfold f_X9_shareOf at hf
  refine (show ∀ (H : Heap) (locs : List Loc), Wd E A s [] H locs → W p l e ({ frames := 0, cells := 0, slots := 0, locals := 0 } : Room) s m args below meth c H locs 0 0 (MQ below (Qi E A [] r0) args s 0 0 A) (F0 m 0 ls []) from ?_) s.heap [] w
  intro H locs w
  refine lv_iload_n hx hb dX9_shareOf_0 rfl (lv_at hl 0 rfl) ?_
  refine lv_iconst (v := 1) hx hb dX9_shareOf_1 (by decide) ?_
  refine lv_icmp_ne (x := v0) (y := 1) (tgt := 9) hx hb dX9_shareOf_2 (by decide) (fun c_1 => ?_) (fun c_1 => ?_)
  · have hf := if_f hf c_1
    refine lv_sipush (v := 1000) hx hb dX9_shareOf_9 (by decide) ?_
    refine lv_iload_n hx hb dX9_shareOf_12 rfl (lv_at hl 1 rfl) ?_
    refine lv_isub (x := 1000) (y := v1) hx hb dX9_shareOf_13 ?_
    have hf : (1000 - v1) = r0 := hf
    subst hf
    exact retI B hr hk w dX9_shareOf_14
  · have hf := if_t hf c_1
    refine lv_iload_n hx hb dX9_shareOf_5 rfl (lv_at hl 1 rfl) ?_
    refine lv_goto (tgt := 14) hx hb dX9_shareOf_6 (by decide) ?_
    have hf : v1 = r0 := hf
    subst hf
    exact retI B hr hk w dX9_shareOf_14
