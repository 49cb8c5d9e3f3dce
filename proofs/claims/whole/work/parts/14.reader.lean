def f_X3_append_20   : Nat → (Int64) → (Int32) → (Nat → Int32) → (Nat → Nat → Int32) → Option (Int32 × (Nat → Int32) × (Nat → Nat → Int32))
  | 0, _, _, _, _ => none
  | n + 1, v2, v4, fi, ar => if (v4 < 0 : Prop) then (some ((fi 9), fi, ar)) else (gd (fi 9) 120 (bindv (updA ar 3 (upd (ar 3) (Int32.toNatClampNeg (fi 9)) ((Int64.toInt32 (v2 >>> (Int32.toInt64 (8 * v4) &&& 63))) &&& 255))) (fun ar_3 => bindv (upd fi 9 ((fi 9) + 1)) (fun fi_4 => bindv (v4 + (-1) : Int32) (fun x_5 => (f_X3_append_20 n) v2 x_5 fi_4 ar_3)))))
def f_X3_append (fi : Nat → Int32) (ar : Nat → Nat → Int32) (v1 : Int32) (v2 : Int64) : Option (Int32 × (Nat → Int32) × (Nat → Nat → Int32)) := if (v1 ≤ (120 - (fi 9)) : Prop) then (bindv ((v1 - 1) : Int32) (fun x_7 => f_X3_append_20  5000 v2 x_7 fi ar)) else (some ((-1004), fi, ar))
set_option maxHeartbeats 4000000 in
set_option maxRecDepth 100000 in
theorem c_X3_append (l : Launch) (D : va_G) (ca : Nat → ClassId) (ak av ad : Nat → Nat) (fi : Nat → Int32) (fl : Nat → Int64) (ar : Nat → Nat → Int32) (v1 : Int32) (v2 : Int64) {r0 : Int32} {fi0 : Nat → Int32} {ar0 : Nat → Nat → Int32} (hf : f_X3_append fi ar v1 v2 = some (r0, fi0, ar0)) : MtI l yX3_append cX3_append 5 { frames := 0, cells := 0, slots := 0, locals := 0 } (EC D ca ak av) [.ref (ad 2), .int v1, .long v2] (wC ad ca fi fl ar) (wC ad ca fi0 fl ar0) r0 := by
  refine MtI.of (own := RX3) (by decide +kernel) rfl (Nat.le_of_ble_eq_true rfl) ?_
  intro p e s m args below meth c A B hr hk w ls hl
  have hx := B.1.1
  have hb := B.1.2.1
  have hown := B.1.2.2.2.1
  have hts := B.1.2.2.2.2
  have hl : lv_has ls 5 [(0, .ref (ad 2)), (1, .int v1), (2, .long v2)] := hl
  have J20 : ∀ (n : Nat) (v2 : Int64) (v4 : Int32) (fi : Nat → Int32) (ar : Nat → Nat → Int32) (H : Heap) (locs : List Loc) (ls : Array Slot), Wd (EC D ca ak av) A s (wC ad ca fi fl ar) H locs → lv_has ls 5 [(0, .ref (ad 2)), (2, .long v2), (4, .int v4)] → f_X3_append_20  n v2 v4 fi ar = some (r0, fi0, ar0) → W p l e ({ frames := 0, cells := 0, slots := 0, locals := 0 } : Room) s m args below meth c H locs 0 0 (MQ below (Qi (EC D ca ak av) A (wC ad ca fi0 fl ar0) r0) args s 0 0 A) (F0 m 20 ls []) := by
    intro  n
    induction n with
    | zero =>
      intro v2 v4 fi ar H locs ls w hl hf
      cases hf
    | succ n ih =>
      intro v2 v4 fi ar H locs ls w hl hf
      rw [f_X3_append_20] at hf
      refine lv_iload hx hb dX3_append_20 (lv_at hl 2 rfl) ?_
      refine lv_if_lt (x := v4) (tgt := 62) hx hb dX3_append_22 (by decide) (fun c_1 => ?_) (fun c_1 => ?_)
      · have hf := if_t hf c_1
        refine lv_aload_n hx hb dX3_append_62 rfl (lv_at hl 0 rfl) ?_
        refine gfC_2_2 B w kt1_96 dX3_append_63 ?_
        have hf : some ((fi 9), fi, ar) = some (r0, fi0, ar0) := hf
        obtain ⟨q0, q1, q2⟩ := so3 hf
        subst q0
        subst q1
        subst q2
        exact retI B hr hk w dX3_append_66
      · have hf := if_f hf c_1
        refine lv_aload_n hx hb dX3_append_25 rfl (lv_at hl 0 rfl) ?_
        refine gfC_2_0 B w kt1_93 dX3_append_26 ?_
        refine lv_aload_n hx hb dX3_append_29 rfl (lv_at hl 0 rfl) ?_
        refine gfC_2_2 B w kt1_96 dX3_append_30 ?_
        refine lv_lload_n hx hb dX3_append_33 rfl (lv_at hl 1 rfl) ?_
        refine lv_bipush (v := 8) hx hb dX3_append_34 (by decide) ?_
        refine lv_iload hx hb dX3_append_36 (lv_at hl 2 rfl) ?_
        refine lv_imul (x := 8) (y := v4) hx hb dX3_append_38 ?_
        refine lv_lshr hx hb dX3_append_39 rfl ?_
        refine lv_l2i hx hb dX3_append_40 rfl ?_
        refine lv_sipush (v := 255) hx hb dX3_append_41 (by decide) ?_
        refine lv_iand (x := (Int64.toInt32 (v2 >>> (Int32.toInt64 (8 * v4) &&& 63)))) (y := 255) hx hb dX3_append_44 ?_
        obtain ⟨hi_2, hf⟩ := gd_eq hf
        refine asC_3 (x := ((Int64.toInt32 (v2 >>> (Int32.toInt64 (8 * v4) &&& 63))) &&& 255)) B w hi_2 dX3_append_45 (fun H locs ar_3 ear_3 w => ?_)
        have hf := bindv_eq hf ar_3 ear_3
        refine lv_aload_n hx hb dX3_append_46 rfl (lv_at hl 0 rfl) ?_
        refine lv_dup hx hb dX3_append_47 rfl ?_
        refine gfC_2_2 B w kt1_96 dX3_append_48 ?_
        refine lv_iconst (v := 1) hx hb dX3_append_51 (by decide) ?_
        refine lv_iadd (x := (fi 9)) (y := 1) hx hb dX3_append_52 ?_
        refine pfC_2_2 (v := ((fi 9) + 1)) B w kt1_96 dX3_append_53 (fun H locs fi_4 efi_4 w => ?_)
        have hf := bindv_eq hf fi_4 efi_4
        obtain ⟨x_5, ex_5⟩ : ∃ y : Int32, y = v4 + (-1) := ⟨_, rfl⟩
        have hf := bindv_eq hf x_5 ex_5
        refine lv_iinc (v := x_5) (lv' := [(4, .int x_5), (0, .ref (ad 2)), (2, .long v2)]) hx hb dX3_append_56 hl (k := 2) rfl (by rw [ex_5]; rfl) (by decide) rfl (fun ls hl => ?_)
        refine lv_goto (tgt := 20) hx hb dX3_append_59 (by decide) ?_
        exact ih v2 x_5 fi_4 ar_3 H locs ls w (lv_sub hl [1, 2, 0] rfl) hf
  unfold f_X3_append at hf
  refine (show ∀ (H : Heap) (locs : List Loc), Wd (EC D ca ak av) A s (wC ad ca fi fl ar) H locs → W p l e ({ frames := 0, cells := 0, slots := 0, locals := 0 } : Room) s m args below meth c H locs 0 0 (MQ below (Qi (EC D ca ak av) A (wC ad ca fi0 fl ar0) r0) args s 0 0 A) (F0 m 0 ls []) from ?_) s.heap [] w
  intro H locs w
  refine lv_iload_n hx hb dX3_append_0 rfl (lv_at hl 1 rfl) ?_
  refine lv_bipush (v := 120) hx hb dX3_append_1 (by decide) ?_
  refine lv_aload_n hx hb dX3_append_3 rfl (lv_at hl 0 rfl) ?_
  refine gfC_2_2 B w kt1_96 dX3_append_4 ?_
  refine lv_isub (x := 120) (y := (fi 9)) hx hb dX3_append_7 ?_
  refine lv_icmp_le (x := v1) (y := (120 - (fi 9))) (tgt := 15) hx hb dX3_append_8 (by decide) (fun c_6 => ?_) (fun c_6 => ?_)
  · have hf := if_t hf c_6
    refine lv_iload_n hx hb dX3_append_15 rfl (lv_at hl 1 rfl) ?_
    refine lv_iconst (v := 1) hx hb dX3_append_16 (by decide) ?_
    refine lv_isub (x := v1) (y := 1) hx hb dX3_append_17 ?_
    refine lv_topi (fun x_7 ex_7 => ?_)
    have hf := bindv_eq hf x_7 ex_7
    refine lv_istore (lv' := [(4, .int x_7), (0, .ref (ad 2)), (1, .int v1), (2, .long v2)]) hx hb dX3_append_18 hl (by decide) rfl (fun ls hl => ?_)
    exact J20  5000 v2 x_7 fi ar H locs ls w (lv_sub hl [1, 3, 0] rfl) hf
  · have hf := if_f hf c_6
    refine lv_sipush (v := (-1004)) hx hb dX3_append_11 (by decide) ?_
    have hf : some ((-1004), fi, ar) = some (r0, fi0, ar0) := hf
    obtain ⟨q0, q1, q2⟩ := so3 hf
    subst q0
    subst q1
    subst q2
    exact retI B hr hk w dX3_append_14
def f_X6_asAtFirst (fi : Nat → Int32) : Option ((Nat → Int32)) := bindv (upd fi 14 1) (fun fi_1 => bindv (upd fi_1 15 3) (fun fi_2 => bindv (upd fi_2 16 1) (fun fi_3 => bindv (upd fi_3 17 1) (fun fi_4 => bindv (upd fi_4 18 0) (fun fi_5 => bindv (upd fi_5 19 1) (fun fi_6 => bindv (upd fi_6 20 10) (fun fi_7 => bindv (upd fi_7 21 153) (fun fi_8 => some fi_8))))))))
set_option maxHeartbeats 4000000 in
set_option maxRecDepth 100000 in
theorem c_X6_asAtFirst (l : Launch) (D : va_G) (ca : Nat → ClassId) (ak av ad : Nat → Nat) (fi : Nat → Int32) (fl : Nat → Int64) (ar : Nat → Nat → Int32) {fi0 : Nat → Int32} (hf : f_X6_asAtFirst fi = some fi0) : MtV l yX6_asAtFirst cX6_asAtFirst 1 { frames := 0, cells := 0, slots := 0, locals := 0 } (EC D ca ak av) [.ref (ad 4)] (wC ad ca fi fl ar) (wC ad ca fi0 fl ar) := by
  refine MtV.of (own := RX6) (by decide +kernel) rfl (Nat.le_of_ble_eq_true rfl) ?_
  intro p e s m args below meth c A B hr hk w ls hl
  have hx := B.1.1
  have hb := B.1.2.1
  have hown := B.1.2.2.2.1
  have hts := B.1.2.2.2.2
  have hl : lv_has ls 1 [(0, .ref (ad 4))] := hl
  unfold f_X6_asAtFirst at hf
  refine (show ∀ (H : Heap) (locs : List Loc), Wd (EC D ca ak av) A s (wC ad ca fi fl ar) H locs → W p l e ({ frames := 0, cells := 0, slots := 0, locals := 0 } : Room) s m args below meth c H locs 0 0 (MQ below (Qv (EC D ca ak av) A (wC ad ca fi0 fl ar)) args s 0 0 A) (F0 m 0 ls []) from ?_) s.heap [] w
  intro H locs w
  refine lv_aload_n hx hb dX6_asAtFirst_0 rfl (lv_at hl 0 rfl) ?_
  refine lv_iconst (v := 1) hx hb dX6_asAtFirst_1 (by decide) ?_
  refine pfC_4_0 (v := 1) B w kt1_36 dX6_asAtFirst_2 (fun H locs fi_1 efi_1 w => ?_)
  have hf := bindv_eq hf fi_1 efi_1
  refine lv_aload_n hx hb dX6_asAtFirst_5 rfl (lv_at hl 0 rfl) ?_
  refine lv_iconst (v := 3) hx hb dX6_asAtFirst_6 (by decide) ?_
  refine pfC_4_1 (v := 3) B w kt1_40 dX6_asAtFirst_7 (fun H locs fi_2 efi_2 w => ?_)
  have hf := bindv_eq hf fi_2 efi_2
  refine lv_aload_n hx hb dX6_asAtFirst_10 rfl (lv_at hl 0 rfl) ?_
  refine lv_iconst (v := 1) hx hb dX6_asAtFirst_11 (by decide) ?_
  refine pfC_4_2 (v := 1) B w kt1_44 dX6_asAtFirst_12 (fun H locs fi_3 efi_3 w => ?_)
  have hf := bindv_eq hf fi_3 efi_3
  refine lv_aload_n hx hb dX6_asAtFirst_15 rfl (lv_at hl 0 rfl) ?_
  refine lv_iconst (v := 1) hx hb dX6_asAtFirst_16 (by decide) ?_
  refine pfC_4_3 (v := 1) B w kt1_48 dX6_asAtFirst_17 (fun H locs fi_4 efi_4 w => ?_)
  have hf := bindv_eq hf fi_4 efi_4
  refine lv_aload_n hx hb dX6_asAtFirst_20 rfl (lv_at hl 0 rfl) ?_
  refine lv_iconst (v := 0) hx hb dX6_asAtFirst_21 (by decide) ?_
  refine pfC_4_4 (v := 0) B w kt1_52 dX6_asAtFirst_22 (fun H locs fi_5 efi_5 w => ?_)
  have hf := bindv_eq hf fi_5 efi_5
  refine lv_aload_n hx hb dX6_asAtFirst_25 rfl (lv_at hl 0 rfl) ?_
  refine lv_iconst (v := 1) hx hb dX6_asAtFirst_26 (by decide) ?_
  refine pfC_4_5 (v := 1) B w kt1_56 dX6_asAtFirst_27 (fun H locs fi_6 efi_6 w => ?_)
  have hf := bindv_eq hf fi_6 efi_6
  refine lv_aload_n hx hb dX6_asAtFirst_30 rfl (lv_at hl 0 rfl) ?_
  refine lv_bipush (v := 10) hx hb dX6_asAtFirst_31 (by decide) ?_
  refine pfC_4_6 (v := 10) B w kt1_60 dX6_asAtFirst_33 (fun H locs fi_7 efi_7 w => ?_)
  have hf := bindv_eq hf fi_7 efi_7
  refine lv_aload_n hx hb dX6_asAtFirst_36 rfl (lv_at hl 0 rfl) ?_
  refine lv_sipush (v := 153) hx hb dX6_asAtFirst_37 (by decide) ?_
  refine pfC_4_7 (v := 153) B w kt1_64 dX6_asAtFirst_40 (fun H locs fi_8 efi_8 w => ?_)
  have hf := bindv_eq hf fi_8 efi_8
  have hf : some fi_8 = some fi0 := hf
  have q0 := so1 hf
  subst q0
  exact retV B hr hk w dX6_asAtFirst_43
def f_X3_skipBlanks_0 (ar : Nat → Nat → Int32)  : Nat → (Nat → Int32) → Option ((Nat → Int32))
  | 0, _ => none
  | n + 1, fi => if ((fi 9) ≤ (fi 12) : Prop) then (some fi) else (gd (fi 12) 120 (if ((ar 3 (Int32.toNatClampNeg (fi 12))) = 32 : Prop) then (bindv (upd fi 12 ((fi 12) + 1)) (fun fi_4 => (f_X3_skipBlanks_0 ar n) fi_4)) else (some fi)))
def f_X3_skipBlanks (fi : Nat → Int32) (ar : Nat → Nat → Int32) : Option ((Nat → Int32)) := f_X3_skipBlanks_0 ar 5000 fi
set_option maxHeartbeats 4000000 in
set_option maxRecDepth 100000 in
theorem c_X3_skipBlanks (l : Launch) (D : va_G) (ca : Nat → ClassId) (ak av ad : Nat → Nat) (fi : Nat → Int32) (fl : Nat → Int64) (ar : Nat → Nat → Int32) {fi0 : Nat → Int32} (hf : f_X3_skipBlanks fi ar = some fi0) : MtV l yX3_skipBlanks cX3_skipBlanks 1 { frames := 0, cells := 0, slots := 0, locals := 0 } (EC D ca ak av) [.ref (ad 2)] (wC ad ca fi fl ar) (wC ad ca fi0 fl ar) := by
  refine MtV.of (own := RX3) (by decide +kernel) rfl (Nat.le_of_ble_eq_true rfl) ?_
  intro p e s m args below meth c A B hr hk w ls hl
  have hx := B.1.1
  have hb := B.1.2.1
  have hown := B.1.2.2.2.1
  have hts := B.1.2.2.2.2
  have hl : lv_has ls 1 [(0, .ref (ad 2))] := hl
  have J0 : ∀ (n : Nat) (fi : Nat → Int32) (H : Heap) (locs : List Loc) (ls : Array Slot), Wd (EC D ca ak av) A s (wC ad ca fi fl ar) H locs → lv_has ls 1 [(0, .ref (ad 2))] → f_X3_skipBlanks_0 ar n fi = some fi0 → W p l e ({ frames := 0, cells := 0, slots := 0, locals := 0 } : Room) s m args below meth c H locs 0 0 (MQ below (Qv (EC D ca ak av) A (wC ad ca fi0 fl ar)) args s 0 0 A) (F0 m 0 ls []) := by
    intro  n
    induction n with
    | zero =>
      intro fi H locs ls w hl hf
      cases hf
    | succ n ih =>
      intro fi H locs ls w hl hf
      rw [f_X3_skipBlanks_0] at hf
      refine lv_aload_n hx hb dX3_skipBlanks_0 rfl (lv_at hl 0 rfl) ?_
      refine gfC_2_5 B w kt1_101 dX3_skipBlanks_1 ?_
      refine lv_aload_n hx hb dX3_skipBlanks_4 rfl (lv_at hl 0 rfl) ?_
      refine gfC_2_2 B w kt1_96 dX3_skipBlanks_5 ?_
      refine lv_icmp_ge (x := (fi 12)) (y := (fi 9)) (tgt := 38) hx hb dX3_skipBlanks_8 (by decide) (fun c_1 => ?_) (fun c_1 => ?_)
      · have hf := if_t hf c_1
        have hf : some fi = some fi0 := hf
        have q0 := so1 hf
        subst q0
        exact retV B hr hk w dX3_skipBlanks_38
      · have hf := if_f hf c_1
        refine lv_aload_n hx hb dX3_skipBlanks_11 rfl (lv_at hl 0 rfl) ?_
        refine gfC_2_0 B w kt1_93 dX3_skipBlanks_12 ?_
        refine lv_aload_n hx hb dX3_skipBlanks_15 rfl (lv_at hl 0 rfl) ?_
        refine gfC_2_5 B w kt1_101 dX3_skipBlanks_16 ?_
        obtain ⟨hi_2, hf⟩ := gd_eq hf
        refine alC_3 B w hi_2 dX3_skipBlanks_19 ?_
        refine lv_bipush (v := 32) hx hb dX3_skipBlanks_20 (by decide) ?_
        refine lv_icmp_ne (x := (ar 3 (Int32.toNatClampNeg (fi 12)))) (y := 32) (tgt := 38) hx hb dX3_skipBlanks_22 (by decide) (fun c_3 => ?_) (fun c_3 => ?_)
        · have hf := if_f hf c_3
          have hf : some fi = some fi0 := hf
          have q0 := so1 hf
          subst q0
          exact retV B hr hk w dX3_skipBlanks_38
        · have hf := if_t hf c_3
          refine lv_aload_n hx hb dX3_skipBlanks_25 rfl (lv_at hl 0 rfl) ?_
          refine lv_dup hx hb dX3_skipBlanks_26 rfl ?_
          refine gfC_2_5 B w kt1_101 dX3_skipBlanks_27 ?_
          refine lv_iconst (v := 1) hx hb dX3_skipBlanks_30 (by decide) ?_
          refine lv_iadd (x := (fi 12)) (y := 1) hx hb dX3_skipBlanks_31 ?_
          refine pfC_2_5 (v := ((fi 12) + 1)) B w kt1_101 dX3_skipBlanks_32 (fun H locs fi_4 efi_4 w => ?_)
          have hf := bindv_eq hf fi_4 efi_4
          refine lv_goto (tgt := 0) hx hb dX3_skipBlanks_35 (by decide) ?_
          exact ih fi_4 H locs ls w (lv_sub hl [0] rfl) hf
  unfold f_X3_skipBlanks at hf
  refine (show ∀ (H : Heap) (locs : List Loc), Wd (EC D ca ak av) A s (wC ad ca fi fl ar) H locs → W p l e ({ frames := 0, cells := 0, slots := 0, locals := 0 } : Room) s m args below meth c H locs 0 0 (MQ below (Qv (EC D ca ak av) A (wC ad ca fi0 fl ar)) args s 0 0 A) (F0 m 0 ls []) from ?_) s.heap [] w
  intro H locs w
  exact J0  5000 fi H locs ls w (lv_sub hl [0] rfl) hf
def f_X3_takeWord_56 (ar : Nat → Nat → Int32) (s1 : Nat)  : Nat → (Int32) → (Int32) → (Nat → Int32) → Option (Int32 × (Nat → Int32))
  | 0, _, _, _ => none
  | n + 1, v2, v3, fi => bindv (f_J0_length_8abf5 s1) (fun r_1 => if (r_1 ≤ v3 : Prop) then (bindv (upd fi 12 v2) (fun fi_4 => some (1, fi_4))) else (gd ((fi 12) + v3) 120 (bind1 (f_J0_charAt_5068e s1 v3) (fun r_6 => if ((ar 3 (Int32.toNatClampNeg ((fi 12) + v3))) = r_6 : Prop) then (bindv (v3 + 1 : Int32) (fun x_9 => (f_X3_takeWord_56 ar s1 n) v2 x_9 fi)) else (some (0, fi))))))
def f_X3_takeWord_39 (ar : Nat → Nat → Int32) (s1 : Nat)  (v2 : Int32) (fi : Nat → Int32) : Option (Int32 × (Nat → Int32)) := bindv (f_J0_length_8abf5 s1) (fun r_10 => if ((v2 - (fi 12)) = r_10 : Prop) then (f_X3_takeWord_56 ar s1 5000 v2 0 fi) else (some (0, fi)))
def f_X3_takeWord_9 (ar : Nat → Nat → Int32) (s1 : Nat)  : Nat → (Int32) → (Nat → Int32) → Option (Int32 × (Nat → Int32))
  | 0, _, _ => none
  | n + 1, v2, fi => if ((fi 9) ≤ v2 : Prop) then (f_X3_takeWord_39 ar s1 v2 fi) else (gd v2 120 (bindv (f_X8_within (ar 3 (Int32.toNatClampNeg v2)) 97 122) (fun r_15 => if (r_15 = 0 : Prop) then (f_X3_takeWord_39 ar s1 v2 fi) else (bindv (v2 + 1 : Int32) (fun x_18 => (f_X3_takeWord_9 ar s1 n) x_18 fi)))))
def f_X3_takeWord (fi : Nat → Int32) (ar : Nat → Nat → Int32) (s1 : Nat) : Option (Int32 × (Nat → Int32)) := bind1 (f_X3_skipBlanks fi ar) (fun fi_19 => bindv ((fi_19 12) : Int32) (fun x_21 => f_X3_takeWord_9 ar s1 5000 x_21 fi_19))
set_option maxHeartbeats 4000000 in
set_option maxRecDepth 100000 in
theorem c_X3_takeWord (l : Launch) (D : va_G) (ca : Nat → ClassId) (ak av ad : Nat → Nat) (fi : Nat → Int32) (fl : Nat → Int64) (ar : Nat → Nat → Int32) (s1 : Nat) {r0 : Int32} {fi0 : Nat → Int32} (hf : f_X3_takeWord fi ar s1 = some (r0, fi0)) (hs1 : s1 < 12) : MtZ l yX3_takeWord cX3_takeWord 4 { frames := 5, cells := 0, slots := 0, locals := 141 } (EC D ca ak av) [.ref (ad 2), .ref (ak s1)] (wC ad ca fi fl ar) (wC ad ca fi0 fl ar) r0 := by
  refine MtZ.of (own := RX3) (by decide +kernel) rfl (Nat.le_of_ble_eq_true rfl) ?_
  intro p e s m args below meth c A B hr hk w ls hl
  have hx := B.1.1
  have hb := B.1.2.1
  have hown := B.1.2.2.2.1
  have hts := B.1.2.2.2.2
  have hl : lv_has ls 4 [(0, .ref (ad 2)), (1, .ref (ak s1))] := hl
  have J56 : ∀ (n : Nat) (v2 : Int32) (v3 : Int32) (fi : Nat → Int32) (H : Heap) (locs : List Loc) (ls : Array Slot), Wd (EC D ca ak av) A s (wC ad ca fi fl ar) H locs → lv_has ls 4 [(0, .ref (ad 2)), (1, .ref (ak s1)), (2, .int v2), (3, .int v3)] → f_X3_takeWord_56 ar s1 n v2 v3 fi = some (r0, fi0) → W p l e ({ frames := 5, cells := 0, slots := 0, locals := 141 } : Room) s m args below meth c H locs 0 0 (MQ below (Qz (EC D ca ak av) A (wC ad ca fi0 fl ar) r0) args s 0 0 A) (F0 m 56 ls []) := by
    intro  n
    induction n with
    | zero =>
      intro v2 v3 fi H locs ls w hl hf
      cases hf
    | succ n ih =>
      intro v2 v3 fi H locs ls w hl hf
      rw [f_X3_takeWord_56] at hf
      refine lv_iload_n hx hb dX3_takeWord_56 rfl (lv_at hl 3 rfl) ?_
      refine lv_aload_n hx hb dX3_takeWord_57 rfl (lv_at hl 1 rfl) ?_
      obtain ⟨r_1, er_2⟩ : ∃ y, f_J0_length_8abf5 s1 = y := ⟨_, rfl⟩
      have hf := bindv_eq hf r_1 er_2.symm
      refine callStr (As := []) (rest := [.int v3]) (i := s1) B w (c_J0_length_8abf5 l D ca ak av s1 er_2 hs1) (gV kt2_106 kt2_107 kt2_108 kt1_12 kt2_109) hdV_J0_length_8abf5 hs1 rfl rfl ⟨Nat.le_of_ble_eq_true rfl, Nat.le_of_ble_eq_true rfl⟩ rfl hl.1 rfl (Nat.le_of_ble_eq_true rfl) dX3_takeWord_58 ⟨Nat.le_of_ble_eq_true rfl, Nat.le_of_ble_eq_true rfl⟩ (fun H locs w => ?_)
      refine lv_icmp_ge (x := v3) (y := r_1) (tgt := 91) hx hb dX3_takeWord_61 (by decide) (fun c_3 => ?_) (fun c_3 => ?_)
      · have hf := if_t hf c_3
        refine lv_aload_n hx hb dX3_takeWord_91 rfl (lv_at hl 0 rfl) ?_
        refine lv_iload_n hx hb dX3_takeWord_92 rfl (lv_at hl 2 rfl) ?_
        refine pfC_2_5 (v := v2) B w kt1_101 dX3_takeWord_93 (fun H locs fi_4 efi_4 w => ?_)
        have hf := bindv_eq hf fi_4 efi_4
        refine lv_iconst (v := 1) hx hb dX3_takeWord_96 (by decide) ?_
        have hf : some (1, fi_4) = some (r0, fi0) := hf
        obtain ⟨q0, q1⟩ := so2 hf
        subst q0
        subst q1
        exact retZ B hr hk w rfl dX3_takeWord_97
      · have hf := if_f hf c_3
        refine lv_aload_n hx hb dX3_takeWord_64 rfl (lv_at hl 0 rfl) ?_
        refine gfC_2_0 B w kt1_93 dX3_takeWord_65 ?_
        refine lv_aload_n hx hb dX3_takeWord_68 rfl (lv_at hl 0 rfl) ?_
        refine gfC_2_5 B w kt1_101 dX3_takeWord_69 ?_
        refine lv_iload_n hx hb dX3_takeWord_72 rfl (lv_at hl 3 rfl) ?_
        refine lv_iadd (x := (fi 12)) (y := v3) hx hb dX3_takeWord_73 ?_
        obtain ⟨hi_5, hf⟩ := gd_eq hf
        refine alC_3 B w hi_5 dX3_takeWord_74 ?_
        refine lv_aload_n hx hb dX3_takeWord_75 rfl (lv_at hl 1 rfl) ?_
        refine lv_iload_n hx hb dX3_takeWord_76 rfl (lv_at hl 3 rfl) ?_
        obtain ⟨r_6, er_7, hf⟩ := bind1_eq hf
        refine callStr (As := [.int v3]) (rest := [.int (ar 3 (Int32.toNatClampNeg ((fi 12) + v3)))]) (i := s1) B w (c_J0_charAt_5068e l D ca ak av s1 v3 er_7 hs1) (gV kt2_116 kt2_117 kt2_118 kt1_12 kt2_119) hdV_J0_charAt_5068e hs1 rfl rfl ⟨Nat.le_of_ble_eq_true rfl, Nat.le_of_ble_eq_true rfl⟩ rfl hl.1 rfl (Nat.le_of_ble_eq_true rfl) dX3_takeWord_77 ⟨Nat.le_of_ble_eq_true rfl, Nat.le_of_ble_eq_true rfl⟩ (fun H locs w => ?_)
        refine lv_icmp_eq (x := (ar 3 (Int32.toNatClampNeg ((fi 12) + v3)))) (y := r_6) (tgt := 85) hx hb dX3_takeWord_80 (by decide) (fun c_8 => ?_) (fun c_8 => ?_)
        · have hf := if_t hf c_8
          obtain ⟨x_9, ex_9⟩ : ∃ y : Int32, y = v3 + 1 := ⟨_, rfl⟩
          have hf := bindv_eq hf x_9 ex_9
          refine lv_iinc (v := x_9) (lv' := [(3, .int x_9), (0, .ref (ad 2)), (1, .ref (ak s1)), (2, .int v2)]) hx hb dX3_takeWord_85 hl (k := 3) rfl (by rw [ex_9]; rfl) (by decide) rfl (fun ls hl => ?_)
          refine lv_goto (tgt := 56) hx hb dX3_takeWord_88 (by decide) ?_
          exact ih v2 x_9 fi H locs ls w (lv_sub hl [1, 2, 3, 0] rfl) hf
        · have hf := if_f hf c_8
          refine lv_iconst (v := 0) hx hb dX3_takeWord_83 (by decide) ?_
          have hf : some (0, fi) = some (r0, fi0) := hf
          obtain ⟨q0, q1⟩ := so2 hf
          subst q0
          subst q1
          exact retZ B hr hk w rfl dX3_takeWord_84
  have J39 : ∀ (v2 : Int32) (fi : Nat → Int32) (H : Heap) (locs : List Loc) (ls : Array Slot), Wd (EC D ca ak av) A s (wC ad ca fi fl ar) H locs → lv_has ls 4 [(0, .ref (ad 2)), (1, .ref (ak s1)), (2, .int v2)] → f_X3_takeWord_39 ar s1 v2 fi = some (r0, fi0) → W p l e ({ frames := 5, cells := 0, slots := 0, locals := 141 } : Room) s m args below meth c H locs 0 0 (MQ below (Qz (EC D ca ak av) A (wC ad ca fi0 fl ar) r0) args s 0 0 A) (F0 m 39 ls []) := by
    intro  v2 fi H locs ls w hl hf
    unfold f_X3_takeWord_39 at hf
    refine lv_iload_n hx hb dX3_takeWord_39 rfl (lv_at hl 2 rfl) ?_
    refine lv_aload_n hx hb dX3_takeWord_40 rfl (lv_at hl 0 rfl) ?_
    refine gfC_2_5 B w kt1_101 dX3_takeWord_41 ?_
    refine lv_isub (x := v2) (y := (fi 12)) hx hb dX3_takeWord_44 ?_
    refine lv_aload_n hx hb dX3_takeWord_45 rfl (lv_at hl 1 rfl) ?_
    obtain ⟨r_10, er_11⟩ : ∃ y, f_J0_length_8abf5 s1 = y := ⟨_, rfl⟩
    have hf := bindv_eq hf r_10 er_11.symm
    refine callStr (As := []) (rest := [.int (v2 - (fi 12))]) (i := s1) B w (c_J0_length_8abf5 l D ca ak av s1 er_11 hs1) (gV kt2_106 kt2_107 kt2_108 kt1_12 kt2_109) hdV_J0_length_8abf5 hs1 rfl rfl ⟨Nat.le_of_ble_eq_true rfl, Nat.le_of_ble_eq_true rfl⟩ rfl hl.1 rfl (Nat.le_of_ble_eq_true rfl) dX3_takeWord_46 ⟨Nat.le_of_ble_eq_true rfl, Nat.le_of_ble_eq_true rfl⟩ (fun H locs w => ?_)
    refine lv_icmp_eq (x := (v2 - (fi 12))) (y := r_10) (tgt := 54) hx hb dX3_takeWord_49 (by decide) (fun c_12 => ?_) (fun c_12 => ?_)
    · have hf := if_t hf c_12
      refine lv_iconst (v := 0) hx hb dX3_takeWord_54 (by decide) ?_
      refine lv_istore_n (lv' := [(3, .int 0), (0, .ref (ad 2)), (1, .ref (ak s1)), (2, .int v2)]) hx hb dX3_takeWord_55 rfl hl (by decide) rfl (fun ls hl => ?_)
      exact J56  5000 v2 0 fi H locs ls w (lv_sub hl [1, 2, 3, 0] rfl) hf
    · have hf := if_f hf c_12
      refine lv_iconst (v := 0) hx hb dX3_takeWord_52 (by decide) ?_
      have hf : some (0, fi) = some (r0, fi0) := hf
      obtain ⟨q0, q1⟩ := so2 hf
      subst q0
      subst q1
      exact retZ B hr hk w rfl dX3_takeWord_53
  have J9 : ∀ (n : Nat) (v2 : Int32) (fi : Nat → Int32) (H : Heap) (locs : List Loc) (ls : Array Slot), Wd (EC D ca ak av) A s (wC ad ca fi fl ar) H locs → lv_has ls 4 [(0, .ref (ad 2)), (1, .ref (ak s1)), (2, .int v2)] → f_X3_takeWord_9 ar s1 n v2 fi = some (r0, fi0) → W p l e ({ frames := 5, cells := 0, slots := 0, locals := 141 } : Room) s m args below meth c H locs 0 0 (MQ below (Qz (EC D ca ak av) A (wC ad ca fi0 fl ar) r0) args s 0 0 A) (F0 m 9 ls []) := by
    intro  n
    induction n with
    | zero =>
      intro v2 fi H locs ls w hl hf
      cases hf
    | succ n ih =>
      intro v2 fi H locs ls w hl hf
      rw [f_X3_takeWord_9] at hf
      refine lv_iload_n hx hb dX3_takeWord_9 rfl (lv_at hl 2 rfl) ?_
      refine lv_aload_n hx hb dX3_takeWord_10 rfl (lv_at hl 0 rfl) ?_
      refine gfC_2_2 B w kt1_96 dX3_takeWord_11 ?_
      refine lv_icmp_ge (x := v2) (y := (fi 9)) (tgt := 39) hx hb dX3_takeWord_14 (by decide) (fun c_13 => ?_) (fun c_13 => ?_)
      · have hf := if_t hf c_13
        exact J39  v2 fi H locs ls w (lv_sub hl [0, 1, 2] rfl) hf
      · have hf := if_f hf c_13
        refine lv_aload_n hx hb dX3_takeWord_17 rfl (lv_at hl 0 rfl) ?_
        refine gfC_2_0 B w kt1_93 dX3_takeWord_18 ?_
        refine lv_iload_n hx hb dX3_takeWord_21 rfl (lv_at hl 2 rfl) ?_
        obtain ⟨hi_14, hf⟩ := gd_eq hf
        refine alC_3 B w hi_14 dX3_takeWord_22 ?_
        refine lv_bipush (v := 97) hx hb dX3_takeWord_23 (by decide) ?_
        refine lv_bipush (v := 122) hx hb dX3_takeWord_25 (by decide) ?_
        obtain ⟨r_15, er_16⟩ : ∃ y, f_X8_within (ar 3 (Int32.toNatClampNeg v2)) 97 122 = y := ⟨_, rfl⟩
        have hf := bindv_eq hf r_15 er_16.symm
        refine callNZ (As := [.int (ar 3 (Int32.toNatClampNeg v2)), .int 97, .int 122]) (rest := []) B w (c_X8_within l _ (ar 3 (Int32.toNatClampNeg v2)) 97 122 er_16) (gN kt2_74) (by decide) kt1_1 kt2_73 hdS_X8_within rfl rfl ⟨Nat.le_of_ble_eq_true rfl, Nat.le_of_ble_eq_true rfl⟩ rfl hl.1 rfl (Nat.le_of_ble_eq_true rfl) dX3_takeWord_27 ⟨Nat.le_of_ble_eq_true rfl, Nat.le_of_ble_eq_true rfl⟩ (fun H locs w hzr_15 => ?_)
        refine lv_if_eq (x := r_15) (tgt := 39) hx hb dX3_takeWord_30 (by decide) (fun c_17 => ?_) (fun c_17 => ?_)
        · have hf := if_t hf c_17
          exact J39  v2 fi H locs ls w (lv_sub hl [0, 1, 2] rfl) hf
        · have hf := if_f hf c_17
          obtain ⟨x_18, ex_18⟩ : ∃ y : Int32, y = v2 + 1 := ⟨_, rfl⟩
          have hf := bindv_eq hf x_18 ex_18
          refine lv_iinc (v := x_18) (lv' := [(2, .int x_18), (0, .ref (ad 2)), (1, .ref (ak s1))]) hx hb dX3_takeWord_33 hl (k := 2) rfl (by rw [ex_18]; rfl) (by decide) rfl (fun ls hl => ?_)
          refine lv_goto (tgt := 9) hx hb dX3_takeWord_36 (by decide) ?_
          exact ih x_18 fi H locs ls w (lv_sub hl [1, 2, 0] rfl) hf
  unfold f_X3_takeWord at hf
  refine (show ∀ (H : Heap) (locs : List Loc), Wd (EC D ca ak av) A s (wC ad ca fi fl ar) H locs → W p l e ({ frames := 5, cells := 0, slots := 0, locals := 141 } : Room) s m args below meth c H locs 0 0 (MQ below (Qz (EC D ca ak av) A (wC ad ca fi0 fl ar) r0) args s 0 0 A) (F0 m 0 ls []) from ?_) s.heap [] w
  intro H locs w
  refine lv_aload_n hx hb dX3_takeWord_0 rfl (lv_at hl 0 rfl) ?_
  obtain ⟨fi_19, er_20, hf⟩ := bind1_eq hf
  refine callVV (As := []) (rest := []) B w (c_X3_skipBlanks l D ca ak av ad fi fl ar  er_20) (gV kt2_88 kt2_90 kp1_0 kt1_3 kt2_91) hdV_X3_skipBlanks 2 rfl rfl rfl rfl ⟨Nat.le_of_ble_eq_true rfl, Nat.le_of_ble_eq_true rfl⟩ rfl hl.1 rfl (Nat.le_of_ble_eq_true rfl) dX3_takeWord_1 ⟨Nat.le_of_ble_eq_true rfl, Nat.le_of_ble_eq_true rfl⟩ (fun H locs w => ?_)
  refine lv_aload_n hx hb dX3_takeWord_4 rfl (lv_at hl 0 rfl) ?_
  refine gfC_2_5 B w kt1_101 dX3_takeWord_5 ?_
  refine lv_topi (fun x_21 ex_21 => ?_)
  have hf := bindv_eq hf x_21 ex_21
  refine lv_istore_n (lv' := [(2, .int x_21), (0, .ref (ad 2)), (1, .ref (ak s1))]) hx hb dX3_takeWord_8 rfl hl (by decide) rfl (fun ls hl => ?_)
  exact J9  5000 x_21 fi_19 H locs ls w (lv_sub hl [1, 2, 0] rfl) hf
def f_X3_takeClauseWord (fi : Nat → Int32) (ar : Nat → Nat → Int32) : Option (Int32 × (Nat → Int32)) := bind2 (f_X3_takeWord fi ar 0) (fun r_1 fi_2 => if (r_1 = 0 : Prop) then (bind2 (f_X3_takeWord fi_2 ar 1) (fun r_5 fi_6 => if (r_5 = 0 : Prop) then (bind2 (f_X3_takeWord fi_6 ar 2) (fun r_9 fi_10 => if (r_9 = 0 : Prop) then (bind2 (f_X3_takeWord fi_10 ar 3) (fun r_13 fi_14 => if (r_13 = 0 : Prop) then (bind2 (f_X3_takeWord fi_14 ar 4) (fun r_17 fi_18 => if (r_17 = 0 : Prop) then (bind2 (f_X3_takeWord fi_18 ar 5) (fun r_21 fi_22 => if (r_21 = 0 : Prop) then (bind2 (f_X3_takeWord fi_22 ar 6) (fun r_25 fi_26 => if (r_25 = 0 : Prop) then (some ((-1), fi_26)) else (some (6, fi_26)))) else (some (5, fi_22)))) else (some (4, fi_18)))) else (some (3, fi_14)))) else (some (2, fi_10)))) else (some (1, fi_6)))) else (some (0, fi_2)))
set_option maxHeartbeats 4000000 in
set_option maxRecDepth 100000 in
theorem c_X3_takeClauseWord (l : Launch) (D : va_G) (ca : Nat → ClassId) (ak av ad : Nat → Nat) (fi : Nat → Int32) (fl : Nat → Int64) (ar : Nat → Nat → Int32) {r0 : Int32} {fi0 : Nat → Int32} (hf : f_X3_takeClauseWord fi ar = some (r0, fi0)) : MtI l yX3_takeClauseWord cX3_takeClauseWord 1 { frames := 6, cells := 0, slots := 0, locals := 164 } (EC D ca ak av) [.ref (ad 2)] (wC ad ca fi fl ar) (wC ad ca fi0 fl ar) r0 := by
  refine MtI.of (own := RX3) (by decide +kernel) rfl (Nat.le_of_ble_eq_true rfl) ?_
  intro p e s m args below meth c A B hr hk w ls hl
  have hx := B.1.1
  have hb := B.1.2.1
  have hown := B.1.2.2.2.1
  have hts := B.1.2.2.2.2
  have hl : lv_has ls 1 [(0, .ref (ad 2))] := hl
  unfold f_X3_takeClauseWord at hf
  refine (show ∀ (H : Heap) (locs : List Loc), Wd (EC D ca ak av) A s (wC ad ca fi fl ar) H locs → W p l e ({ frames := 6, cells := 0, slots := 0, locals := 164 } : Room) s m args below meth c H locs 0 0 (MQ below (Qi (EC D ca ak av) A (wC ad ca fi0 fl ar) r0) args s 0 0 A) (F0 m 0 ls []) from ?_) s.heap [] w
  intro H locs w
  refine lv_aload_n hx hb dX3_takeClauseWord_0 rfl (lv_at hl 0 rfl) ?_
  refine ldS (i := 0) B (by decide) rfl dX3_takeClauseWord_1 ?_
  obtain ⟨r_1, fi_2, er_3, hf⟩ := bind2_eq hf
  refine callVZ (As := [.ref (ak 0)]) (rest := []) B w (c_X3_takeWord l D ca ak av ad fi fl ar 0 er_3 (by decide)) (gV kt2_101 kt2_103 kp1_3 kt1_3 kt2_104) hdV_X3_takeWord 2 rfl rfl rfl rfl ⟨Nat.le_of_ble_eq_true rfl, Nat.le_of_ble_eq_true rfl⟩ rfl hl.1 rfl (Nat.le_of_ble_eq_true rfl) dX3_takeClauseWord_3 ⟨Nat.le_of_ble_eq_true rfl, Nat.le_of_ble_eq_true rfl⟩ (fun H locs w hzr_1 => ?_)
  refine lv_if_eq (x := r_1) (tgt := 11) hx hb dX3_takeClauseWord_6 (by decide) (fun c_4 => ?_) (fun c_4 => ?_)
  · have hf := if_t hf c_4
    refine lv_aload_n hx hb dX3_takeClauseWord_11 rfl (lv_at hl 0 rfl) ?_
    refine ldS (i := 1) B (by decide) rfl dX3_takeClauseWord_12 ?_
    obtain ⟨r_5, fi_6, er_7, hf⟩ := bind2_eq hf
    refine callVZ (As := [.ref (ak 1)]) (rest := []) B w (c_X3_takeWord l D ca ak av ad fi_2 fl ar 1 er_7 (by decide)) (gV kt2_101 kt2_103 kp1_3 kt1_3 kt2_104) hdV_X3_takeWord 2 rfl rfl rfl rfl ⟨Nat.le_of_ble_eq_true rfl, Nat.le_of_ble_eq_true rfl⟩ rfl hl.1 rfl (Nat.le_of_ble_eq_true rfl) dX3_takeClauseWord_14 ⟨Nat.le_of_ble_eq_true rfl, Nat.le_of_ble_eq_true rfl⟩ (fun H locs w hzr_5 => ?_)
    refine lv_if_eq (x := r_5) (tgt := 22) hx hb dX3_takeClauseWord_17 (by decide) (fun c_8 => ?_) (fun c_8 => ?_)
    · have hf := if_t hf c_8
      refine lv_aload_n hx hb dX3_takeClauseWord_22 rfl (lv_at hl 0 rfl) ?_
      refine ldS (i := 2) B (by decide) rfl dX3_takeClauseWord_23 ?_
      obtain ⟨r_9, fi_10, er_11, hf⟩ := bind2_eq hf
      refine callVZ (As := [.ref (ak 2)]) (rest := []) B w (c_X3_takeWord l D ca ak av ad fi_6 fl ar 2 er_11 (by decide)) (gV kt2_101 kt2_103 kp1_3 kt1_3 kt2_104) hdV_X3_takeWord 2 rfl rfl rfl rfl ⟨Nat.le_of_ble_eq_true rfl, Nat.le_of_ble_eq_true rfl⟩ rfl hl.1 rfl (Nat.le_of_ble_eq_true rfl) dX3_takeClauseWord_25 ⟨Nat.le_of_ble_eq_true rfl, Nat.le_of_ble_eq_true rfl⟩ (fun H locs w hzr_9 => ?_)
      refine lv_if_eq (x := r_9) (tgt := 33) hx hb dX3_takeClauseWord_28 (by decide) (fun c_12 => ?_) (fun c_12 => ?_)
      · have hf := if_t hf c_12
        refine lv_aload_n hx hb dX3_takeClauseWord_33 rfl (lv_at hl 0 rfl) ?_
        refine ldS (i := 3) B (by decide) rfl dX3_takeClauseWord_34 ?_
        obtain ⟨r_13, fi_14, er_15, hf⟩ := bind2_eq hf
        refine callVZ (As := [.ref (ak 3)]) (rest := []) B w (c_X3_takeWord l D ca ak av ad fi_10 fl ar 3 er_15 (by decide)) (gV kt2_101 kt2_103 kp1_3 kt1_3 kt2_104) hdV_X3_takeWord 2 rfl rfl rfl rfl ⟨Nat.le_of_ble_eq_true rfl, Nat.le_of_ble_eq_true rfl⟩ rfl hl.1 rfl (Nat.le_of_ble_eq_true rfl) dX3_takeClauseWord_36 ⟨Nat.le_of_ble_eq_true rfl, Nat.le_of_ble_eq_true rfl⟩ (fun H locs w hzr_13 => ?_)
        refine lv_if_eq (x := r_13) (tgt := 44) hx hb dX3_takeClauseWord_39 (by decide) (fun c_16 => ?_) (fun c_16 => ?_)
        · have hf := if_t hf c_16
          refine lv_aload_n hx hb dX3_takeClauseWord_44 rfl (lv_at hl 0 rfl) ?_
          refine ldS (i := 4) B (by decide) rfl dX3_takeClauseWord_45 ?_
          obtain ⟨r_17, fi_18, er_19, hf⟩ := bind2_eq hf
          refine callVZ (As := [.ref (ak 4)]) (rest := []) B w (c_X3_takeWord l D ca ak av ad fi_14 fl ar 4 er_19 (by decide)) (gV kt2_101 kt2_103 kp1_3 kt1_3 kt2_104) hdV_X3_takeWord 2 rfl rfl rfl rfl ⟨Nat.le_of_ble_eq_true rfl, Nat.le_of_ble_eq_true rfl⟩ rfl hl.1 rfl (Nat.le_of_ble_eq_true rfl) dX3_takeClauseWord_47 ⟨Nat.le_of_ble_eq_true rfl, Nat.le_of_ble_eq_true rfl⟩ (fun H locs w hzr_17 => ?_)
          refine lv_if_eq (x := r_17) (tgt := 55) hx hb dX3_takeClauseWord_50 (by decide) (fun c_20 => ?_) (fun c_20 => ?_)
          · have hf := if_t hf c_20
            refine lv_aload_n hx hb dX3_takeClauseWord_55 rfl (lv_at hl 0 rfl) ?_
            refine ldS (i := 5) B (by decide) rfl dX3_takeClauseWord_56 ?_
            obtain ⟨r_21, fi_22, er_23, hf⟩ := bind2_eq hf
            refine callVZ (As := [.ref (ak 5)]) (rest := []) B w (c_X3_takeWord l D ca ak av ad fi_18 fl ar 5 er_23 (by decide)) (gV kt2_101 kt2_103 kp1_3 kt1_3 kt2_104) hdV_X3_takeWord 2 rfl rfl rfl rfl ⟨Nat.le_of_ble_eq_true rfl, Nat.le_of_ble_eq_true rfl⟩ rfl hl.1 rfl (Nat.le_of_ble_eq_true rfl) dX3_takeClauseWord_58 ⟨Nat.le_of_ble_eq_true rfl, Nat.le_of_ble_eq_true rfl⟩ (fun H locs w hzr_21 => ?_)
            refine lv_if_eq (x := r_21) (tgt := 66) hx hb dX3_takeClauseWord_61 (by decide) (fun c_24 => ?_) (fun c_24 => ?_)
            · have hf := if_t hf c_24
              refine lv_aload_n hx hb dX3_takeClauseWord_66 rfl (lv_at hl 0 rfl) ?_
              refine ldS (i := 6) B (by decide) rfl dX3_takeClauseWord_67 ?_
              obtain ⟨r_25, fi_26, er_27, hf⟩ := bind2_eq hf
              refine callVZ (As := [.ref (ak 6)]) (rest := []) B w (c_X3_takeWord l D ca ak av ad fi_22 fl ar 6 er_27 (by decide)) (gV kt2_101 kt2_103 kp1_3 kt1_3 kt2_104) hdV_X3_takeWord 2 rfl rfl rfl rfl ⟨Nat.le_of_ble_eq_true rfl, Nat.le_of_ble_eq_true rfl⟩ rfl hl.1 rfl (Nat.le_of_ble_eq_true rfl) dX3_takeClauseWord_69 ⟨Nat.le_of_ble_eq_true rfl, Nat.le_of_ble_eq_true rfl⟩ (fun H locs w hzr_25 => ?_)
              refine lv_if_eq (x := r_25) (tgt := 78) hx hb dX3_takeClauseWord_72 (by decide) (fun c_28 => ?_) (fun c_28 => ?_)
              · have hf := if_t hf c_28
                refine lv_iconst (v := (-1)) hx hb dX3_takeClauseWord_78 (by decide) ?_
                have hf : some ((-1), fi_26) = some (r0, fi0) := hf
                obtain ⟨q0, q1⟩ := so2 hf
                subst q0
                subst q1
                exact retI B hr hk w dX3_takeClauseWord_79
              · have hf := if_f hf c_28
                refine lv_bipush (v := 6) hx hb dX3_takeClauseWord_75 (by decide) ?_
                have hf : some (6, fi_26) = some (r0, fi0) := hf
                obtain ⟨q0, q1⟩ := so2 hf
                subst q0
                subst q1
                exact retI B hr hk w dX3_takeClauseWord_77
            · have hf := if_f hf c_24
              refine lv_iconst (v := 5) hx hb dX3_takeClauseWord_64 (by decide) ?_
              have hf : some (5, fi_22) = some (r0, fi0) := hf
              obtain ⟨q0, q1⟩ := so2 hf
              subst q0
              subst q1
              exact retI B hr hk w dX3_takeClauseWord_65
          · have hf := if_f hf c_20
            refine lv_iconst (v := 4) hx hb dX3_takeClauseWord_53 (by decide) ?_
            have hf : some (4, fi_18) = some (r0, fi0) := hf
            obtain ⟨q0, q1⟩ := so2 hf
            subst q0
            subst q1
            exact retI B hr hk w dX3_takeClauseWord_54
        · have hf := if_f hf c_16
          refine lv_iconst (v := 3) hx hb dX3_takeClauseWord_42 (by decide) ?_
          have hf : some (3, fi_14) = some (r0, fi0) := hf
          obtain ⟨q0, q1⟩ := so2 hf
          subst q0
          subst q1
          exact retI B hr hk w dX3_takeClauseWord_43
      · have hf := if_f hf c_12
        refine lv_iconst (v := 2) hx hb dX3_takeClauseWord_31 (by decide) ?_
        have hf : some (2, fi_10) = some (r0, fi0) := hf
        obtain ⟨q0, q1⟩ := so2 hf
        subst q0
        subst q1
        exact retI B hr hk w dX3_takeClauseWord_32
    · have hf := if_f hf c_8
      refine lv_iconst (v := 1) hx hb dX3_takeClauseWord_20 (by decide) ?_
      have hf : some (1, fi_6) = some (r0, fi0) := hf
      obtain ⟨q0, q1⟩ := so2 hf
      subst q0
      subst q1
      exact retI B hr hk w dX3_takeClauseWord_21
  · have hf := if_f hf c_4
    refine lv_iconst (v := 0) hx hb dX3_takeClauseWord_9 (by decide) ?_
    have hf : some (0, fi_2) = some (r0, fi0) := hf
    obtain ⟨q0, q1⟩ := so2 hf
    subst q0
    subst q1
    exact retI B hr hk w dX3_takeClauseWord_10
def f_X3_blame (fi : Nat → Int32) (v1 : Int32) (v2 : Int32) : Option ((Nat → Int32)) := bindv (upd fi 11 v1) (fun fi_1 => bindv (upd fi_1 10 v2) (fun fi_2 => some fi_2))
set_option maxHeartbeats 4000000 in
set_option maxRecDepth 100000 in
theorem c_X3_blame (l : Launch) (D : va_G) (ca : Nat → ClassId) (ak av ad : Nat → Nat) (fi : Nat → Int32) (fl : Nat → Int64) (ar : Nat → Nat → Int32) (v1 : Int32) (v2 : Int32) {fi0 : Nat → Int32} (hf : f_X3_blame fi v1 v2 = some fi0) : MtV l yX3_blame cX3_blame 3 { frames := 0, cells := 0, slots := 0, locals := 0 } (EC D ca ak av) [.ref (ad 2), .int v1, .int v2] (wC ad ca fi fl ar) (wC ad ca fi0 fl ar) := by
  refine MtV.of (own := RX3) (by decide +kernel) rfl (Nat.le_of_ble_eq_true rfl) ?_
  intro p e s m args below meth c A B hr hk w ls hl
  have hx := B.1.1
  have hb := B.1.2.1
  have hown := B.1.2.2.2.1
  have hts := B.1.2.2.2.2
  have hl : lv_has ls 3 [(0, .ref (ad 2)), (1, .int v1), (2, .int v2)] := hl
  unfold f_X3_blame at hf
  refine (show ∀ (H : Heap) (locs : List Loc), Wd (EC D ca ak av) A s (wC ad ca fi fl ar) H locs → W p l e ({ frames := 0, cells := 0, slots := 0, locals := 0 } : Room) s m args below meth c H locs 0 0 (MQ below (Qv (EC D ca ak av) A (wC ad ca fi0 fl ar)) args s 0 0 A) (F0 m 0 ls []) from ?_) s.heap [] w
  intro H locs w
  refine lv_aload_n hx hb dX3_blame_0 rfl (lv_at hl 0 rfl) ?_
  refine lv_iload_n hx hb dX3_blame_1 rfl (lv_at hl 1 rfl) ?_
  refine pfC_2_4 (v := v1) B w kt1_100 dX3_blame_2 (fun H locs fi_1 efi_1 w => ?_)
  have hf := bindv_eq hf fi_1 efi_1
  refine lv_aload_n hx hb dX3_blame_5 rfl (lv_at hl 0 rfl) ?_
  refine lv_iload_n hx hb dX3_blame_6 rfl (lv_at hl 2 rfl) ?_
  refine pfC_2_3 (v := v2) B w kt1_98 dX3_blame_7 (fun H locs fi_2 efi_2 w => ?_)
  have hf := bindv_eq hf fi_2 efi_2
  have hf : some fi_2 = some fi0 := hf
  have q0 := so1 hf
  subst q0
  exact retV B hr hk w dX3_blame_10
def f_X3_takeNumber_109 (ar : Nat → Nat → Int32)  (v2 : Int32) (v3 : Int32) (fi : Nat → Int32) : Option (Int32 × (Nat → Int32)) := bind1 (f_X3_blame fi 2 v2) (fun fi_1 => some (v3, fi_1))
def f_X3_takeNumber_76 (ar : Nat → Nat → Int32)  (v1 : Int32) (v2 : Int32) (v3 : Int32) (fi : Nat → Int32) : Option (Int32 × (Nat → Int32)) := bindv (((fi 12) - v2) : Int32) (fun x_3 => if (x_3 = 0 : Prop) then (bind1 (f_X3_blame fi 1 v2) (fun fi_7 => some (v3, fi_7))) else (if (2 < x_3 : Prop) then (f_X3_takeNumber_109 ar v2 v3 fi) else (if (v3 ≤ v1 : Prop) then (some (v3, fi)) else (f_X3_takeNumber_109 ar v2 v3 fi))))
def f_X3_takeNumber_11 (ar : Nat → Nat → Int32)  : Nat → (Int32) → (Int32) → (Int32) → (Nat → Int32) → Option (Int32 × (Nat → Int32))
  | 0, _, _, _, _ => none
  | n + 1, v1, v2, v3, fi => if ((fi 9) ≤ (fi 12) : Prop) then (f_X3_takeNumber_76 ar v1 v2 v3 fi) else (gd (fi 12) 120 (bindv (f_X8_within (ar 3 (Int32.toNatClampNeg (fi 12))) 48 57) (fun r_11 => if (r_11 = 0 : Prop) then (f_X3_takeNumber_76 ar v1 v2 v3 fi) else (gd (fi 12) 120 (bindv (((((10 * v3) + (ar 3 (Int32.toNatClampNeg (fi 12)))) - 48) - (((10 * v3) + (ar 3 (Int32.toNatClampNeg (fi 12)))) - 48) / 1000 * 1000) : Int32) (fun x_15 => bindv (upd fi 12 ((fi 12) + 1)) (fun fi_16 => (f_X3_takeNumber_11 ar n) v1 v2 x_15 fi_16)))))))
def f_X3_takeNumber (fi : Nat → Int32) (ar : Nat → Nat → Int32) (v1 : Int32) : Option (Int32 × (Nat → Int32)) := bind1 (f_X3_skipBlanks fi ar) (fun fi_17 => bindv ((fi_17 12) : Int32) (fun x_19 => f_X3_takeNumber_11 ar 5000 v1 x_19 0 fi_17))
set_option maxHeartbeats 4000000 in
set_option maxRecDepth 100000 in
theorem c_X3_takeNumber (l : Launch) (D : va_G) (ca : Nat → ClassId) (ak av ad : Nat → Nat) (fi : Nat → Int32) (fl : Nat → Int64) (ar : Nat → Nat → Int32) (v1 : Int32) {r0 : Int32} {fi0 : Nat → Int32} (hf : f_X3_takeNumber fi ar v1 = some (r0, fi0)) : MtI l yX3_takeNumber cX3_takeNumber 5 { frames := 1, cells := 0, slots := 0, locals := 22 } (EC D ca ak av) [.ref (ad 2), .int v1] (wC ad ca fi fl ar) (wC ad ca fi0 fl ar) r0 := by
  refine MtI.of (own := RX3) (by decide +kernel) rfl (Nat.le_of_ble_eq_true rfl) ?_
  intro p e s m args below meth c A B hr hk w ls hl
  have hx := B.1.1
  have hb := B.1.2.1
  have hown := B.1.2.2.2.1
  have hts := B.1.2.2.2.2
  have hl : lv_has ls 5 [(0, .ref (ad 2)), (1, .int v1)] := hl
  have J109 : ∀ (v2 : Int32) (v3 : Int32) (fi : Nat → Int32) (H : Heap) (locs : List Loc) (ls : Array Slot), Wd (EC D ca ak av) A s (wC ad ca fi fl ar) H locs → lv_has ls 5 [(0, .ref (ad 2)), (2, .int v2), (3, .int v3)] → f_X3_takeNumber_109 ar v2 v3 fi = some (r0, fi0) → W p l e ({ frames := 1, cells := 0, slots := 0, locals := 22 } : Room) s m args below meth c H locs 0 0 (MQ below (Qi (EC D ca ak av) A (wC ad ca fi0 fl ar) r0) args s 0 0 A) (F0 m 109 ls []) := by
    intro  v2 v3 fi H locs ls w hl hf
    unfold f_X3_takeNumber_109 at hf
    refine lv_aload_n hx hb dX3_takeNumber_109 rfl (lv_at hl 0 rfl) ?_
    refine lv_iconst (v := 2) hx hb dX3_takeNumber_110 (by decide) ?_
    refine lv_iload_n hx hb dX3_takeNumber_111 rfl (lv_at hl 1 rfl) ?_
    obtain ⟨fi_1, er_2, hf⟩ := bind1_eq hf
    refine callVV (As := [.int 2, .int v2]) (rest := []) B w (c_X3_blame l D ca ak av ad fi fl ar 2 v2 er_2) (gV kt2_160 kt2_162 kp1_4 kt1_3 kt2_163) hdV_X3_blame 2 rfl rfl rfl rfl ⟨Nat.le_of_ble_eq_true rfl, Nat.le_of_ble_eq_true rfl⟩ rfl hl.1 rfl (Nat.le_of_ble_eq_true rfl) dX3_takeNumber_112 ⟨Nat.le_of_ble_eq_true rfl, Nat.le_of_ble_eq_true rfl⟩ (fun H locs w => ?_)
    refine lv_iload_n hx hb dX3_takeNumber_115 rfl (lv_at hl 2 rfl) ?_
    have hf : some (v3, fi_1) = some (r0, fi0) := hf
    obtain ⟨q0, q1⟩ := so2 hf
    subst q0
    subst q1
    exact retI B hr hk w dX3_takeNumber_116
  have J76 : ∀ (v1 : Int32) (v2 : Int32) (v3 : Int32) (fi : Nat → Int32) (H : Heap) (locs : List Loc) (ls : Array Slot), Wd (EC D ca ak av) A s (wC ad ca fi fl ar) H locs → lv_has ls 5 [(0, .ref (ad 2)), (1, .int v1), (2, .int v2), (3, .int v3)] → f_X3_takeNumber_76 ar v1 v2 v3 fi = some (r0, fi0) → W p l e ({ frames := 1, cells := 0, slots := 0, locals := 22 } : Room) s m args below meth c H locs 0 0 (MQ below (Qi (EC D ca ak av) A (wC ad ca fi0 fl ar) r0) args s 0 0 A) (F0 m 76 ls []) := by
    intro  v1 v2 v3 fi H locs ls w hl hf
    unfold f_X3_takeNumber_76 at hf
    refine lv_aload_n hx hb dX3_takeNumber_76 rfl (lv_at hl 0 rfl) ?_
    refine gfC_2_5 B w kt1_101 dX3_takeNumber_77 ?_
    refine lv_iload_n hx hb dX3_takeNumber_80 rfl (lv_at hl 2 rfl) ?_
    refine lv_isub (x := (fi 12)) (y := v2) hx hb dX3_takeNumber_81 ?_
    refine lv_topi (fun x_3 ex_3 => ?_)
    have hf := bindv_eq hf x_3 ex_3
    refine lv_istore (lv' := [(4, .int x_3), (0, .ref (ad 2)), (1, .int v1), (2, .int v2), (3, .int v3)]) hx hb dX3_takeNumber_82 hl (by decide) rfl (fun ls hl => ?_)
    refine lv_iload hx hb dX3_takeNumber_84 (lv_at hl 0 rfl) ?_
    refine lv_if_ne (x := x_3) (tgt := 98) hx hb dX3_takeNumber_86 (by decide) (fun c_4 => ?_) (fun c_4 => ?_)
    · have hf := if_f hf c_4
      refine lv_iload hx hb dX3_takeNumber_98 (lv_at hl 0 rfl) ?_
      refine lv_iconst (v := 2) hx hb dX3_takeNumber_100 (by decide) ?_
      refine lv_icmp_gt (x := x_3) (y := 2) (tgt := 109) hx hb dX3_takeNumber_101 (by decide) (fun c_5 => ?_) (fun c_5 => ?_)
      · have hf := if_t hf c_5
        exact J109  v2 v3 fi H locs ls w (lv_sub hl [1, 3, 4] rfl) hf
      · have hf := if_f hf c_5
        refine lv_iload_n hx hb dX3_takeNumber_104 rfl (lv_at hl 4 rfl) ?_
        refine lv_iload_n hx hb dX3_takeNumber_105 rfl (lv_at hl 2 rfl) ?_
        refine lv_icmp_le (x := v3) (y := v1) (tgt := 115) hx hb dX3_takeNumber_106 (by decide) (fun c_6 => ?_) (fun c_6 => ?_)
        · have hf := if_t hf c_6
          refine lv_iload_n hx hb dX3_takeNumber_115 rfl (lv_at hl 4 rfl) ?_
          have hf : some (v3, fi) = some (r0, fi0) := hf
          obtain ⟨q0, q1⟩ := so2 hf
          subst q0
          subst q1
          exact retI B hr hk w dX3_takeNumber_116
        · have hf := if_f hf c_6
          exact J109  v2 v3 fi H locs ls w (lv_sub hl [1, 3, 4] rfl) hf
    · have hf := if_t hf c_4
      refine lv_aload_n hx hb dX3_takeNumber_89 rfl (lv_at hl 1 rfl) ?_
      refine lv_iconst (v := 1) hx hb dX3_takeNumber_90 (by decide) ?_
      refine lv_iload_n hx hb dX3_takeNumber_91 rfl (lv_at hl 3 rfl) ?_
      obtain ⟨fi_7, er_8, hf⟩ := bind1_eq hf
      refine callVV (As := [.int 1, .int v2]) (rest := []) B w (c_X3_blame l D ca ak av ad fi fl ar 1 v2 er_8) (gV kt2_160 kt2_162 kp1_4 kt1_3 kt2_163) hdV_X3_blame 2 rfl rfl rfl rfl ⟨Nat.le_of_ble_eq_true rfl, Nat.le_of_ble_eq_true rfl⟩ rfl hl.1 rfl (Nat.le_of_ble_eq_true rfl) dX3_takeNumber_92 ⟨Nat.le_of_ble_eq_true rfl, Nat.le_of_ble_eq_true rfl⟩ (fun H locs w => ?_)
      refine lv_goto (tgt := 115) hx hb dX3_takeNumber_95 (by decide) ?_
      refine lv_iload_n hx hb dX3_takeNumber_115 rfl (lv_at hl 4 rfl) ?_
      have hf : some (v3, fi_7) = some (r0, fi0) := hf
      obtain ⟨q0, q1⟩ := so2 hf
      subst q0
      subst q1
      exact retI B hr hk w dX3_takeNumber_116
  have J11 : ∀ (n : Nat) (v1 : Int32) (v2 : Int32) (v3 : Int32) (fi : Nat → Int32) (H : Heap) (locs : List Loc) (ls : Array Slot), Wd (EC D ca ak av) A s (wC ad ca fi fl ar) H locs → lv_has ls 5 [(0, .ref (ad 2)), (1, .int v1), (2, .int v2), (3, .int v3)] → f_X3_takeNumber_11 ar n v1 v2 v3 fi = some (r0, fi0) → W p l e ({ frames := 1, cells := 0, slots := 0, locals := 22 } : Room) s m args below meth c H locs 0 0 (MQ below (Qi (EC D ca ak av) A (wC ad ca fi0 fl ar) r0) args s 0 0 A) (F0 m 11 ls []) := by
    intro  n
    induction n with
    | zero =>
      intro v1 v2 v3 fi H locs ls w hl hf
      cases hf
    | succ n ih =>
      intro v1 v2 v3 fi H locs ls w hl hf
      rw [f_X3_takeNumber_11] at hf
      refine lv_aload_n hx hb dX3_takeNumber_11 rfl (lv_at hl 0 rfl) ?_
      refine gfC_2_5 B w kt1_101 dX3_takeNumber_12 ?_
      refine lv_aload_n hx hb dX3_takeNumber_15 rfl (lv_at hl 0 rfl) ?_
      refine gfC_2_2 B w kt1_96 dX3_takeNumber_16 ?_
      refine lv_icmp_ge (x := (fi 12)) (y := (fi 9)) (tgt := 76) hx hb dX3_takeNumber_19 (by decide) (fun c_9 => ?_) (fun c_9 => ?_)
      · have hf := if_t hf c_9
        exact J76  v1 v2 v3 fi H locs ls w (lv_sub hl [0, 1, 2, 3] rfl) hf
      · have hf := if_f hf c_9
        refine lv_aload_n hx hb dX3_takeNumber_22 rfl (lv_at hl 0 rfl) ?_
        refine gfC_2_0 B w kt1_93 dX3_takeNumber_23 ?_
        refine lv_aload_n hx hb dX3_takeNumber_26 rfl (lv_at hl 0 rfl) ?_
        refine gfC_2_5 B w kt1_101 dX3_takeNumber_27 ?_
        obtain ⟨hi_10, hf⟩ := gd_eq hf
        refine alC_3 B w hi_10 dX3_takeNumber_30 ?_
        refine lv_bipush (v := 48) hx hb dX3_takeNumber_31 (by decide) ?_
        refine lv_bipush (v := 57) hx hb dX3_takeNumber_33 (by decide) ?_
        obtain ⟨r_11, er_12⟩ : ∃ y, f_X8_within (ar 3 (Int32.toNatClampNeg (fi 12))) 48 57 = y := ⟨_, rfl⟩
        have hf := bindv_eq hf r_11 er_12.symm
        refine callNZ (As := [.int (ar 3 (Int32.toNatClampNeg (fi 12))), .int 48, .int 57]) (rest := []) B w (c_X8_within l _ (ar 3 (Int32.toNatClampNeg (fi 12))) 48 57 er_12) (gN kt2_74) (by decide) kt1_1 kt2_73 hdS_X8_within rfl rfl ⟨Nat.le_of_ble_eq_true rfl, Nat.le_of_ble_eq_true rfl⟩ rfl hl.1 rfl (Nat.le_of_ble_eq_true rfl) dX3_takeNumber_35 ⟨Nat.le_of_ble_eq_true rfl, Nat.le_of_ble_eq_true rfl⟩ (fun H locs w hzr_11 => ?_)
        refine lv_if_eq (x := r_11) (tgt := 76) hx hb dX3_takeNumber_38 (by decide) (fun c_13 => ?_) (fun c_13 => ?_)
        · have hf := if_t hf c_13
          exact J76  v1 v2 v3 fi H locs ls w (lv_sub hl [0, 1, 2, 3] rfl) hf
        · have hf := if_f hf c_13
          refine lv_bipush (v := 10) hx hb dX3_takeNumber_41 (by decide) ?_
          refine lv_iload_n hx hb dX3_takeNumber_43 rfl (lv_at hl 3 rfl) ?_
          refine lv_imul (x := 10) (y := v3) hx hb dX3_takeNumber_44 ?_
          refine lv_aload_n hx hb dX3_takeNumber_45 rfl (lv_at hl 0 rfl) ?_
          refine gfC_2_0 B w kt1_93 dX3_takeNumber_46 ?_
          refine lv_aload_n hx hb dX3_takeNumber_49 rfl (lv_at hl 0 rfl) ?_
          refine gfC_2_5 B w kt1_101 dX3_takeNumber_50 ?_
          obtain ⟨hi_14, hf⟩ := gd_eq hf
          refine alC_3 B w hi_14 dX3_takeNumber_53 ?_
          refine lv_iadd (x := (10 * v3)) (y := (ar 3 (Int32.toNatClampNeg (fi 12)))) hx hb dX3_takeNumber_54 ?_
          refine lv_bipush (v := 48) hx hb dX3_takeNumber_55 (by decide) ?_
          refine lv_isub (x := ((10 * v3) + (ar 3 (Int32.toNatClampNeg (fi 12))))) (y := 48) hx hb dX3_takeNumber_57 ?_
          refine lv_sipush (v := 1000) hx hb dX3_takeNumber_58 (by decide) ?_
          refine lv_irem (x := (((10 * v3) + (ar 3 (Int32.toNatClampNeg (fi 12)))) - 48)) (y := 1000) hx hb dX3_takeNumber_61 (by decide) ?_
          refine lv_topi (fun x_15 ex_15 => ?_)
          have hf := bindv_eq hf x_15 ex_15
          refine lv_istore_n (lv' := [(3, .int x_15), (0, .ref (ad 2)), (1, .int v1), (2, .int v2)]) hx hb dX3_takeNumber_62 rfl hl (by decide) rfl (fun ls hl => ?_)
          refine lv_aload_n hx hb dX3_takeNumber_63 rfl (lv_at hl 1 rfl) ?_
          refine lv_dup hx hb dX3_takeNumber_64 rfl ?_
          refine gfC_2_5 B w kt1_101 dX3_takeNumber_65 ?_
          refine lv_iconst (v := 1) hx hb dX3_takeNumber_68 (by decide) ?_
          refine lv_iadd (x := (fi 12)) (y := 1) hx hb dX3_takeNumber_69 ?_
          refine pfC_2_5 (v := ((fi 12) + 1)) B w kt1_101 dX3_takeNumber_70 (fun H locs fi_16 efi_16 w => ?_)
          have hf := bindv_eq hf fi_16 efi_16
          refine lv_goto (tgt := 11) hx hb dX3_takeNumber_73 (by decide) ?_
          exact ih v1 v2 x_15 fi_16 H locs ls w (lv_sub hl [1, 2, 3, 0] rfl) hf
  unfold f_X3_takeNumber at hf
  refine (show ∀ (H : Heap) (locs : List Loc), Wd (EC D ca ak av) A s (wC ad ca fi fl ar) H locs → W p l e ({ frames := 1, cells := 0, slots := 0, locals := 22 } : Room) s m args below meth c H locs 0 0 (MQ below (Qi (EC D ca ak av) A (wC ad ca fi0 fl ar) r0) args s 0 0 A) (F0 m 0 ls []) from ?_) s.heap [] w
  intro H locs w
  refine lv_aload_n hx hb dX3_takeNumber_0 rfl (lv_at hl 0 rfl) ?_
  obtain ⟨fi_17, er_18, hf⟩ := bind1_eq hf
  refine callVV (As := []) (rest := []) B w (c_X3_skipBlanks l D ca ak av ad fi fl ar  er_18) (gV kt2_88 kt2_90 kp1_0 kt1_3 kt2_91) hdV_X3_skipBlanks 2 rfl rfl rfl rfl ⟨Nat.le_of_ble_eq_true rfl, Nat.le_of_ble_eq_true rfl⟩ rfl hl.1 rfl (Nat.le_of_ble_eq_true rfl) dX3_takeNumber_1 ⟨Nat.le_of_ble_eq_true rfl, Nat.le_of_ble_eq_true rfl⟩ (fun H locs w => ?_)
  refine lv_aload_n hx hb dX3_takeNumber_4 rfl (lv_at hl 0 rfl) ?_
  refine gfC_2_5 B w kt1_101 dX3_takeNumber_5 ?_
  refine lv_topi (fun x_19 ex_19 => ?_)
  have hf := bindv_eq hf x_19 ex_19
  refine lv_istore_n (lv' := [(2, .int x_19), (0, .ref (ad 2)), (1, .int v1)]) hx hb dX3_takeNumber_8 rfl hl (by decide) rfl (fun ls hl => ?_)
  refine lv_iconst (v := 0) hx hb dX3_takeNumber_9 (by decide) ?_
  refine lv_istore_n (lv' := [(3, .int 0), (2, .int x_19), (0, .ref (ad 2)), (1, .int v1)]) hx hb dX3_takeNumber_10 rfl hl (by decide) rfl (fun ls hl => ?_)
  exact J11  5000 v1 x_19 0 fi_17 H locs ls w (lv_sub hl [2, 3, 1, 0] rfl) hf
def f_X3_takeSet_56 (ar : Nat → Nat → Int32) (s2 : Nat) (s3 : Nat) (k6 : Int32 → Int32 → Int32 → (Nat → Int32) → Option (Int32 × (Nat → Int32))) (v1 : Int32) (v4 : Int32) (v5 : Int32) (fi : Nat → Int32) : Option (Int32 × (Nat → Int32)) := bindv (v5 + 1 : Int32) (fun x_1 => k6 v1 v4 x_1 fi)
def f_X3_takeSet_6 (ar : Nat → Nat → Int32) (s2 : Nat) (s3 : Nat)  : Nat → (Int32) → (Int32) → (Int32) → (Nat → Int32) → Option (Int32 × (Nat → Int32))
  | 0, _, _, _, _ => none
  | n + 1, v1, v4, v5, fi => if (v1 ≤ v5 : Prop) then (some (v4, fi)) else (if ((fi 11) = 0 : Prop) then (bind2 (f_X3_takeWord fi ar s3) (fun r_4 fi_5 => if (r_4 = 0 : Prop) then (bind2 (f_X3_takeWord fi_5 ar s2) (fun r_8 fi_9 => if (r_8 = 0 : Prop) then (bind1 (f_X3_blame fi_9 1 (fi_9 12)) (fun fi_12 => f_X3_takeSet_56 ar s2 s3 (f_X3_takeSet_6 ar s2 s3 n) v1 v4 v5 fi_12)) else (f_X3_takeSet_56 ar s2 s3 (f_X3_takeSet_6 ar s2 s3 n) v1 v4 v5 fi_9))) else (bindv ((v4 ||| ((1 : Int32) <<< (v5 &&& 31))) : Int32) (fun x_14 => f_X3_takeSet_56 ar s2 s3 (f_X3_takeSet_6 ar s2 s3 n) v1 x_14 v5 fi_5)))) else (some (v4, fi)))
def f_X3_takeSet (fi : Nat → Int32) (ar : Nat → Nat → Int32) (v1 : Int32) (s2 : Nat) (s3 : Nat) : Option (Int32 × (Nat → Int32)) := f_X3_takeSet_6 ar s2 s3 5000 v1 0 0 fi
set_option maxHeartbeats 4000000 in
set_option maxRecDepth 100000 in
theorem c_X3_takeSet (l : Launch) (D : va_G) (ca : Nat → ClassId) (ak av ad : Nat → Nat) (fi : Nat → Int32) (fl : Nat → Int64) (ar : Nat → Nat → Int32) (v1 : Int32) (s2 : Nat) (s3 : Nat) {r0 : Int32} {fi0 : Nat → Int32} (hf : f_X3_takeSet fi ar v1 s2 s3 = some (r0, fi0)) (hs2 : s2 < 12) (hs3 : s3 < 12) : MtI l yX3_takeSet cX3_takeSet 6 { frames := 6, cells := 0, slots := 0, locals := 164 } (EC D ca ak av) [.ref (ad 2), .int v1, .ref (ak s2), .ref (ak s3)] (wC ad ca fi fl ar) (wC ad ca fi0 fl ar) r0 := by
  refine MtI.of (own := RX3) (by decide +kernel) rfl (Nat.le_of_ble_eq_true rfl) ?_
  intro p e s m args below meth c A B hr hk w ls hl
  have hx := B.1.1
  have hb := B.1.2.1
  have hown := B.1.2.2.2.1
  have hts := B.1.2.2.2.2
  have hl : lv_has ls 6 [(0, .ref (ad 2)), (1, .int v1), (2, .ref (ak s2)), (3, .ref (ak s3))] := hl
  have J56 : ∀ (k6 : Int32 → Int32 → Int32 → (Nat → Int32) → Option (Int32 × (Nat → Int32))) (hk6 : ∀ (v1 : Int32) (v4 : Int32) (v5 : Int32) (fi : Nat → Int32) (H : Heap) (locs : List Loc) (ls : Array Slot), Wd (EC D ca ak av) A s (wC ad ca fi fl ar) H locs → lv_has ls 6 [(0, .ref (ad 2)), (1, .int v1), (2, .ref (ak s2)), (3, .ref (ak s3)), (4, .int v4), (5, .int v5)] → k6 v1 v4 v5 fi = some (r0, fi0) → W p l e ({ frames := 6, cells := 0, slots := 0, locals := 164 } : Room) s m args below meth c H locs 0 0 (MQ below (Qi (EC D ca ak av) A (wC ad ca fi0 fl ar) r0) args s 0 0 A) (F0 m 6 ls [])) (v1 : Int32) (v4 : Int32) (v5 : Int32) (fi : Nat → Int32) (H : Heap) (locs : List Loc) (ls : Array Slot), Wd (EC D ca ak av) A s (wC ad ca fi fl ar) H locs → lv_has ls 6 [(0, .ref (ad 2)), (1, .int v1), (2, .ref (ak s2)), (3, .ref (ak s3)), (4, .int v4), (5, .int v5)] → f_X3_takeSet_56 ar s2 s3 k6 v1 v4 v5 fi = some (r0, fi0) → W p l e ({ frames := 6, cells := 0, slots := 0, locals := 164 } : Room) s m args below meth c H locs 0 0 (MQ below (Qi (EC D ca ak av) A (wC ad ca fi0 fl ar) r0) args s 0 0 A) (F0 m 56 ls []) := by
    intro k6 hk6 v1 v4 v5 fi H locs ls w hl hf
    unfold f_X3_takeSet_56 at hf
    obtain ⟨x_1, ex_1⟩ : ∃ y : Int32, y = v5 + 1 := ⟨_, rfl⟩
    have hf := bindv_eq hf x_1 ex_1
    refine lv_iinc (v := x_1) (lv' := [(5, .int x_1), (0, .ref (ad 2)), (1, .int v1), (2, .ref (ak s2)), (3, .ref (ak s3)), (4, .int v4)]) hx hb dX3_takeSet_56 hl (k := 5) rfl (by rw [ex_1]; rfl) (by decide) rfl (fun ls hl => ?_)
    refine lv_goto (tgt := 6) hx hb dX3_takeSet_59 (by decide) ?_
    exact hk6 v1 v4 x_1 fi H locs ls w (lv_sub hl [1, 2, 3, 4, 5, 0] rfl) hf
  have J6 : ∀ (n : Nat) (v1 : Int32) (v4 : Int32) (v5 : Int32) (fi : Nat → Int32) (H : Heap) (locs : List Loc) (ls : Array Slot), Wd (EC D ca ak av) A s (wC ad ca fi fl ar) H locs → lv_has ls 6 [(0, .ref (ad 2)), (1, .int v1), (2, .ref (ak s2)), (3, .ref (ak s3)), (4, .int v4), (5, .int v5)] → f_X3_takeSet_6 ar s2 s3 n v1 v4 v5 fi = some (r0, fi0) → W p l e ({ frames := 6, cells := 0, slots := 0, locals := 164 } : Room) s m args below meth c H locs 0 0 (MQ below (Qi (EC D ca ak av) A (wC ad ca fi0 fl ar) r0) args s 0 0 A) (F0 m 6 ls []) := by
    intro  n
    induction n with
    | zero =>
      intro v1 v4 v5 fi H locs ls w hl hf
      cases hf
    | succ n ih =>
      intro v1 v4 v5 fi H locs ls w hl hf
      rw [f_X3_takeSet_6] at hf
      refine lv_iload hx hb dX3_takeSet_6 (lv_at hl 5 rfl) ?_
      refine lv_iload_n hx hb dX3_takeSet_8 rfl (lv_at hl 1 rfl) ?_
      refine lv_icmp_ge (x := v5) (y := v1) (tgt := 62) hx hb dX3_takeSet_9 (by decide) (fun c_2 => ?_) (fun c_2 => ?_)
      · have hf := if_t hf c_2
        refine lv_iload hx hb dX3_takeSet_62 (lv_at hl 4 rfl) ?_
        have hf : some (v4, fi) = some (r0, fi0) := hf
        obtain ⟨q0, q1⟩ := so2 hf
        subst q0
        subst q1
        exact retI B hr hk w dX3_takeSet_64
      · have hf := if_f hf c_2
        refine lv_aload_n hx hb dX3_takeSet_12 rfl (lv_at hl 0 rfl) ?_
        refine gfC_2_4 B w kt1_100 dX3_takeSet_13 ?_
        refine lv_if_ne (x := (fi 11)) (tgt := 62) hx hb dX3_takeSet_16 (by decide) (fun c_3 => ?_) (fun c_3 => ?_)
        · have hf := if_f hf c_3
          refine lv_iload hx hb dX3_takeSet_62 (lv_at hl 4 rfl) ?_
          have hf : some (v4, fi) = some (r0, fi0) := hf
          obtain ⟨q0, q1⟩ := so2 hf
          subst q0
          subst q1
          exact retI B hr hk w dX3_takeSet_64
        · have hf := if_t hf c_3
          refine lv_aload_n hx hb dX3_takeSet_19 rfl (lv_at hl 0 rfl) ?_
          refine lv_aload_n hx hb dX3_takeSet_20 rfl (lv_at hl 3 rfl) ?_
          obtain ⟨r_4, fi_5, er_6, hf⟩ := bind2_eq hf
          refine callVZ (As := [.ref (ak s3)]) (rest := []) B w (c_X3_takeWord l D ca ak av ad fi fl ar s3 er_6 hs3) (gV kt2_101 kt2_103 kp1_3 kt1_3 kt2_104) hdV_X3_takeWord 2 rfl rfl rfl rfl ⟨Nat.le_of_ble_eq_true rfl, Nat.le_of_ble_eq_true rfl⟩ rfl hl.1 rfl (Nat.le_of_ble_eq_true rfl) dX3_takeSet_21 ⟨Nat.le_of_ble_eq_true rfl, Nat.le_of_ble_eq_true rfl⟩ (fun H locs w hzr_4 => ?_)
          refine lv_if_eq (x := r_4) (tgt := 39) hx hb dX3_takeSet_24 (by decide) (fun c_7 => ?_) (fun c_7 => ?_)
          · have hf := if_t hf c_7
            refine lv_aload_n hx hb dX3_takeSet_39 rfl (lv_at hl 0 rfl) ?_
            refine lv_aload_n hx hb dX3_takeSet_40 rfl (lv_at hl 2 rfl) ?_
            obtain ⟨r_8, fi_9, er_10, hf⟩ := bind2_eq hf
            refine callVZ (As := [.ref (ak s2)]) (rest := []) B w (c_X3_takeWord l D ca ak av ad fi_5 fl ar s2 er_10 hs2) (gV kt2_101 kt2_103 kp1_3 kt1_3 kt2_104) hdV_X3_takeWord 2 rfl rfl rfl rfl ⟨Nat.le_of_ble_eq_true rfl, Nat.le_of_ble_eq_true rfl⟩ rfl hl.1 rfl (Nat.le_of_ble_eq_true rfl) dX3_takeSet_41 ⟨Nat.le_of_ble_eq_true rfl, Nat.le_of_ble_eq_true rfl⟩ (fun H locs w hzr_8 => ?_)
            refine lv_if_ne (x := r_8) (tgt := 56) hx hb dX3_takeSet_44 (by decide) (fun c_11 => ?_) (fun c_11 => ?_)
            · have hf := if_f hf c_11
              exact J56 _ ih v1 v4 v5 fi_9 H locs ls w (lv_sub hl [0, 1, 2, 3, 4, 5] rfl) hf
            · have hf := if_t hf c_11
              refine lv_aload_n hx hb dX3_takeSet_47 rfl (lv_at hl 0 rfl) ?_
              refine lv_iconst (v := 1) hx hb dX3_takeSet_48 (by decide) ?_
              refine lv_aload_n hx hb dX3_takeSet_49 rfl (lv_at hl 0 rfl) ?_
              refine gfC_2_5 B w kt1_101 dX3_takeSet_50 ?_
              obtain ⟨fi_12, er_13, hf⟩ := bind1_eq hf
              refine callVV (As := [.int 1, .int (fi_9 12)]) (rest := []) B w (c_X3_blame l D ca ak av ad fi_9 fl ar 1 (fi_9 12) er_13) (gV kt2_160 kt2_162 kp1_4 kt1_3 kt2_163) hdV_X3_blame 2 rfl rfl rfl rfl ⟨Nat.le_of_ble_eq_true rfl, Nat.le_of_ble_eq_true rfl⟩ rfl hl.1 rfl (Nat.le_of_ble_eq_true rfl) dX3_takeSet_53 ⟨Nat.le_of_ble_eq_true rfl, Nat.le_of_ble_eq_true rfl⟩ (fun H locs w => ?_)
              exact J56 _ ih v1 v4 v5 fi_12 H locs ls w (lv_sub hl [0, 1, 2, 3, 4, 5] rfl) hf
          · have hf := if_f hf c_7
            refine lv_iload hx hb dX3_takeSet_27 (lv_at hl 4 rfl) ?_
            refine lv_iconst (v := 1) hx hb dX3_takeSet_29 (by decide) ?_
            refine lv_iload hx hb dX3_takeSet_30 (lv_at hl 5 rfl) ?_
            refine lv_ishl (x := 1) (y := v5) hx hb dX3_takeSet_32 ?_
            refine lv_ior (x := v4) (y := ((1 : Int32) <<< (v5 &&& 31))) hx hb dX3_takeSet_33 ?_
            refine lv_topi (fun x_14 ex_14 => ?_)
            have hf := bindv_eq hf x_14 ex_14
            refine lv_istore (lv' := [(4, .int x_14), (0, .ref (ad 2)), (1, .int v1), (2, .ref (ak s2)), (3, .ref (ak s3)), (5, .int v5)]) hx hb dX3_takeSet_34 hl (by decide) rfl (fun ls hl => ?_)
            refine lv_goto (tgt := 56) hx hb dX3_takeSet_36 (by decide) ?_
            exact J56 _ ih v1 x_14 v5 fi_5 H locs ls w (lv_sub hl [1, 2, 3, 4, 0, 5] rfl) hf
  unfold f_X3_takeSet at hf
  refine (show ∀ (H : Heap) (locs : List Loc), Wd (EC D ca ak av) A s (wC ad ca fi fl ar) H locs → W p l e ({ frames := 6, cells := 0, slots := 0, locals := 164 } : Room) s m args below meth c H locs 0 0 (MQ below (Qi (EC D ca ak av) A (wC ad ca fi0 fl ar) r0) args s 0 0 A) (F0 m 0 ls []) from ?_) s.heap [] w
  intro H locs w
  refine lv_iconst (v := 0) hx hb dX3_takeSet_0 (by decide) ?_
  refine lv_istore (lv' := [(4, .int 0), (0, .ref (ad 2)), (1, .int v1), (2, .ref (ak s2)), (3, .ref (ak s3))]) hx hb dX3_takeSet_1 hl (by decide) rfl (fun ls hl => ?_)
  refine lv_iconst (v := 0) hx hb dX3_takeSet_3 (by decide) ?_
  refine lv_istore (lv' := [(5, .int 0), (4, .int 0), (0, .ref (ad 2)), (1, .int v1), (2, .ref (ak s2)), (3, .ref (ak s3))]) hx hb dX3_takeSet_4 hl (by decide) rfl (fun ls hl => ?_)
  exact J6  5000 v1 0 0 fi H locs ls w (lv_sub hl [2, 3, 4, 5, 1, 0] rfl) hf
def f_X3_takeBody (fi : Nat → Int32) (ar : Nat → Nat → Int32) (v1 : Int32) : Option ((Nat → Int32)) := if (v1 = 0 : Prop) then (bind2 (f_X3_takeNumber fi ar 99) (fun r_2 fi_3 => bindv (upd fi_3 14 r_2) (fun fi_5 => some fi_5))) else (if (v1 = 1 : Prop) then (bind2 (f_X3_takeNumber fi ar 99) (fun r_7 fi_8 => bindv (upd fi_8 15 r_7) (fun fi_10 => some fi_10))) else (if (v1 = 2 : Prop) then (bind2 (f_X3_takeNumber fi ar 50) (fun r_12 fi_13 => bindv (upd fi_13 16 r_12) (fun fi_15 => some fi_15))) else (if (v1 = 3 : Prop) then (bind2 (f_X3_takeNumber fi ar 50) (fun r_17 fi_18 => bindv (upd fi_18 17 r_17) (fun fi_20 => some fi_20))) else (if (v1 = 4 : Prop) then (bind2 (f_X3_takeNumber fi ar 99) (fun r_22 fi_23 => bindv (upd fi_23 18 r_22) (fun fi_25 => if ((fi_25 11) = 0 : Prop) then (bind2 (f_X3_takeWord fi_25 ar 7) (fun r_27 fi_28 => if (r_27 = 0 : Prop) then (some fi_28) else (bind2 (f_X3_takeNumber fi_28 ar 1) (fun r_31 fi_32 => bindv (upd fi_32 19 r_31) (fun fi_34 => some fi_34))))) else (some fi_25)))) else (if (v1 = 5 : Prop) then (bind2 (f_X3_takeSet fi ar 4 8 9) (fun r_36 fi_37 => bindv (upd fi_37 20 r_36) (fun fi_39 => some fi_39))) else (bind2 (f_X3_takeSet fi ar 8 10 11) (fun r_40 fi_41 => bindv (upd fi_41 21 r_40) (fun fi_43 => some fi_43))))))))
set_option maxHeartbeats 4000000 in
set_option maxRecDepth 100000 in
theorem c_X3_takeBody (l : Launch) (D : va_G) (ca : Nat → ClassId) (ak av ad : Nat → Nat) (fi : Nat → Int32) (fl : Nat → Int64) (ar : Nat → Nat → Int32) (v1 : Int32) {fi0 : Nat → Int32} (hf : f_X3_takeBody fi ar v1 = some fi0) : MtV l yX3_takeBody cX3_takeBody 2 { frames := 7, cells := 0, slots := 0, locals := 189 } (EC D ca ak av) [.ref (ad 2), .int v1] (wC ad ca fi fl ar) (wC ad ca fi0 fl ar) := by
  refine MtV.of (own := RX3) (by decide +kernel) rfl (Nat.le_of_ble_eq_true rfl) ?_
  intro p e s m args below meth c A B hr hk w ls hl
  have hx := B.1.1
  have hb := B.1.2.1
  have hown := B.1.2.2.2.1
  have hts := B.1.2.2.2.2
  have hl : lv_has ls 2 [(0, .ref (ad 2)), (1, .int v1)] := hl
  unfold f_X3_takeBody at hf
  refine (show ∀ (H : Heap) (locs : List Loc), Wd (EC D ca ak av) A s (wC ad ca fi fl ar) H locs → W p l e ({ frames := 7, cells := 0, slots := 0, locals := 189 } : Room) s m args below meth c H locs 0 0 (MQ below (Qv (EC D ca ak av) A (wC ad ca fi0 fl ar)) args s 0 0 A) (F0 m 0 ls []) from ?_) s.heap [] w
  intro H locs w
  refine lv_iload_n hx hb dX3_takeBody_0 rfl (lv_at hl 1 rfl) ?_
  by_cases c_1 : v1 = 0
  · have hf := if_t hf c_1
    refine lv_tableIn (tgt := 40) (off := 39) hx hb dX3_takeBody_1 (by rw [c_1]; decide) (by rw [c_1]; decide) (by rw [c_1]; decide) (by decide) ?_
    refine lv_aload_n hx hb dX3_takeBody_40 rfl (lv_at hl 0 rfl) ?_
    refine gfC_2_1 B w kt1_94 dX3_takeBody_41 ?_
    refine lv_aload_n hx hb dX3_takeBody_44 rfl (lv_at hl 0 rfl) ?_
    refine lv_bipush (v := 99) hx hb dX3_takeBody_45 (by decide) ?_
    obtain ⟨r_2, fi_3, er_4, hf⟩ := bind2_eq hf
    refine callVI (As := [.int 99]) (rest := [.ref (ad 4)]) B w (c_X3_takeNumber l D ca ak av ad fi fl ar 99 er_4) (gV kt2_171 kt2_173 kp1_6 kt1_3 kt2_174) hdV_X3_takeNumber 2 rfl rfl rfl rfl ⟨Nat.le_of_ble_eq_true rfl, Nat.le_of_ble_eq_true rfl⟩ rfl hl.1 rfl (Nat.le_of_ble_eq_true rfl) dX3_takeBody_47 ⟨Nat.le_of_ble_eq_true rfl, Nat.le_of_ble_eq_true rfl⟩ (fun H locs w => ?_)
    refine pfC_4_0 (v := r_2) B w kt1_39 dX3_takeBody_50 (fun H locs fi_5 efi_5 w => ?_)
    have hf := bindv_eq hf fi_5 efi_5
    refine lv_goto (tgt := 184) hx hb dX3_takeBody_53 (by decide) ?_
    have hf : some fi_5 = some fi0 := hf
    have q0 := so1 hf
    subst q0
    exact retV B hr hk w dX3_takeBody_184
  · have hf := if_f hf c_1
    by_cases c_6 : v1 = 1
    · have hf := if_t hf c_6
      refine lv_tableIn (tgt := 56) (off := 55) hx hb dX3_takeBody_1 (by rw [c_6]; decide) (by rw [c_6]; decide) (by rw [c_6]; decide) (by decide) ?_
      refine lv_aload_n hx hb dX3_takeBody_56 rfl (lv_at hl 0 rfl) ?_
      refine gfC_2_1 B w kt1_94 dX3_takeBody_57 ?_
      refine lv_aload_n hx hb dX3_takeBody_60 rfl (lv_at hl 0 rfl) ?_
      refine lv_bipush (v := 99) hx hb dX3_takeBody_61 (by decide) ?_
      obtain ⟨r_7, fi_8, er_9, hf⟩ := bind2_eq hf
      refine callVI (As := [.int 99]) (rest := [.ref (ad 4)]) B w (c_X3_takeNumber l D ca ak av ad fi fl ar 99 er_9) (gV kt2_171 kt2_173 kp1_6 kt1_3 kt2_174) hdV_X3_takeNumber 2 rfl rfl rfl rfl ⟨Nat.le_of_ble_eq_true rfl, Nat.le_of_ble_eq_true rfl⟩ rfl hl.1 rfl (Nat.le_of_ble_eq_true rfl) dX3_takeBody_63 ⟨Nat.le_of_ble_eq_true rfl, Nat.le_of_ble_eq_true rfl⟩ (fun H locs w => ?_)
      refine pfC_4_1 (v := r_7) B w kt1_43 dX3_takeBody_66 (fun H locs fi_10 efi_10 w => ?_)
      have hf := bindv_eq hf fi_10 efi_10
      refine lv_goto (tgt := 184) hx hb dX3_takeBody_69 (by decide) ?_
      have hf : some fi_10 = some fi0 := hf
      have q0 := so1 hf
      subst q0
      exact retV B hr hk w dX3_takeBody_184
    · have hf := if_f hf c_6
      by_cases c_11 : v1 = 2
      · have hf := if_t hf c_11
        refine lv_tableIn (tgt := 72) (off := 71) hx hb dX3_takeBody_1 (by rw [c_11]; decide) (by rw [c_11]; decide) (by rw [c_11]; decide) (by decide) ?_
        refine lv_aload_n hx hb dX3_takeBody_72 rfl (lv_at hl 0 rfl) ?_
        refine gfC_2_1 B w kt1_94 dX3_takeBody_73 ?_
        refine lv_aload_n hx hb dX3_takeBody_76 rfl (lv_at hl 0 rfl) ?_
        refine lv_bipush (v := 50) hx hb dX3_takeBody_77 (by decide) ?_
        obtain ⟨r_12, fi_13, er_14, hf⟩ := bind2_eq hf
        refine callVI (As := [.int 50]) (rest := [.ref (ad 4)]) B w (c_X3_takeNumber l D ca ak av ad fi fl ar 50 er_14) (gV kt2_171 kt2_173 kp1_6 kt1_3 kt2_174) hdV_X3_takeNumber 2 rfl rfl rfl rfl ⟨Nat.le_of_ble_eq_true rfl, Nat.le_of_ble_eq_true rfl⟩ rfl hl.1 rfl (Nat.le_of_ble_eq_true rfl) dX3_takeBody_79 ⟨Nat.le_of_ble_eq_true rfl, Nat.le_of_ble_eq_true rfl⟩ (fun H locs w => ?_)
        refine pfC_4_2 (v := r_12) B w kt1_47 dX3_takeBody_82 (fun H locs fi_15 efi_15 w => ?_)
        have hf := bindv_eq hf fi_15 efi_15
        refine lv_goto (tgt := 184) hx hb dX3_takeBody_85 (by decide) ?_
        have hf : some fi_15 = some fi0 := hf
        have q0 := so1 hf
        subst q0
        exact retV B hr hk w dX3_takeBody_184
      · have hf := if_f hf c_11
        by_cases c_16 : v1 = 3
        · have hf := if_t hf c_16
          refine lv_tableIn (tgt := 88) (off := 87) hx hb dX3_takeBody_1 (by rw [c_16]; decide) (by rw [c_16]; decide) (by rw [c_16]; decide) (by decide) ?_
          refine lv_aload_n hx hb dX3_takeBody_88 rfl (lv_at hl 0 rfl) ?_
          refine gfC_2_1 B w kt1_94 dX3_takeBody_89 ?_
          refine lv_aload_n hx hb dX3_takeBody_92 rfl (lv_at hl 0 rfl) ?_
          refine lv_bipush (v := 50) hx hb dX3_takeBody_93 (by decide) ?_
          obtain ⟨r_17, fi_18, er_19, hf⟩ := bind2_eq hf
          refine callVI (As := [.int 50]) (rest := [.ref (ad 4)]) B w (c_X3_takeNumber l D ca ak av ad fi fl ar 50 er_19) (gV kt2_171 kt2_173 kp1_6 kt1_3 kt2_174) hdV_X3_takeNumber 2 rfl rfl rfl rfl ⟨Nat.le_of_ble_eq_true rfl, Nat.le_of_ble_eq_true rfl⟩ rfl hl.1 rfl (Nat.le_of_ble_eq_true rfl) dX3_takeBody_95 ⟨Nat.le_of_ble_eq_true rfl, Nat.le_of_ble_eq_true rfl⟩ (fun H locs w => ?_)
          refine pfC_4_3 (v := r_17) B w kt1_51 dX3_takeBody_98 (fun H locs fi_20 efi_20 w => ?_)
          have hf := bindv_eq hf fi_20 efi_20
          refine lv_goto (tgt := 184) hx hb dX3_takeBody_101 (by decide) ?_
          have hf : some fi_20 = some fi0 := hf
          have q0 := so1 hf
          subst q0
          exact retV B hr hk w dX3_takeBody_184
        · have hf := if_f hf c_16
          by_cases c_21 : v1 = 4
          · have hf := if_t hf c_21
            refine lv_tableIn (tgt := 104) (off := 103) hx hb dX3_takeBody_1 (by rw [c_21]; decide) (by rw [c_21]; decide) (by rw [c_21]; decide) (by decide) ?_
            refine lv_aload_n hx hb dX3_takeBody_104 rfl (lv_at hl 0 rfl) ?_
            refine gfC_2_1 B w kt1_94 dX3_takeBody_105 ?_
            refine lv_aload_n hx hb dX3_takeBody_108 rfl (lv_at hl 0 rfl) ?_
            refine lv_bipush (v := 99) hx hb dX3_takeBody_109 (by decide) ?_
            obtain ⟨r_22, fi_23, er_24, hf⟩ := bind2_eq hf
            refine callVI (As := [.int 99]) (rest := [.ref (ad 4)]) B w (c_X3_takeNumber l D ca ak av ad fi fl ar 99 er_24) (gV kt2_171 kt2_173 kp1_6 kt1_3 kt2_174) hdV_X3_takeNumber 2 rfl rfl rfl rfl ⟨Nat.le_of_ble_eq_true rfl, Nat.le_of_ble_eq_true rfl⟩ rfl hl.1 rfl (Nat.le_of_ble_eq_true rfl) dX3_takeBody_111 ⟨Nat.le_of_ble_eq_true rfl, Nat.le_of_ble_eq_true rfl⟩ (fun H locs w => ?_)
            refine pfC_4_4 (v := r_22) B w kt1_55 dX3_takeBody_114 (fun H locs fi_25 efi_25 w => ?_)
            have hf := bindv_eq hf fi_25 efi_25
            refine lv_aload_n hx hb dX3_takeBody_117 rfl (lv_at hl 0 rfl) ?_
            refine gfC_2_4 B w kt1_100 dX3_takeBody_118 ?_
            refine lv_if_ne (x := (fi_25 11)) (tgt := 184) hx hb dX3_takeBody_121 (by decide) (fun c_26 => ?_) (fun c_26 => ?_)
            · have hf := if_f hf c_26
              have hf : some fi_25 = some fi0 := hf
              have q0 := so1 hf
              subst q0
              exact retV B hr hk w dX3_takeBody_184
            · have hf := if_t hf c_26
              refine lv_aload_n hx hb dX3_takeBody_124 rfl (lv_at hl 0 rfl) ?_
              refine ldS (i := 7) B (by decide) rfl dX3_takeBody_125 ?_
              obtain ⟨r_27, fi_28, er_29, hf⟩ := bind2_eq hf
              refine callVZ (As := [.ref (ak 7)]) (rest := []) B w (c_X3_takeWord l D ca ak av ad fi_25 fl ar 7 er_29 (by decide)) (gV kt2_101 kt2_103 kp1_3 kt1_3 kt2_104) hdV_X3_takeWord 2 rfl rfl rfl rfl ⟨Nat.le_of_ble_eq_true rfl, Nat.le_of_ble_eq_true rfl⟩ rfl hl.1 rfl (Nat.le_of_ble_eq_true rfl) dX3_takeBody_127 ⟨Nat.le_of_ble_eq_true rfl, Nat.le_of_ble_eq_true rfl⟩ (fun H locs w hzr_27 => ?_)
              refine lv_if_eq (x := r_27) (tgt := 184) hx hb dX3_takeBody_130 (by decide) (fun c_30 => ?_) (fun c_30 => ?_)
              · have hf := if_t hf c_30
                have hf : some fi_28 = some fi0 := hf
                have q0 := so1 hf
                subst q0
                exact retV B hr hk w dX3_takeBody_184
              · have hf := if_f hf c_30
                refine lv_aload_n hx hb dX3_takeBody_133 rfl (lv_at hl 0 rfl) ?_
                refine gfC_2_1 B w kt1_94 dX3_takeBody_134 ?_
                refine lv_aload_n hx hb dX3_takeBody_137 rfl (lv_at hl 0 rfl) ?_
                refine lv_iconst (v := 1) hx hb dX3_takeBody_138 (by decide) ?_
                obtain ⟨r_31, fi_32, er_33, hf⟩ := bind2_eq hf
                refine callVI (As := [.int 1]) (rest := [.ref (ad 4)]) B w (c_X3_takeNumber l D ca ak av ad fi_28 fl ar 1 er_33) (gV kt2_171 kt2_173 kp1_6 kt1_3 kt2_174) hdV_X3_takeNumber 2 rfl rfl rfl rfl ⟨Nat.le_of_ble_eq_true rfl, Nat.le_of_ble_eq_true rfl⟩ rfl hl.1 rfl (Nat.le_of_ble_eq_true rfl) dX3_takeBody_139 ⟨Nat.le_of_ble_eq_true rfl, Nat.le_of_ble_eq_true rfl⟩ (fun H locs w => ?_)
                refine pfC_4_5 (v := r_31) B w kt1_59 dX3_takeBody_142 (fun H locs fi_34 efi_34 w => ?_)
                have hf := bindv_eq hf fi_34 efi_34
                refine lv_goto (tgt := 184) hx hb dX3_takeBody_145 (by decide) ?_
                have hf : some fi_34 = some fi0 := hf
                have q0 := so1 hf
                subst q0
                exact retV B hr hk w dX3_takeBody_184
          · have hf := if_f hf c_21
            by_cases c_35 : v1 = 5
            · have hf := if_t hf c_35
              refine lv_tableIn (tgt := 148) (off := 147) hx hb dX3_takeBody_1 (by rw [c_35]; decide) (by rw [c_35]; decide) (by rw [c_35]; decide) (by decide) ?_
              refine lv_aload_n hx hb dX3_takeBody_148 rfl (lv_at hl 0 rfl) ?_
              refine gfC_2_1 B w kt1_94 dX3_takeBody_149 ?_
              refine lv_aload_n hx hb dX3_takeBody_152 rfl (lv_at hl 0 rfl) ?_
              refine lv_iconst (v := 4) hx hb dX3_takeBody_153 (by decide) ?_
              refine ldS (i := 8) B (by decide) rfl dX3_takeBody_154 ?_
              refine ldS (i := 9) B (by decide) rfl dX3_takeBody_156 ?_
              obtain ⟨r_36, fi_37, er_38, hf⟩ := bind2_eq hf
              refine callVI (As := [.int 4, .ref (ak 8), .ref (ak 9)]) (rest := [.ref (ad 4)]) B w (c_X3_takeSet l D ca ak av ad fi fl ar 4 8 9 er_38 (by decide) (by decide)) (gV kt2_178 kt2_180 kp1_7 kt1_3 kt2_181) hdV_X3_takeSet 2 rfl rfl rfl rfl ⟨Nat.le_of_ble_eq_true rfl, Nat.le_of_ble_eq_true rfl⟩ rfl hl.1 rfl (Nat.le_of_ble_eq_true rfl) dX3_takeBody_158 ⟨Nat.le_of_ble_eq_true rfl, Nat.le_of_ble_eq_true rfl⟩ (fun H locs w => ?_)
              refine pfC_4_6 (v := r_36) B w kt1_62 dX3_takeBody_161 (fun H locs fi_39 efi_39 w => ?_)
              have hf := bindv_eq hf fi_39 efi_39
              refine lv_goto (tgt := 184) hx hb dX3_takeBody_164 (by decide) ?_
              have hf : some fi_39 = some fi0 := hf
              have q0 := so1 hf
              subst q0
              exact retV B hr hk w dX3_takeBody_184
            · have hf := if_f hf c_35
              have tc_1 := lv_neT c_1 (show (0 : Int32).toInt = 0 by decide)
              have tc_6 := lv_neT c_6 (show (1 : Int32).toInt = 1 by decide)
              have tc_11 := lv_neT c_11 (show (2 : Int32).toInt = 2 by decide)
              have tc_16 := lv_neT c_16 (show (3 : Int32).toInt = 3 by decide)
              have tc_21 := lv_neT c_21 (show (4 : Int32).toInt = 4 by decide)
              have tc_35 := lv_neT c_35 (show (5 : Int32).toInt = 5 by decide)
              refine lv_tableOut (tgt := 167) hx hb dX3_takeBody_1 (by omega) (by decide) ?_
              refine lv_aload_n hx hb dX3_takeBody_167 rfl (lv_at hl 0 rfl) ?_
              refine gfC_2_1 B w kt1_94 dX3_takeBody_168 ?_
              refine lv_aload_n hx hb dX3_takeBody_171 rfl (lv_at hl 0 rfl) ?_
              refine lv_bipush (v := 8) hx hb dX3_takeBody_172 (by decide) ?_
              refine ldS (i := 10) B (by decide) rfl dX3_takeBody_174 ?_
              refine ldS (i := 11) B (by decide) rfl dX3_takeBody_176 ?_
              obtain ⟨r_40, fi_41, er_42, hf⟩ := bind2_eq hf
              refine callVI (As := [.int 8, .ref (ak 10), .ref (ak 11)]) (rest := [.ref (ad 4)]) B w (c_X3_takeSet l D ca ak av ad fi fl ar 8 10 11 er_42 (by decide) (by decide)) (gV kt2_178 kt2_180 kp1_7 kt1_3 kt2_181) hdV_X3_takeSet 2 rfl rfl rfl rfl ⟨Nat.le_of_ble_eq_true rfl, Nat.le_of_ble_eq_true rfl⟩ rfl hl.1 rfl (Nat.le_of_ble_eq_true rfl) dX3_takeBody_178 ⟨Nat.le_of_ble_eq_true rfl, Nat.le_of_ble_eq_true rfl⟩ (fun H locs w => ?_)
              refine pfC_4_7 (v := r_40) B w kt1_66 dX3_takeBody_181 (fun H locs fi_43 efi_43 w => ?_)
              have hf := bindv_eq hf fi_43 efi_43
              have hf : some fi_43 = some fi0 := hf
              have q0 := so1 hf
              subst q0
              exact retV B hr hk w dX3_takeBody_184
def f_X3_takeEnd_50 (ar : Nat → Nat → Int32)  (fi : Nat → Int32) : Option ((Nat → Int32)) := bind1 (f_X3_blame fi 1 (fi 12)) (fun fi_1 => some fi_1)
def f_X3_takeEnd (fi : Nat → Int32) (ar : Nat → Nat → Int32) : Option ((Nat → Int32)) := if ((fi 11) = 0 : Prop) then (bind1 (f_X3_skipBlanks fi ar) (fun fi_4 => if ((fi_4 9) ≤ (fi_4 12) : Prop) then (f_X3_takeEnd_50 ar fi_4) else (gd (fi_4 12) 120 (if ((ar 3 (Int32.toNatClampNeg (fi_4 12))) = 59 : Prop) then (bindv (upd fi_4 12 ((fi_4 12) + 1)) (fun fi_9 => some fi_9)) else (f_X3_takeEnd_50 ar fi_4))))) else (some fi)
set_option maxHeartbeats 4000000 in
set_option maxRecDepth 100000 in
theorem c_X3_takeEnd (l : Launch) (D : va_G) (ca : Nat → ClassId) (ak av ad : Nat → Nat) (fi : Nat → Int32) (fl : Nat → Int64) (ar : Nat → Nat → Int32) {fi0 : Nat → Int32} (hf : f_X3_takeEnd fi ar = some fi0) : MtV l yX3_takeEnd cX3_takeEnd 1 { frames := 1, cells := 0, slots := 0, locals := 22 } (EC D ca ak av) [.ref (ad 2)] (wC ad ca fi fl ar) (wC ad ca fi0 fl ar) := by
  refine MtV.of (own := RX3) (by decide +kernel) rfl (Nat.le_of_ble_eq_true rfl) ?_
  intro p e s m args below meth c A B hr hk w ls hl
  have hx := B.1.1
  have hb := B.1.2.1
  have hown := B.1.2.2.2.1
  have hts := B.1.2.2.2.2
  have hl : lv_has ls 1 [(0, .ref (ad 2))] := hl
  have J50 : ∀ (fi : Nat → Int32) (H : Heap) (locs : List Loc) (ls : Array Slot), Wd (EC D ca ak av) A s (wC ad ca fi fl ar) H locs → lv_has ls 1 [(0, .ref (ad 2))] → f_X3_takeEnd_50 ar fi = some fi0 → W p l e ({ frames := 1, cells := 0, slots := 0, locals := 22 } : Room) s m args below meth c H locs 0 0 (MQ below (Qv (EC D ca ak av) A (wC ad ca fi0 fl ar)) args s 0 0 A) (F0 m 50 ls []) := by
    intro  fi H locs ls w hl hf
    unfold f_X3_takeEnd_50 at hf
    refine lv_aload_n hx hb dX3_takeEnd_50 rfl (lv_at hl 0 rfl) ?_
    refine lv_iconst (v := 1) hx hb dX3_takeEnd_51 (by decide) ?_
    refine lv_aload_n hx hb dX3_takeEnd_52 rfl (lv_at hl 0 rfl) ?_
    refine gfC_2_5 B w kt1_101 dX3_takeEnd_53 ?_
    obtain ⟨fi_1, er_2, hf⟩ := bind1_eq hf
    refine callVV (As := [.int 1, .int (fi 12)]) (rest := []) B w (c_X3_blame l D ca ak av ad fi fl ar 1 (fi 12) er_2) (gV kt2_160 kt2_162 kp1_4 kt1_3 kt2_163) hdV_X3_blame 2 rfl rfl rfl rfl ⟨Nat.le_of_ble_eq_true rfl, Nat.le_of_ble_eq_true rfl⟩ rfl hl.1 rfl (Nat.le_of_ble_eq_true rfl) dX3_takeEnd_56 ⟨Nat.le_of_ble_eq_true rfl, Nat.le_of_ble_eq_true rfl⟩ (fun H locs w => ?_)
    have hf : some fi_1 = some fi0 := hf
    have q0 := so1 hf
    subst q0
    exact retV B hr hk w dX3_takeEnd_59
  unfold f_X3_takeEnd at hf
  refine (show ∀ (H : Heap) (locs : List Loc), Wd (EC D ca ak av) A s (wC ad ca fi fl ar) H locs → W p l e ({ frames := 1, cells := 0, slots := 0, locals := 22 } : Room) s m args below meth c H locs 0 0 (MQ below (Qv (EC D ca ak av) A (wC ad ca fi0 fl ar)) args s 0 0 A) (F0 m 0 ls []) from ?_) s.heap [] w
  intro H locs w
  refine lv_aload_n hx hb dX3_takeEnd_0 rfl (lv_at hl 0 rfl) ?_
  refine gfC_2_4 B w kt1_100 dX3_takeEnd_1 ?_
  refine lv_if_eq (x := (fi 11)) (tgt := 8) hx hb dX3_takeEnd_4 (by decide) (fun c_3 => ?_) (fun c_3 => ?_)
  · have hf := if_t hf c_3
    refine lv_aload_n hx hb dX3_takeEnd_8 rfl (lv_at hl 0 rfl) ?_
    obtain ⟨fi_4, er_5, hf⟩ := bind1_eq hf
    refine callVV (As := []) (rest := []) B w (c_X3_skipBlanks l D ca ak av ad fi fl ar  er_5) (gV kt2_88 kt2_90 kp1_0 kt1_3 kt2_91) hdV_X3_skipBlanks 2 rfl rfl rfl rfl ⟨Nat.le_of_ble_eq_true rfl, Nat.le_of_ble_eq_true rfl⟩ rfl hl.1 rfl (Nat.le_of_ble_eq_true rfl) dX3_takeEnd_9 ⟨Nat.le_of_ble_eq_true rfl, Nat.le_of_ble_eq_true rfl⟩ (fun H locs w => ?_)
    refine lv_aload_n hx hb dX3_takeEnd_12 rfl (lv_at hl 0 rfl) ?_
    refine gfC_2_5 B w kt1_101 dX3_takeEnd_13 ?_
    refine lv_aload_n hx hb dX3_takeEnd_16 rfl (lv_at hl 0 rfl) ?_
    refine gfC_2_2 B w kt1_96 dX3_takeEnd_17 ?_
    refine lv_icmp_ge (x := (fi_4 12)) (y := (fi_4 9)) (tgt := 50) hx hb dX3_takeEnd_20 (by decide) (fun c_6 => ?_) (fun c_6 => ?_)
    · have hf := if_t hf c_6
      exact J50  fi_4 H locs ls w (lv_sub hl [0] rfl) hf
    · have hf := if_f hf c_6
      refine lv_aload_n hx hb dX3_takeEnd_23 rfl (lv_at hl 0 rfl) ?_
      refine gfC_2_0 B w kt1_93 dX3_takeEnd_24 ?_
      refine lv_aload_n hx hb dX3_takeEnd_27 rfl (lv_at hl 0 rfl) ?_
      refine gfC_2_5 B w kt1_101 dX3_takeEnd_28 ?_
      obtain ⟨hi_7, hf⟩ := gd_eq hf
      refine alC_3 B w hi_7 dX3_takeEnd_31 ?_
      refine lv_bipush (v := 59) hx hb dX3_takeEnd_32 (by decide) ?_
      refine lv_icmp_ne (x := (ar 3 (Int32.toNatClampNeg (fi_4 12)))) (y := 59) (tgt := 50) hx hb dX3_takeEnd_34 (by decide) (fun c_8 => ?_) (fun c_8 => ?_)
      · have hf := if_f hf c_8
        exact J50  fi_4 H locs ls w (lv_sub hl [0] rfl) hf
      · have hf := if_t hf c_8
        refine lv_aload_n hx hb dX3_takeEnd_37 rfl (lv_at hl 0 rfl) ?_
        refine lv_dup hx hb dX3_takeEnd_38 rfl ?_
        refine gfC_2_5 B w kt1_101 dX3_takeEnd_39 ?_
        refine lv_iconst (v := 1) hx hb dX3_takeEnd_42 (by decide) ?_
        refine lv_iadd (x := (fi_4 12)) (y := 1) hx hb dX3_takeEnd_43 ?_
        refine pfC_2_5 (v := ((fi_4 12) + 1)) B w kt1_101 dX3_takeEnd_44 (fun H locs fi_9 efi_9 w => ?_)
        have hf := bindv_eq hf fi_9 efi_9
        refine lv_goto (tgt := 59) hx hb dX3_takeEnd_47 (by decide) ?_
        have hf : some fi_9 = some fi0 := hf
        have q0 := so1 hf
        subst q0
        exact retV B hr hk w dX3_takeEnd_59
  · have hf := if_f hf c_3
    have hf : some fi = some fi0 := hf
    have q0 := so1 hf
    subst q0
    exact retV B hr hk w dX3_takeEnd_7
def f_X3_takeClause (fi : Nat → Int32) (ar : Nat → Nat → Int32) : Option ((Nat → Int32)) := bindv ((fi 12) : Int32) (fun x_1 => bind2 (f_X3_takeClauseWord fi ar) (fun r_2 fi_3 => if (r_2 = (-1) : Prop) then (bind1 (f_X3_blame fi_3 1 x_1) (fun fi_16 => some fi_16)) else (bindv (f_X8_bit (fi_3 13) r_2) (fun r_6 => if (r_6 = 1 : Prop) then (bind1 (f_X3_blame fi_3 3 x_1) (fun fi_14 => some fi_14)) else (bindv (upd fi_3 13 ((fi_3 13) ||| ((1 : Int32) <<< (r_2 &&& 31)))) (fun fi_9 => bind1 (f_X3_takeBody fi_9 ar r_2) (fun fi_10 => bind1 (f_X3_takeEnd fi_10 ar) (fun fi_12 => some fi_12))))))))
set_option maxHeartbeats 4000000 in
set_option maxRecDepth 100000 in
theorem c_X3_takeClause (l : Launch) (D : va_G) (ca : Nat → ClassId) (ak av ad : Nat → Nat) (fi : Nat → Int32) (fl : Nat → Int64) (ar : Nat → Nat → Int32) {fi0 : Nat → Int32} (hf : f_X3_takeClause fi ar = some fi0) : MtV l yX3_takeClause cX3_takeClause 3 { frames := 8, cells := 0, slots := 0, locals := 210 } (EC D ca ak av) [.ref (ad 2)] (wC ad ca fi fl ar) (wC ad ca fi0 fl ar) := by
  refine MtV.of (own := RX3) (by decide +kernel) rfl (Nat.le_of_ble_eq_true rfl) ?_
  intro p e s m args below meth c A B hr hk w ls hl
  have hx := B.1.1
  have hb := B.1.2.1
  have hown := B.1.2.2.2.1
  have hts := B.1.2.2.2.2
  have hl : lv_has ls 3 [(0, .ref (ad 2))] := hl
  unfold f_X3_takeClause at hf
  refine (show ∀ (H : Heap) (locs : List Loc), Wd (EC D ca ak av) A s (wC ad ca fi fl ar) H locs → W p l e ({ frames := 8, cells := 0, slots := 0, locals := 210 } : Room) s m args below meth c H locs 0 0 (MQ below (Qv (EC D ca ak av) A (wC ad ca fi0 fl ar)) args s 0 0 A) (F0 m 0 ls []) from ?_) s.heap [] w
  intro H locs w
  refine lv_aload_n hx hb dX3_takeClause_0 rfl (lv_at hl 0 rfl) ?_
  refine gfC_2_5 B w kt1_101 dX3_takeClause_1 ?_
  refine lv_topi (fun x_1 ex_1 => ?_)
  have hf := bindv_eq hf x_1 ex_1
  refine lv_istore_n (lv' := [(1, .int x_1), (0, .ref (ad 2))]) hx hb dX3_takeClause_4 rfl hl (by decide) rfl (fun ls hl => ?_)
  refine lv_aload_n hx hb dX3_takeClause_5 rfl (lv_at hl 1 rfl) ?_
  obtain ⟨r_2, fi_3, er_4, hf⟩ := bind2_eq hf
  refine callVI (As := []) (rest := []) B w (c_X3_takeClauseWord l D ca ak av ad fi fl ar  er_4) (gV kt2_96 kt2_98 kp1_2 kt1_3 kt2_99) hdV_X3_takeClauseWord 2 rfl rfl rfl rfl ⟨Nat.le_of_ble_eq_true rfl, Nat.le_of_ble_eq_true rfl⟩ rfl hl.1 rfl (Nat.le_of_ble_eq_true rfl) dX3_takeClause_6 ⟨Nat.le_of_ble_eq_true rfl, Nat.le_of_ble_eq_true rfl⟩ (fun H locs w => ?_)
  refine lv_istore_n (lv' := [(2, .int r_2), (1, .int x_1), (0, .ref (ad 2))]) hx hb dX3_takeClause_9 rfl hl (by decide) rfl (fun ls hl => ?_)
  refine lv_iload_n hx hb dX3_takeClause_10 rfl (lv_at hl 0 rfl) ?_
  refine lv_iconst (v := (-1)) hx hb dX3_takeClause_11 (by decide) ?_
  refine lv_icmp_ne (x := r_2) (y := (-1)) (tgt := 24) hx hb dX3_takeClause_12 (by decide) (fun c_5 => ?_) (fun c_5 => ?_)
  · have hf := if_f hf c_5
    refine lv_aload_n hx hb dX3_takeClause_24 rfl (lv_at hl 2 rfl) ?_
    refine gfC_2_6 B w kt1_102 dX3_takeClause_25 ?_
    refine lv_iload_n hx hb dX3_takeClause_28 rfl (lv_at hl 0 rfl) ?_
    obtain ⟨r_6, er_7⟩ : ∃ y, f_X8_bit (fi_3 13) r_2 = y := ⟨_, rfl⟩
    have hf := bindv_eq hf r_6 er_7.symm
    refine callNI (As := [.int (fi_3 13), .int r_2]) (rest := []) B w (c_X8_bit l _ (fi_3 13) r_2 er_7) (gN kt2_166) (by decide) kt1_1 kt2_165 hdS_X8_bit rfl rfl ⟨Nat.le_of_ble_eq_true rfl, Nat.le_of_ble_eq_true rfl⟩ rfl hl.1 rfl (Nat.le_of_ble_eq_true rfl) dX3_takeClause_29 ⟨Nat.le_of_ble_eq_true rfl, Nat.le_of_ble_eq_true rfl⟩ (fun H locs w => ?_)
    refine lv_iconst (v := 1) hx hb dX3_takeClause_32 (by decide) ?_
    refine lv_icmp_ne (x := r_6) (y := 1) (tgt := 45) hx hb dX3_takeClause_33 (by decide) (fun c_8 => ?_) (fun c_8 => ?_)
    · have hf := if_f hf c_8
      refine lv_aload_n hx hb dX3_takeClause_45 rfl (lv_at hl 2 rfl) ?_
      refine lv_dup hx hb dX3_takeClause_46 rfl ?_
      refine gfC_2_6 B w kt1_102 dX3_takeClause_47 ?_
      refine lv_iconst (v := 1) hx hb dX3_takeClause_50 (by decide) ?_
      refine lv_iload_n hx hb dX3_takeClause_51 rfl (lv_at hl 0 rfl) ?_
      refine lv_ishl (x := 1) (y := r_2) hx hb dX3_takeClause_52 ?_
      refine lv_ior (x := (fi_3 13)) (y := ((1 : Int32) <<< (r_2 &&& 31))) hx hb dX3_takeClause_53 ?_
      refine pfC_2_6 (v := ((fi_3 13) ||| ((1 : Int32) <<< (r_2 &&& 31)))) B w kt1_102 dX3_takeClause_54 (fun H locs fi_9 efi_9 w => ?_)
      have hf := bindv_eq hf fi_9 efi_9
      refine lv_aload_n hx hb dX3_takeClause_57 rfl (lv_at hl 2 rfl) ?_
      refine lv_iload_n hx hb dX3_takeClause_58 rfl (lv_at hl 0 rfl) ?_
      obtain ⟨fi_10, er_11, hf⟩ := bind1_eq hf
      refine callVV (As := [.int r_2]) (rest := []) B w (c_X3_takeBody l D ca ak av ad fi_9 fl ar r_2 er_11) (gV kt2_167 kt2_169 kp1_5 kt1_3 kt2_170) hdV_X3_takeBody 2 rfl rfl rfl rfl ⟨Nat.le_of_ble_eq_true rfl, Nat.le_of_ble_eq_true rfl⟩ rfl hl.1 rfl (Nat.le_of_ble_eq_true rfl) dX3_takeClause_59 ⟨Nat.le_of_ble_eq_true rfl, Nat.le_of_ble_eq_true rfl⟩ (fun H locs w => ?_)
      refine lv_aload_n hx hb dX3_takeClause_62 rfl (lv_at hl 2 rfl) ?_
      obtain ⟨fi_12, er_13, hf⟩ := bind1_eq hf
      refine callVV (As := []) (rest := []) B w (c_X3_takeEnd l D ca ak av ad fi_10 fl ar  er_13) (gV kt2_184 kt2_186 kp1_8 kt1_3 kt2_187) hdV_X3_takeEnd 2 rfl rfl rfl rfl ⟨Nat.le_of_ble_eq_true rfl, Nat.le_of_ble_eq_true rfl⟩ rfl hl.1 rfl (Nat.le_of_ble_eq_true rfl) dX3_takeClause_63 ⟨Nat.le_of_ble_eq_true rfl, Nat.le_of_ble_eq_true rfl⟩ (fun H locs w => ?_)
      have hf : some fi_12 = some fi0 := hf
      have q0 := so1 hf
      subst q0
      exact retV B hr hk w dX3_takeClause_66
    · have hf := if_t hf c_8
      refine lv_aload_n hx hb dX3_takeClause_36 rfl (lv_at hl 2 rfl) ?_
      refine lv_iconst (v := 3) hx hb dX3_takeClause_37 (by decide) ?_
      refine lv_iload_n hx hb dX3_takeClause_38 rfl (lv_at hl 1 rfl) ?_
      obtain ⟨fi_14, er_15, hf⟩ := bind1_eq hf
      refine callVV (As := [.int 3, .int x_1]) (rest := []) B w (c_X3_blame l D ca ak av ad fi_3 fl ar 3 x_1 er_15) (gV kt2_160 kt2_162 kp1_4 kt1_3 kt2_163) hdV_X3_blame 2 rfl rfl rfl rfl ⟨Nat.le_of_ble_eq_true rfl, Nat.le_of_ble_eq_true rfl⟩ rfl hl.1 rfl (Nat.le_of_ble_eq_true rfl) dX3_takeClause_39 ⟨Nat.le_of_ble_eq_true rfl, Nat.le_of_ble_eq_true rfl⟩ (fun H locs w => ?_)
      refine lv_goto (tgt := 66) hx hb dX3_takeClause_42 (by decide) ?_
      have hf : some fi_14 = some fi0 := hf
      have q0 := so1 hf
      subst q0
      exact retV B hr hk w dX3_takeClause_66
  · have hf := if_t hf c_5
    refine lv_aload_n hx hb dX3_takeClause_15 rfl (lv_at hl 2 rfl) ?_
    refine lv_iconst (v := 1) hx hb dX3_takeClause_16 (by decide) ?_
    refine lv_iload_n hx hb dX3_takeClause_17 rfl (lv_at hl 1 rfl) ?_
    obtain ⟨fi_16, er_17, hf⟩ := bind1_eq hf
    refine callVV (As := [.int 1, .int x_1]) (rest := []) B w (c_X3_blame l D ca ak av ad fi_3 fl ar 1 x_1 er_17) (gV kt2_160 kt2_162 kp1_4 kt1_3 kt2_163) hdV_X3_blame 2 rfl rfl rfl rfl ⟨Nat.le_of_ble_eq_true rfl, Nat.le_of_ble_eq_true rfl⟩ rfl hl.1 rfl (Nat.le_of_ble_eq_true rfl) dX3_takeClause_18 ⟨Nat.le_of_ble_eq_true rfl, Nat.le_of_ble_eq_true rfl⟩ (fun H locs w => ?_)
    refine lv_goto (tgt := 66) hx hb dX3_takeClause_21 (by decide) ?_
    have hf : some fi_16 = some fi0 := hf
    have q0 := so1 hf
    subst q0
    exact retV B hr hk w dX3_takeClause_66
def f_X3_parse_71 (ar : Nat → Nat → Int32)  (fi : Nat → Int32) : Option (Int32 × (Nat → Int32)) := bindv (upd fi 9 0) (fun fi_1 => if ((fi_1 11) = 0 : Prop) then (bindv (f_J6_bitCount_0f7a4 (fi_1 13)) (fun r_3 => some (r_3, fi_1))) else (some (((-10) - (fi_1 11)), fi_1)))
def f_X3_parse_33 (ar : Nat → Nat → Int32)  : Nat → (Int32) → (Nat → Int32) → Option (Int32 × (Nat → Int32))
  | 0, _, _ => none
  | n + 1, v1, fi => if (7 < v1 : Prop) then (f_X3_parse_71 ar fi) else (if ((fi 11) = 0 : Prop) then (if ((fi 9) ≤ (fi 12) : Prop) then (f_X3_parse_71 ar fi) else (bind1 (f_X3_takeClause fi ar) (fun fi_8 => bind1 (f_X3_skipBlanks fi_8 ar) (fun fi_10 => bindv (v1 + 1 : Int32) (fun x_12 => (f_X3_parse_33 ar n) x_12 fi_10))))) else (f_X3_parse_71 ar fi))
def f_X3_parse (fi : Nat → Int32) (ar : Nat → Nat → Int32) : Option (Int32 × (Nat → Int32)) := bind1 (f_X6_asAtFirst fi) (fun fi_13 => bindv (upd fi_13 11 0) (fun fi_15 => bindv (upd fi_15 10 (-1)) (fun fi_16 => bindv (upd fi_16 12 0) (fun fi_17 => bindv (upd fi_17 13 0) (fun fi_18 => bind1 (f_X3_skipBlanks fi_18 ar) (fun fi_19 => f_X3_parse_33 ar 5000 0 fi_19))))))
set_option maxHeartbeats 4000000 in
set_option maxRecDepth 100000 in
theorem c_X3_parse (l : Launch) (D : va_G) (ca : Nat → ClassId) (ak av ad : Nat → Nat) (fi : Nat → Int32) (fl : Nat → Int64) (ar : Nat → Nat → Int32) {r0 : Int32} {fi0 : Nat → Int32} (hf : f_X3_parse fi ar = some (r0, fi0)) : MtI l yX3_parse cX3_parse 2 { frames := 9, cells := 0, slots := 0, locals := 232 } (EC D ca ak av) [.ref (ad 2)] (wC ad ca fi fl ar) (wC ad ca fi0 fl ar) r0 := by
  refine MtI.of (own := RX3) (by decide +kernel) rfl (Nat.le_of_ble_eq_true rfl) ?_
  intro p e s m args below meth c A B hr hk w ls hl
  have hx := B.1.1
  have hb := B.1.2.1
  have hown := B.1.2.2.2.1
  have hts := B.1.2.2.2.2
  have hl : lv_has ls 2 [(0, .ref (ad 2))] := hl
  have J71 : ∀ (fi : Nat → Int32) (H : Heap) (locs : List Loc) (ls : Array Slot), Wd (EC D ca ak av) A s (wC ad ca fi fl ar) H locs → lv_has ls 2 [(0, .ref (ad 2))] → f_X3_parse_71 ar fi = some (r0, fi0) → W p l e ({ frames := 9, cells := 0, slots := 0, locals := 232 } : Room) s m args below meth c H locs 0 0 (MQ below (Qi (EC D ca ak av) A (wC ad ca fi0 fl ar) r0) args s 0 0 A) (F0 m 71 ls []) := by
    intro  fi H locs ls w hl hf
    unfold f_X3_parse_71 at hf
    refine lv_aload_n hx hb dX3_parse_71 rfl (lv_at hl 0 rfl) ?_
    refine lv_iconst (v := 0) hx hb dX3_parse_72 (by decide) ?_
    refine pfC_2_2 (v := 0) B w kt1_96 dX3_parse_73 (fun H locs fi_1 efi_1 w => ?_)
    have hf := bindv_eq hf fi_1 efi_1
    refine lv_aload_n hx hb dX3_parse_76 rfl (lv_at hl 0 rfl) ?_
    refine gfC_2_4 B w kt1_100 dX3_parse_77 ?_
    refine lv_if_ne (x := (fi_1 11)) (tgt := 93) hx hb dX3_parse_80 (by decide) (fun c_2 => ?_) (fun c_2 => ?_)
    · have hf := if_f hf c_2
      refine lv_bipush (v := (-10)) hx hb dX3_parse_93 (by decide) ?_
      refine lv_aload_n hx hb dX3_parse_95 rfl (lv_at hl 0 rfl) ?_
      refine gfC_2_4 B w kt1_100 dX3_parse_96 ?_
      refine lv_isub (x := (-10)) (y := (fi_1 11)) hx hb dX3_parse_99 ?_
      have hf : some (((-10) - (fi_1 11)), fi_1) = some (r0, fi0) := hf
      obtain ⟨q0, q1⟩ := so2 hf
      subst q0
      subst q1
      exact retI B hr hk w dX3_parse_100
    · have hf := if_t hf c_2
      refine lv_aload_n hx hb dX3_parse_83 rfl (lv_at hl 0 rfl) ?_
      refine gfC_2_6 B w kt1_102 dX3_parse_84 ?_
      obtain ⟨r_3, er_4⟩ : ∃ y, f_J6_bitCount_0f7a4 (fi_1 13) = y := ⟨_, rfl⟩
      have hf := bindv_eq hf r_3 er_4.symm
      refine callSI (As := [.int (fi_1 13)]) (rest := []) B w (c_J6_bitCount_0f7a4 l _ (fi_1 13) er_4) (gS kt2_188 kt2_28 kt1_10 kt2_29) hdS_J6_bitCount_0f7a4 rfl rfl ⟨Nat.le_of_ble_eq_true rfl, Nat.le_of_ble_eq_true rfl⟩ rfl hl.1 rfl (Nat.le_of_ble_eq_true rfl) dX3_parse_87 ⟨Nat.le_of_ble_eq_true rfl, Nat.le_of_ble_eq_true rfl⟩ (fun H locs w => ?_)
      refine lv_goto (tgt := 100) hx hb dX3_parse_90 (by decide) ?_
      have hf : some (r_3, fi_1) = some (r0, fi0) := hf
      obtain ⟨q0, q1⟩ := so2 hf
      subst q0
      subst q1
      exact retI B hr hk w dX3_parse_100
  have J33 : ∀ (n : Nat) (v1 : Int32) (fi : Nat → Int32) (H : Heap) (locs : List Loc) (ls : Array Slot), Wd (EC D ca ak av) A s (wC ad ca fi fl ar) H locs → lv_has ls 2 [(0, .ref (ad 2)), (1, .int v1)] → f_X3_parse_33 ar n v1 fi = some (r0, fi0) → W p l e ({ frames := 9, cells := 0, slots := 0, locals := 232 } : Room) s m args below meth c H locs 0 0 (MQ below (Qi (EC D ca ak av) A (wC ad ca fi0 fl ar) r0) args s 0 0 A) (F0 m 33 ls []) := by
    intro  n
    induction n with
    | zero =>
      intro v1 fi H locs ls w hl hf
      cases hf
    | succ n ih =>
      intro v1 fi H locs ls w hl hf
      rw [f_X3_parse_33] at hf
      refine lv_iload_n hx hb dX3_parse_33 rfl (lv_at hl 1 rfl) ?_
      refine lv_bipush (v := 7) hx hb dX3_parse_34 (by decide) ?_
      refine lv_icmp_gt (x := v1) (y := 7) (tgt := 71) hx hb dX3_parse_36 (by decide) (fun c_5 => ?_) (fun c_5 => ?_)
      · have hf := if_t hf c_5
        exact J71  fi H locs ls w (lv_sub hl [0] rfl) hf
      · have hf := if_f hf c_5
        refine lv_aload_n hx hb dX3_parse_39 rfl (lv_at hl 0 rfl) ?_
        refine gfC_2_4 B w kt1_100 dX3_parse_40 ?_
        refine lv_if_ne (x := (fi 11)) (tgt := 71) hx hb dX3_parse_43 (by decide) (fun c_6 => ?_) (fun c_6 => ?_)
        · have hf := if_f hf c_6
          exact J71  fi H locs ls w (lv_sub hl [0] rfl) hf
        · have hf := if_t hf c_6
          refine lv_aload_n hx hb dX3_parse_46 rfl (lv_at hl 0 rfl) ?_
          refine gfC_2_5 B w kt1_101 dX3_parse_47 ?_
          refine lv_aload_n hx hb dX3_parse_50 rfl (lv_at hl 0 rfl) ?_
          refine gfC_2_2 B w kt1_96 dX3_parse_51 ?_
          refine lv_icmp_ge (x := (fi 12)) (y := (fi 9)) (tgt := 71) hx hb dX3_parse_54 (by decide) (fun c_7 => ?_) (fun c_7 => ?_)
          · have hf := if_t hf c_7
            exact J71  fi H locs ls w (lv_sub hl [0] rfl) hf
          · have hf := if_f hf c_7
            refine lv_aload_n hx hb dX3_parse_57 rfl (lv_at hl 0 rfl) ?_
            obtain ⟨fi_8, er_9, hf⟩ := bind1_eq hf
            refine callVV (As := []) (rest := []) B w (c_X3_takeClause l D ca ak av ad fi fl ar  er_9) (gV kt2_92 kt2_94 kp1_1 kt1_3 kt2_95) hdV_X3_takeClause 2 rfl rfl rfl rfl ⟨Nat.le_of_ble_eq_true rfl, Nat.le_of_ble_eq_true rfl⟩ rfl hl.1 rfl (Nat.le_of_ble_eq_true rfl) dX3_parse_58 ⟨Nat.le_of_ble_eq_true rfl, Nat.le_of_ble_eq_true rfl⟩ (fun H locs w => ?_)
            refine lv_aload_n hx hb dX3_parse_61 rfl (lv_at hl 0 rfl) ?_
            obtain ⟨fi_10, er_11, hf⟩ := bind1_eq hf
            refine callVV (As := []) (rest := []) B w (c_X3_skipBlanks l D ca ak av ad fi_8 fl ar  er_11) (gV kt2_88 kt2_90 kp1_0 kt1_3 kt2_91) hdV_X3_skipBlanks 2 rfl rfl rfl rfl ⟨Nat.le_of_ble_eq_true rfl, Nat.le_of_ble_eq_true rfl⟩ rfl hl.1 rfl (Nat.le_of_ble_eq_true rfl) dX3_parse_62 ⟨Nat.le_of_ble_eq_true rfl, Nat.le_of_ble_eq_true rfl⟩ (fun H locs w => ?_)
            obtain ⟨x_12, ex_12⟩ : ∃ y : Int32, y = v1 + 1 := ⟨_, rfl⟩
            have hf := bindv_eq hf x_12 ex_12
            refine lv_iinc (v := x_12) (lv' := [(1, .int x_12), (0, .ref (ad 2))]) hx hb dX3_parse_65 hl (k := 1) rfl (by rw [ex_12]; rfl) (by decide) rfl (fun ls hl => ?_)
            refine lv_goto (tgt := 33) hx hb dX3_parse_68 (by decide) ?_
            exact ih x_12 fi_10 H locs ls w (lv_sub hl [1, 0] rfl) hf
  unfold f_X3_parse at hf
  refine (show ∀ (H : Heap) (locs : List Loc), Wd (EC D ca ak av) A s (wC ad ca fi fl ar) H locs → W p l e ({ frames := 9, cells := 0, slots := 0, locals := 232 } : Room) s m args below meth c H locs 0 0 (MQ below (Qi (EC D ca ak av) A (wC ad ca fi0 fl ar) r0) args s 0 0 A) (F0 m 0 ls []) from ?_) s.heap [] w
  intro H locs w
  refine lv_aload_n hx hb dX3_parse_0 rfl (lv_at hl 0 rfl) ?_
  refine gfC_2_1 B w kt1_94 dX3_parse_1 ?_
  obtain ⟨fi_13, er_14, hf⟩ := bind1_eq hf
  refine callVV (As := []) (rest := []) B w (c_X6_asAtFirst l D ca ak av ad fi fl ar  er_14) (gV kt2_87 kt1_33 kt1_34 kt1_2 kt1_35) hdV_X6_asAtFirst 4 rfl rfl rfl rfl ⟨Nat.le_of_ble_eq_true rfl, Nat.le_of_ble_eq_true rfl⟩ rfl hl.1 rfl (Nat.le_of_ble_eq_true rfl) dX3_parse_4 ⟨Nat.le_of_ble_eq_true rfl, Nat.le_of_ble_eq_true rfl⟩ (fun H locs w => ?_)
  refine lv_aload_n hx hb dX3_parse_7 rfl (lv_at hl 0 rfl) ?_
  refine lv_iconst (v := 0) hx hb dX3_parse_8 (by decide) ?_
  refine pfC_2_4 (v := 0) B w kt1_100 dX3_parse_9 (fun H locs fi_15 efi_15 w => ?_)
  have hf := bindv_eq hf fi_15 efi_15
  refine lv_aload_n hx hb dX3_parse_12 rfl (lv_at hl 0 rfl) ?_
  refine lv_iconst (v := (-1)) hx hb dX3_parse_13 (by decide) ?_
  refine pfC_2_3 (v := (-1)) B w kt1_98 dX3_parse_14 (fun H locs fi_16 efi_16 w => ?_)
  have hf := bindv_eq hf fi_16 efi_16
  refine lv_aload_n hx hb dX3_parse_17 rfl (lv_at hl 0 rfl) ?_
  refine lv_iconst (v := 0) hx hb dX3_parse_18 (by decide) ?_
  refine pfC_2_5 (v := 0) B w kt1_101 dX3_parse_19 (fun H locs fi_17 efi_17 w => ?_)
  have hf := bindv_eq hf fi_17 efi_17
  refine lv_aload_n hx hb dX3_parse_22 rfl (lv_at hl 0 rfl) ?_
  refine lv_iconst (v := 0) hx hb dX3_parse_23 (by decide) ?_
  refine pfC_2_6 (v := 0) B w kt1_102 dX3_parse_24 (fun H locs fi_18 efi_18 w => ?_)
  have hf := bindv_eq hf fi_18 efi_18
  refine lv_aload_n hx hb dX3_parse_27 rfl (lv_at hl 0 rfl) ?_
  obtain ⟨fi_19, er_20, hf⟩ := bind1_eq hf
  refine callVV (As := []) (rest := []) B w (c_X3_skipBlanks l D ca ak av ad fi_18 fl ar  er_20) (gV kt2_88 kt2_90 kp1_0 kt1_3 kt2_91) hdV_X3_skipBlanks 2 rfl rfl rfl rfl ⟨Nat.le_of_ble_eq_true rfl, Nat.le_of_ble_eq_true rfl⟩ rfl hl.1 rfl (Nat.le_of_ble_eq_true rfl) dX3_parse_28 ⟨Nat.le_of_ble_eq_true rfl, Nat.le_of_ble_eq_true rfl⟩ (fun H locs w => ?_)
  refine lv_iconst (v := 0) hx hb dX3_parse_31 (by decide) ?_
  refine lv_istore_n (lv' := [(1, .int 0), (0, .ref (ad 2))]) hx hb dX3_parse_32 rfl hl (by decide) rfl (fun ls hl => ?_)
  exact J33  5000 0 fi_19 H locs ls w (lv_sub hl [1, 0] rfl) hf
def f_X6_become (fi : Nat → Int32) : Option ((Nat → Int32)) := bindv (upd fi 1 (fi 14)) (fun fi_1 => bindv (upd fi_1 2 (fi_1 15)) (fun fi_2 => bindv (upd fi_2 3 (fi_2 16)) (fun fi_3 => bindv (upd fi_3 4 (fi_3 17)) (fun fi_4 => bindv (upd fi_4 5 (fi_4 18)) (fun fi_5 => bindv (upd fi_5 6 (fi_5 19)) (fun fi_6 => bindv (upd fi_6 7 (fi_6 20)) (fun fi_7 => bindv (upd fi_7 8 (fi_7 21)) (fun fi_8 => some fi_8))))))))
set_option maxHeartbeats 4000000 in
set_option maxRecDepth 100000 in
theorem c_X6_become (l : Launch) (D : va_G) (ca : Nat → ClassId) (ak av ad : Nat → Nat) (fi : Nat → Int32) (fl : Nat → Int64) (ar : Nat → Nat → Int32) {fi0 : Nat → Int32} (hf : f_X6_become fi = some fi0) : MtV l yX6_become cX6_become 2 { frames := 0, cells := 0, slots := 0, locals := 0 } (EC D ca ak av) [.ref (ad 1), .ref (ad 4)] (wC ad ca fi fl ar) (wC ad ca fi0 fl ar) := by
  refine MtV.of (own := RX6) (by decide +kernel) rfl (Nat.le_of_ble_eq_true rfl) ?_
  intro p e s m args below meth c A B hr hk w ls hl
  have hx := B.1.1
  have hb := B.1.2.1
  have hown := B.1.2.2.2.1
  have hts := B.1.2.2.2.2
  have hl : lv_has ls 2 [(0, .ref (ad 1)), (1, .ref (ad 4))] := hl
  unfold f_X6_become at hf
  refine (show ∀ (H : Heap) (locs : List Loc), Wd (EC D ca ak av) A s (wC ad ca fi fl ar) H locs → W p l e ({ frames := 0, cells := 0, slots := 0, locals := 0 } : Room) s m args below meth c H locs 0 0 (MQ below (Qv (EC D ca ak av) A (wC ad ca fi0 fl ar)) args s 0 0 A) (F0 m 0 ls []) from ?_) s.heap [] w
  intro H locs w
  refine lv_aload_n hx hb dX6_become_0 rfl (lv_at hl 0 rfl) ?_
  refine lv_aload_n hx hb dX6_become_1 rfl (lv_at hl 1 rfl) ?_
  refine gfC_4_0 B w kt1_36 dX6_become_2 ?_
  refine pfC_1_0 (v := (fi 14)) B w kt1_36 dX6_become_5 (fun H locs fi_1 efi_1 w => ?_)
  have hf := bindv_eq hf fi_1 efi_1
  refine lv_aload_n hx hb dX6_become_8 rfl (lv_at hl 0 rfl) ?_
  refine lv_aload_n hx hb dX6_become_9 rfl (lv_at hl 1 rfl) ?_
  refine gfC_4_1 B w kt1_40 dX6_become_10 ?_
  refine pfC_1_1 (v := (fi_1 15)) B w kt1_40 dX6_become_13 (fun H locs fi_2 efi_2 w => ?_)
  have hf := bindv_eq hf fi_2 efi_2
  refine lv_aload_n hx hb dX6_become_16 rfl (lv_at hl 0 rfl) ?_
  refine lv_aload_n hx hb dX6_become_17 rfl (lv_at hl 1 rfl) ?_
  refine gfC_4_2 B w kt1_44 dX6_become_18 ?_
  refine pfC_1_2 (v := (fi_2 16)) B w kt1_44 dX6_become_21 (fun H locs fi_3 efi_3 w => ?_)
  have hf := bindv_eq hf fi_3 efi_3
  refine lv_aload_n hx hb dX6_become_24 rfl (lv_at hl 0 rfl) ?_
  refine lv_aload_n hx hb dX6_become_25 rfl (lv_at hl 1 rfl) ?_
  refine gfC_4_3 B w kt1_48 dX6_become_26 ?_
  refine pfC_1_3 (v := (fi_3 17)) B w kt1_48 dX6_become_29 (fun H locs fi_4 efi_4 w => ?_)
  have hf := bindv_eq hf fi_4 efi_4
  refine lv_aload_n hx hb dX6_become_32 rfl (lv_at hl 0 rfl) ?_
  refine lv_aload_n hx hb dX6_become_33 rfl (lv_at hl 1 rfl) ?_
  refine gfC_4_4 B w kt1_52 dX6_become_34 ?_
  refine pfC_1_4 (v := (fi_4 18)) B w kt1_52 dX6_become_37 (fun H locs fi_5 efi_5 w => ?_)
  have hf := bindv_eq hf fi_5 efi_5
  refine lv_aload_n hx hb dX6_become_40 rfl (lv_at hl 0 rfl) ?_
  refine lv_aload_n hx hb dX6_become_41 rfl (lv_at hl 1 rfl) ?_
  refine gfC_4_5 B w kt1_56 dX6_become_42 ?_
  refine pfC_1_5 (v := (fi_5 19)) B w kt1_56 dX6_become_45 (fun H locs fi_6 efi_6 w => ?_)
  have hf := bindv_eq hf fi_6 efi_6
  refine lv_aload_n hx hb dX6_become_48 rfl (lv_at hl 0 rfl) ?_
  refine lv_aload_n hx hb dX6_become_49 rfl (lv_at hl 1 rfl) ?_
  refine gfC_4_6 B w kt1_60 dX6_become_50 ?_
  refine pfC_1_6 (v := (fi_6 20)) B w kt1_60 dX6_become_53 (fun H locs fi_7 efi_7 w => ?_)
  have hf := bindv_eq hf fi_7 efi_7
  refine lv_aload_n hx hb dX6_become_56 rfl (lv_at hl 0 rfl) ?_
  refine lv_aload_n hx hb dX6_become_57 rfl (lv_at hl 1 rfl) ?_
  refine gfC_4_7 B w kt1_64 dX6_become_58 ?_
  refine pfC_1_7 (v := (fi_7 21)) B w kt1_64 dX6_become_61 (fun H locs fi_8 efi_8 w => ?_)
  have hf := bindv_eq hf fi_8 efi_8
  have hf : some fi_8 = some fi0 := hf
  have q0 := so1 hf
  subst q0
  exact retV B hr hk w dX6_become_64
