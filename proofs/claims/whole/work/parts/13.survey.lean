def f_X4_drop (fi : Nat → Int32) : Option ((Nat → Int32)) := bindv (upd fi 31 0) (fun fi_1 => some fi_1)
set_option maxHeartbeats 4000000 in
set_option maxRecDepth 100000 in
theorem c_X4_drop (l : Launch) (D : va_G) (ca : Nat → ClassId) (ak av ad : Nat → Nat) (fi : Nat → Int32) (fl : Nat → Int64) (ar : Nat → Nat → Int32) {fi0 : Nat → Int32} (hf : f_X4_drop fi = some fi0) : MtV l yX4_drop cX4_drop 1 { frames := 0, cells := 0, slots := 0, locals := 0 } (EC D ca ak av) [.ref (ad 13)] (wC ad ca fi fl ar) (wC ad ca fi0 fl ar) := by
  refine MtV.of (own := RX4) (by decide +kernel) rfl (Nat.le_of_ble_eq_true rfl) ?_
  intro p e s m args below meth c A B hr hk w ls hl
  have hx := B.1.1
  have hb := B.1.2.1
  have hown := B.1.2.2.2.1
  have hts := B.1.2.2.2.2
  have hl : lv_has ls 1 [(0, .ref (ad 13))] := hl
  unfold f_X4_drop at hf
  refine (show ∀ (H : Heap) (locs : List Loc), Wd (EC D ca ak av) A s (wC ad ca fi fl ar) H locs → W p l e ({ frames := 0, cells := 0, slots := 0, locals := 0 } : Room) s m args below meth c H locs 0 0 (MQ below (Qv (EC D ca ak av) A (wC ad ca fi0 fl ar)) args s 0 0 A) (F0 m 0 ls []) from ?_) s.heap [] w
  intro H locs w
  refine lv_aload_n hx hb dX4_drop_0 rfl (lv_at hl 0 rfl) ?_
  refine lv_iconst (v := 0) hx hb dX4_drop_1 (by decide) ?_
  refine pfC_13_2 (v := 0) B w kt2_3 rfl rfl dX4_drop_2 (fun H locs fi_1 efi_1 w => ?_)
  have hf := bindv_eq hf fi_1 efi_1
  have hf : some fi_1 = some fi0 := hf
  have q0 := so1 hf
  subst q0
  exact retV B hr hk w dX4_drop_5
def f_X4_make_62  (k26 : Int32 → Int32 → (Nat → Int32) → (Nat → Int64) → (Nat → Nat → Int32) → Option ((Nat → Int32) × (Nat → Int64) × (Nat → Nat → Int32))) (v1 : Int32) (v2 : Int32) (t1 : Int32) (t2 : Int32) (fi : Nat → Int32) (fl : Nat → Int64) (ar : Nat → Nat → Int32) : Option ((Nat → Int32) × (Nat → Int64) × (Nat → Nat → Int32)) := gd t1 4096 (bindv (updA ar 14 (upd (ar 14) (Int32.toNatClampNeg t1) t2)) (fun ar_2 => gd v2 4096 (bindv (f_J9_max_7cf53 (fi 32) (ar_2 14 (Int32.toNatClampNeg v2))) (fun r_4 => bindv (upd fi 32 r_4) (fun fi_6 => bindv (v2 + 1 : Int32) (fun x_7 => k26 v1 x_7 fi_6 fl ar_2))))))
def f_X4_make_26   : Nat → (Int32) → (Int32) → (Nat → Int32) → (Nat → Int64) → (Nat → Nat → Int32) → Option ((Nat → Int32) × (Nat → Int64) × (Nat → Nat → Int32))
  | 0, _, _, _, _, _ => none
  | n + 1, v1, v2, fi, fl, ar => if (4096 ≤ v2 : Prop) then (bindv (upd fi 33 (-2)) (fun fi_9 => bindv (upd fi_9 31 1) (fun fi_10 => some (fi_10, fl, ar)))) else (bind4 (f_X2_verdict fi fl ar v2 v1) (fun r_11 fi_12 fl_13 ar_14 => if (r_11 = 1 : Prop) then (bindv (f_X2_aidAtRest fi_12) (fun r_17 => f_X4_make_62 (f_X4_make_26 n) v1 v2 v2 r_17 fi_12 fl_13 ar_14)) else (f_X4_make_62 (f_X4_make_26 n) v1 v2 v2 (-1) fi_12 fl_13 ar_14)))
def f_X4_make (fi : Nat → Int32) (fl : Nat → Int64) (ar : Nat → Nat → Int32) : Option ((Nat → Int32) × (Nat → Int64) × (Nat → Nat → Int32)) := if ((fi 31) = 0 : Prop) then (bindv (upd fi 32 (-1)) (fun fi_20 => bindv ((fi_20 4) : Int32) (fun x_21 => f_X4_make_26  5000 x_21 0 fi_20 fl ar))) else (some (fi, fl, ar))
set_option maxHeartbeats 4000000 in
set_option maxRecDepth 100000 in
theorem c_X4_make (l : Launch) (D : va_G) (ca : Nat → ClassId) (ak av ad : Nat → Nat) (fi : Nat → Int32) (fl : Nat → Int64) (ar : Nat → Nat → Int32) {fi0 : Nat → Int32} {fl0 : Nat → Int64} {ar0 : Nat → Nat → Int32} (hf : f_X4_make fi fl ar = some (fi0, fl0, ar0)) : MtV l yX4_make cX4_make 3 { frames := 5, cells := 0, slots := 0, locals := 120 } (EC D ca ak av) [.ref (ad 13)] (wC ad ca fi fl ar) (wC ad ca fi0 fl0 ar0) := by
  refine MtV.of (own := RX4) (by decide +kernel) rfl (Nat.le_of_ble_eq_true rfl) ?_
  intro p e s m args below meth c A B hr hk w ls hl
  have hx := B.1.1
  have hb := B.1.2.1
  have hown := B.1.2.2.2.1
  have hts := B.1.2.2.2.2
  have hl : lv_has ls 3 [(0, .ref (ad 13))] := hl
  have J62 : ∀ (k26 : Int32 → Int32 → (Nat → Int32) → (Nat → Int64) → (Nat → Nat → Int32) → Option ((Nat → Int32) × (Nat → Int64) × (Nat → Nat → Int32))) (hk26 : ∀ (v1 : Int32) (v2 : Int32) (fi : Nat → Int32) (fl : Nat → Int64) (ar : Nat → Nat → Int32) (H : Heap) (locs : List Loc) (ls : Array Slot), Wd (EC D ca ak av) A s (wC ad ca fi fl ar) H locs → lv_has ls 3 [(0, .ref (ad 13)), (1, .int v1), (2, .int v2)] → k26 v1 v2 fi fl ar = some (fi0, fl0, ar0) → W p l e ({ frames := 5, cells := 0, slots := 0, locals := 120 } : Room) s m args below meth c H locs 0 0 (MQ below (Qv (EC D ca ak av) A (wC ad ca fi0 fl0 ar0)) args s 0 0 A) (F0 m 26 ls [])) (v1 : Int32) (v2 : Int32) (t1 : Int32) (t2 : Int32) (fi : Nat → Int32) (fl : Nat → Int64) (ar : Nat → Nat → Int32) (H : Heap) (locs : List Loc) (ls : Array Slot), Wd (EC D ca ak av) A s (wC ad ca fi fl ar) H locs → lv_has ls 3 [(0, .ref (ad 13)), (1, .int v1), (2, .int v2)] → f_X4_make_62 k26 v1 v2 t1 t2 fi fl ar = some (fi0, fl0, ar0) → W p l e ({ frames := 5, cells := 0, slots := 0, locals := 120 } : Room) s m args below meth c H locs 0 0 (MQ below (Qv (EC D ca ak av) A (wC ad ca fi0 fl0 ar0)) args s 0 0 A) (F0 m 62 ls [.int t2, .int t1, .ref (ad 14)]) := by
    intro k26 hk26 v1 v2 t1 t2 fi fl ar H locs ls w hl hf
    unfold f_X4_make_62 at hf
    obtain ⟨hi_1, hf⟩ := gd_eq hf
    refine asC_14 (x := t2) B w hi_1 dX4_make_62 (fun H locs ar_2 ear_2 w => ?_)
    have hf := bindv_eq hf ar_2 ear_2
    refine lv_aload_n hx hb dX4_make_63 rfl (lv_at hl 0 rfl) ?_
    refine lv_aload_n hx hb dX4_make_64 rfl (lv_at hl 0 rfl) ?_
    refine gfC_13_3 B w kt2_4 dX4_make_65 ?_
    refine lv_aload_n hx hb dX4_make_68 rfl (lv_at hl 0 rfl) ?_
    refine gfC_13_1 B w kt2_2 dX4_make_69 ?_
    refine lv_iload_n hx hb dX4_make_72 rfl (lv_at hl 2 rfl) ?_
    obtain ⟨hi_3, hf⟩ := gd_eq hf
    refine alC_14 B w hi_3 dX4_make_73 ?_
    obtain ⟨r_4, er_5⟩ : ∃ y, f_J9_max_7cf53 (fi 32) (ar_2 14 (Int32.toNatClampNeg v2)) = y := ⟨_, rfl⟩
    have hf := bindv_eq hf r_4 er_5.symm
    refine callSI (As := [.int (fi 32), .int (ar_2 14 (Int32.toNatClampNeg v2))]) (rest := [.ref (ad 13)]) B w (c_J9_max_7cf53 l _ (fi 32) (ar_2 14 (Int32.toNatClampNeg v2)) er_5) (gS kt3_113 kt3_114 kt1_16 kt3_115) hdS_J9_max_7cf53 rfl rfl ⟨Nat.le_of_ble_eq_true rfl, Nat.le_of_ble_eq_true rfl⟩ rfl hl.1 rfl (Nat.le_of_ble_eq_true rfl) dX4_make_74 ⟨Nat.le_of_ble_eq_true rfl, Nat.le_of_ble_eq_true rfl⟩ (fun H locs w => ?_)
    refine pfC_13_3 (v := r_4) B w kt2_4 dX4_make_77 (fun H locs fi_6 efi_6 w => ?_)
    have hf := bindv_eq hf fi_6 efi_6
    obtain ⟨x_7, ex_7⟩ : ∃ y : Int32, y = v2 + 1 := ⟨_, rfl⟩
    have hf := bindv_eq hf x_7 ex_7
    refine lv_iinc (v := x_7) (lv' := [(2, .int x_7), (0, .ref (ad 13)), (1, .int v1)]) hx hb dX4_make_80 hl (k := 2) rfl (by rw [ex_7]; rfl) (by decide) rfl (fun ls hl => ?_)
    refine lv_goto (tgt := 26) hx hb dX4_make_83 (by decide) ?_
    exact hk26 v1 x_7 fi_6 fl ar_2 H locs ls w (lv_sub hl [1, 2, 0] rfl) hf
  have J26 : ∀ (n : Nat) (v1 : Int32) (v2 : Int32) (fi : Nat → Int32) (fl : Nat → Int64) (ar : Nat → Nat → Int32) (H : Heap) (locs : List Loc) (ls : Array Slot), Wd (EC D ca ak av) A s (wC ad ca fi fl ar) H locs → lv_has ls 3 [(0, .ref (ad 13)), (1, .int v1), (2, .int v2)] → f_X4_make_26  n v1 v2 fi fl ar = some (fi0, fl0, ar0) → W p l e ({ frames := 5, cells := 0, slots := 0, locals := 120 } : Room) s m args below meth c H locs 0 0 (MQ below (Qv (EC D ca ak av) A (wC ad ca fi0 fl0 ar0)) args s 0 0 A) (F0 m 26 ls []) := by
    intro  n
    induction n with
    | zero =>
      intro v1 v2 fi fl ar H locs ls w hl hf
      cases hf
    | succ n ih =>
      intro v1 v2 fi fl ar H locs ls w hl hf
      rw [f_X4_make_26] at hf
      refine lv_iload_n hx hb dX4_make_26 rfl (lv_at hl 2 rfl) ?_
      refine lv_sipush (v := 4096) hx hb dX4_make_27 (by decide) ?_
      refine lv_icmp_ge (x := v2) (y := 4096) (tgt := 86) hx hb dX4_make_30 (by decide) (fun c_8 => ?_) (fun c_8 => ?_)
      · have hf := if_t hf c_8
        refine lv_aload_n hx hb dX4_make_86 rfl (lv_at hl 0 rfl) ?_
        refine lv_bipush (v := (-2)) hx hb dX4_make_87 (by decide) ?_
        refine pfC_13_4 (v := (-2)) B w kt2_5 dX4_make_89 (fun H locs fi_9 efi_9 w => ?_)
        have hf := bindv_eq hf fi_9 efi_9
        refine lv_aload_n hx hb dX4_make_92 rfl (lv_at hl 0 rfl) ?_
        refine lv_iconst (v := 1) hx hb dX4_make_93 (by decide) ?_
        refine pfC_13_2 (v := 1) B w kt2_3 rfl rfl dX4_make_94 (fun H locs fi_10 efi_10 w => ?_)
        have hf := bindv_eq hf fi_10 efi_10
        have hf : some (fi_10, fl, ar) = some (fi0, fl0, ar0) := hf
        obtain ⟨q0, q1, q2⟩ := so3 hf
        subst q0
        subst q1
        subst q2
        exact retV B hr hk w dX4_make_97
      · have hf := if_f hf c_8
        refine lv_aload_n hx hb dX4_make_33 rfl (lv_at hl 0 rfl) ?_
        refine gfC_13_1 B w kt2_2 dX4_make_34 ?_
        refine lv_iload_n hx hb dX4_make_37 rfl (lv_at hl 2 rfl) ?_
        refine lv_aload_n hx hb dX4_make_38 rfl (lv_at hl 0 rfl) ?_
        refine gfC_13_0 B w kt2_1 dX4_make_39 ?_
        refine lv_iload_n hx hb dX4_make_42 rfl (lv_at hl 2 rfl) ?_
        refine lv_iload_n hx hb dX4_make_43 rfl (lv_at hl 1 rfl) ?_
        obtain ⟨r_11, fi_12, fl_13, ar_14, er_15, hf⟩ := bind4_eq hf
        refine callVI (As := [.int v2, .int v1]) (rest := [.int v2, .ref (ad 14)]) B w (c_X2_verdict l D ca ak av ad fi fl ar v2 v1 er_15) (gV kt3_107 kt3_91 kt3_92 kt1_7 kt3_93) hdV_X2_verdict 12 rfl rfl rfl rfl ⟨Nat.le_of_ble_eq_true rfl, Nat.le_of_ble_eq_true rfl⟩ rfl hl.1 rfl (Nat.le_of_ble_eq_true rfl) dX4_make_44 ⟨Nat.le_of_ble_eq_true rfl, Nat.le_of_ble_eq_true rfl⟩ (fun H locs w => ?_)
        refine lv_iconst (v := 1) hx hb dX4_make_47 (by decide) ?_
        refine lv_icmp_ne (x := r_11) (y := 1) (tgt := 61) hx hb dX4_make_48 (by decide) (fun c_16 => ?_) (fun c_16 => ?_)
        · have hf := if_f hf c_16
          refine lv_iconst (v := (-1)) hx hb dX4_make_61 (by decide) ?_
          exact J62 _ ih v1 v2 v2 (-1) fi_12 fl_13 ar_14 H locs ls w (lv_sub hl [0, 1, 2] rfl) hf
        · have hf := if_t hf c_16
          refine lv_aload_n hx hb dX4_make_51 rfl (lv_at hl 0 rfl) ?_
          refine gfC_13_0 B w kt2_1 dX4_make_52 ?_
          obtain ⟨r_17, er_18⟩ : ∃ y, f_X2_aidAtRest fi_12 = y := ⟨_, rfl⟩
          have hf := bindv_eq hf r_17 er_18.symm
          refine callVI (As := []) (rest := [.int v2, .ref (ad 14)]) B w (c_X2_aidAtRest l D ca ak av ad fi_12 fl_13 ar_14  er_18) (gV kt3_108 kt3_109 kt3_110 kt1_7 kt3_111) hdV_X2_aidAtRest 12 rfl rfl rfl rfl ⟨Nat.le_of_ble_eq_true rfl, Nat.le_of_ble_eq_true rfl⟩ rfl hl.1 rfl (Nat.le_of_ble_eq_true rfl) dX4_make_55 ⟨Nat.le_of_ble_eq_true rfl, Nat.le_of_ble_eq_true rfl⟩ (fun H locs w => ?_)
          refine lv_goto (tgt := 62) hx hb dX4_make_58 (by decide) ?_
          exact J62 _ ih v1 v2 v2 r_17 fi_12 fl_13 ar_14 H locs ls w (lv_sub hl [0, 1, 2] rfl) hf
  unfold f_X4_make at hf
  refine (show ∀ (H : Heap) (locs : List Loc), Wd (EC D ca ak av) A s (wC ad ca fi fl ar) H locs → W p l e ({ frames := 5, cells := 0, slots := 0, locals := 120 } : Room) s m args below meth c H locs 0 0 (MQ below (Qv (EC D ca ak av) A (wC ad ca fi0 fl0 ar0)) args s 0 0 A) (F0 m 0 ls []) from ?_) s.heap [] w
  intro H locs w
  refine lv_aload_n hx hb dX4_make_0 rfl (lv_at hl 0 rfl) ?_
  refine gfC_13_2 B w kt2_3 dX4_make_1 ?_
  refine lv_if_eq (x := (fi 31)) (tgt := 8) hx hb dX4_make_4 (by decide) (fun c_19 => ?_) (fun c_19 => ?_)
  · have hf := if_t hf c_19
    refine lv_aload_n hx hb dX4_make_8 rfl (lv_at hl 0 rfl) ?_
    refine lv_iconst (v := (-1)) hx hb dX4_make_9 (by decide) ?_
    refine pfC_13_3 (v := (-1)) B w kt2_4 dX4_make_10 (fun H locs fi_20 efi_20 w => ?_)
    have hf := bindv_eq hf fi_20 efi_20
    refine lv_aload_n hx hb dX4_make_13 rfl (lv_at hl 0 rfl) ?_
    refine gfC_13_0 B w kt2_1 dX4_make_14 ?_
    refine gfC_12_0 B w kt1_213 dX4_make_17 ?_
    refine gfC_1_3 B w kt1_49 dX4_make_20 ?_
    refine lv_topi (fun x_21 ex_21 => ?_)
    have hf := bindv_eq hf x_21 ex_21
    refine lv_istore_n (lv' := [(1, .int x_21), (0, .ref (ad 13))]) hx hb dX4_make_23 rfl hl (by decide) rfl (fun ls hl => ?_)
    refine lv_iconst (v := 0) hx hb dX4_make_24 (by decide) ?_
    refine lv_istore_n (lv' := [(2, .int 0), (1, .int x_21), (0, .ref (ad 13))]) hx hb dX4_make_25 rfl hl (by decide) rfl (fun ls hl => ?_)
    exact J26  5000 x_21 0 fi_20 fl ar H locs ls w (lv_sub hl [2, 1, 0] rfl) hf
  · have hf := if_f hf c_19
    have hf : some (fi, fl, ar) = some (fi0, fl0, ar0) := hf
    obtain ⟨q0, q1, q2⟩ := so3 hf
    subst q0
    subst q1
    subst q2
    exact retV B hr hk w dX4_make_7
def f_X4_count_24 (ar : Nat → Nat → Int32) (k4 : Int32 → Int32 → Int32 → Option (Int32)) (v1 : Int32) (v2 : Int32) (v3 : Int32) : Option (Int32) := bindv (v3 + 1 : Int32) (fun x_1 => k4 v1 v2 x_1)
def f_X4_count_4 (ar : Nat → Nat → Int32)  : Nat → (Int32) → (Int32) → (Int32) → Option (Int32)
  | 0, _, _, _ => none
  | n + 1, v1, v2, v3 => if (4096 ≤ v3 : Prop) then (some v2) else (gd v3 4096 (if ((ar 14 (Int32.toNatClampNeg v3)) ≤ v1 : Prop) then (f_X4_count_24 ar (f_X4_count_4 ar n) v1 v2 v3) else (bindv (v2 + 1 : Int32) (fun x_5 => f_X4_count_24 ar (f_X4_count_4 ar n) v1 x_5 v3))))
def f_X4_count (ar : Nat → Nat → Int32) (v1 : Int32) : Option (Int32) := f_X4_count_4 ar 5000 v1 0 0
set_option maxHeartbeats 4000000 in
set_option maxRecDepth 100000 in
theorem c_X4_count (l : Launch) (D : va_G) (ca : Nat → ClassId) (ak av ad : Nat → Nat) (fi : Nat → Int32) (fl : Nat → Int64) (ar : Nat → Nat → Int32) (v1 : Int32) {r0 : Int32} (hf : f_X4_count ar v1 = some r0) : MtI l yX4_count cX4_count 4 { frames := 0, cells := 0, slots := 0, locals := 0 } (EC D ca ak av) [.ref (ad 13), .int v1] (wC ad ca fi fl ar) (wC ad ca fi fl ar) r0 := by
  refine MtI.of (own := RX4) (by decide +kernel) rfl (Nat.le_of_ble_eq_true rfl) ?_
  intro p e s m args below meth c A B hr hk w ls hl
  have hx := B.1.1
  have hb := B.1.2.1
  have hown := B.1.2.2.2.1
  have hts := B.1.2.2.2.2
  have hl : lv_has ls 4 [(0, .ref (ad 13)), (1, .int v1)] := hl
  have J24 : ∀ (k4 : Int32 → Int32 → Int32 → Option (Int32)) (hk4 : ∀ (v1 : Int32) (v2 : Int32) (v3 : Int32) (H : Heap) (locs : List Loc) (ls : Array Slot), Wd (EC D ca ak av) A s (wC ad ca fi fl ar) H locs → lv_has ls 4 [(0, .ref (ad 13)), (1, .int v1), (2, .int v2), (3, .int v3)] → k4 v1 v2 v3 = some r0 → W p l e ({ frames := 0, cells := 0, slots := 0, locals := 0 } : Room) s m args below meth c H locs 0 0 (MQ below (Qi (EC D ca ak av) A (wC ad ca fi fl ar) r0) args s 0 0 A) (F0 m 4 ls [])) (v1 : Int32) (v2 : Int32) (v3 : Int32) (H : Heap) (locs : List Loc) (ls : Array Slot), Wd (EC D ca ak av) A s (wC ad ca fi fl ar) H locs → lv_has ls 4 [(0, .ref (ad 13)), (1, .int v1), (2, .int v2), (3, .int v3)] → f_X4_count_24 ar k4 v1 v2 v3 = some r0 → W p l e ({ frames := 0, cells := 0, slots := 0, locals := 0 } : Room) s m args below meth c H locs 0 0 (MQ below (Qi (EC D ca ak av) A (wC ad ca fi fl ar) r0) args s 0 0 A) (F0 m 24 ls []) := by
    intro k4 hk4 v1 v2 v3 H locs ls w hl hf
    unfold f_X4_count_24 at hf
    obtain ⟨x_1, ex_1⟩ : ∃ y : Int32, y = v3 + 1 := ⟨_, rfl⟩
    have hf := bindv_eq hf x_1 ex_1
    refine lv_iinc (v := x_1) (lv' := [(3, .int x_1), (0, .ref (ad 13)), (1, .int v1), (2, .int v2)]) hx hb dX4_count_24 hl (k := 3) rfl (by rw [ex_1]; rfl) (by decide) rfl (fun ls hl => ?_)
    refine lv_goto (tgt := 4) hx hb dX4_count_27 (by decide) ?_
    exact hk4 v1 v2 x_1 H locs ls w (lv_sub hl [1, 2, 3, 0] rfl) hf
  have J4 : ∀ (n : Nat) (v1 : Int32) (v2 : Int32) (v3 : Int32) (H : Heap) (locs : List Loc) (ls : Array Slot), Wd (EC D ca ak av) A s (wC ad ca fi fl ar) H locs → lv_has ls 4 [(0, .ref (ad 13)), (1, .int v1), (2, .int v2), (3, .int v3)] → f_X4_count_4 ar n v1 v2 v3 = some r0 → W p l e ({ frames := 0, cells := 0, slots := 0, locals := 0 } : Room) s m args below meth c H locs 0 0 (MQ below (Qi (EC D ca ak av) A (wC ad ca fi fl ar) r0) args s 0 0 A) (F0 m 4 ls []) := by
    intro  n
    induction n with
    | zero =>
      intro v1 v2 v3 H locs ls w hl hf
      cases hf
    | succ n ih =>
      intro v1 v2 v3 H locs ls w hl hf
      rw [f_X4_count_4] at hf
      refine lv_iload_n hx hb dX4_count_4 rfl (lv_at hl 3 rfl) ?_
      refine lv_sipush (v := 4096) hx hb dX4_count_5 (by decide) ?_
      refine lv_icmp_ge (x := v3) (y := 4096) (tgt := 30) hx hb dX4_count_8 (by decide) (fun c_2 => ?_) (fun c_2 => ?_)
      · have hf := if_t hf c_2
        refine lv_iload_n hx hb dX4_count_30 rfl (lv_at hl 2 rfl) ?_
        have hf : some v2 = some r0 := hf
        have q0 := so1 hf
        subst q0
        exact retI B hr hk w dX4_count_31
      · have hf := if_f hf c_2
        refine lv_aload_n hx hb dX4_count_11 rfl (lv_at hl 0 rfl) ?_
        refine gfC_13_1 B w kt2_2 dX4_count_12 ?_
        refine lv_iload_n hx hb dX4_count_15 rfl (lv_at hl 3 rfl) ?_
        obtain ⟨hi_3, hf⟩ := gd_eq hf
        refine alC_14 B w hi_3 dX4_count_16 ?_
        refine lv_iload_n hx hb dX4_count_17 rfl (lv_at hl 1 rfl) ?_
        refine lv_icmp_le (x := (ar 14 (Int32.toNatClampNeg v3))) (y := v1) (tgt := 24) hx hb dX4_count_18 (by decide) (fun c_4 => ?_) (fun c_4 => ?_)
        · have hf := if_t hf c_4
          exact J24 _ ih v1 v2 v3 H locs ls w (lv_sub hl [0, 1, 2, 3] rfl) hf
        · have hf := if_f hf c_4
          obtain ⟨x_5, ex_5⟩ : ∃ y : Int32, y = v2 + 1 := ⟨_, rfl⟩
          have hf := bindv_eq hf x_5 ex_5
          refine lv_iinc (v := x_5) (lv' := [(2, .int x_5), (0, .ref (ad 13)), (1, .int v1), (3, .int v3)]) hx hb dX4_count_21 hl (k := 2) rfl (by rw [ex_5]; rfl) (by decide) rfl (fun ls hl => ?_)
          exact J24 _ ih v1 x_5 v3 H locs ls w (lv_sub hl [1, 2, 0, 3] rfl) hf
  unfold f_X4_count at hf
  refine (show ∀ (H : Heap) (locs : List Loc), Wd (EC D ca ak av) A s (wC ad ca fi fl ar) H locs → W p l e ({ frames := 0, cells := 0, slots := 0, locals := 0 } : Room) s m args below meth c H locs 0 0 (MQ below (Qi (EC D ca ak av) A (wC ad ca fi fl ar) r0) args s 0 0 A) (F0 m 0 ls []) from ?_) s.heap [] w
  intro H locs w
  refine lv_iconst (v := 0) hx hb dX4_count_0 (by decide) ?_
  refine lv_istore_n (lv' := [(2, .int 0), (0, .ref (ad 13)), (1, .int v1)]) hx hb dX4_count_1 rfl hl (by decide) rfl (fun ls hl => ?_)
  refine lv_iconst (v := 0) hx hb dX4_count_2 (by decide) ?_
  refine lv_istore_n (lv' := [(3, .int 0), (2, .int 0), (0, .ref (ad 13)), (1, .int v1)]) hx hb dX4_count_3 rfl hl (by decide) rfl (fun ls hl => ?_)
  exact J4  5000 v1 0 0 H locs ls w (lv_sub hl [2, 3, 1, 0] rfl) hf
def f_X4_nth_38 (ar : Nat → Nat → Int32) (k5 : Int32 → Int32 → Int32 → Int32 → Option (Int32)) (v1 : Int32) (v2 : Int32) (v3 : Int32) (v4 : Int32) : Option (Int32) := bindv (v4 + 1 : Int32) (fun x_1 => k5 v1 v2 v3 x_1)
def f_X4_nth_5 (ar : Nat → Nat → Int32)  : Nat → (Int32) → (Int32) → (Int32) → (Int32) → Option (Int32)
  | 0, _, _, _, _ => none
  | n + 1, v1, v2, v3, v4 => if (4096 ≤ v4 : Prop) then (some (-1)) else (gd v4 4096 (if (v2 < (ar 14 (Int32.toNatClampNeg v4)) : Prop) then (if (v3 = v1 : Prop) then (some v4) else (bindv (v3 + 1 : Int32) (fun x_6 => f_X4_nth_38 ar (f_X4_nth_5 ar n) v1 v2 x_6 v4))) else (f_X4_nth_38 ar (f_X4_nth_5 ar n) v1 v2 v3 v4)))
def f_X4_nth (ar : Nat → Nat → Int32) (v1 : Int32) (v2 : Int32) : Option (Int32) := f_X4_nth_5 ar 5000 v1 v2 0 0
set_option maxHeartbeats 4000000 in
set_option maxRecDepth 100000 in
theorem c_X4_nth (l : Launch) (D : va_G) (ca : Nat → ClassId) (ak av ad : Nat → Nat) (fi : Nat → Int32) (fl : Nat → Int64) (ar : Nat → Nat → Int32) (v1 : Int32) (v2 : Int32) {r0 : Int32} (hf : f_X4_nth ar v1 v2 = some r0) : MtI l yX4_nth cX4_nth 5 { frames := 0, cells := 0, slots := 0, locals := 0 } (EC D ca ak av) [.ref (ad 13), .int v1, .int v2] (wC ad ca fi fl ar) (wC ad ca fi fl ar) r0 := by
  refine MtI.of (own := RX4) (by decide +kernel) rfl (Nat.le_of_ble_eq_true rfl) ?_
  intro p e s m args below meth c A B hr hk w ls hl
  have hx := B.1.1
  have hb := B.1.2.1
  have hown := B.1.2.2.2.1
  have hts := B.1.2.2.2.2
  have hl : lv_has ls 5 [(0, .ref (ad 13)), (1, .int v1), (2, .int v2)] := hl
  have J38 : ∀ (k5 : Int32 → Int32 → Int32 → Int32 → Option (Int32)) (hk5 : ∀ (v1 : Int32) (v2 : Int32) (v3 : Int32) (v4 : Int32) (H : Heap) (locs : List Loc) (ls : Array Slot), Wd (EC D ca ak av) A s (wC ad ca fi fl ar) H locs → lv_has ls 5 [(0, .ref (ad 13)), (1, .int v1), (2, .int v2), (3, .int v3), (4, .int v4)] → k5 v1 v2 v3 v4 = some r0 → W p l e ({ frames := 0, cells := 0, slots := 0, locals := 0 } : Room) s m args below meth c H locs 0 0 (MQ below (Qi (EC D ca ak av) A (wC ad ca fi fl ar) r0) args s 0 0 A) (F0 m 5 ls [])) (v1 : Int32) (v2 : Int32) (v3 : Int32) (v4 : Int32) (H : Heap) (locs : List Loc) (ls : Array Slot), Wd (EC D ca ak av) A s (wC ad ca fi fl ar) H locs → lv_has ls 5 [(0, .ref (ad 13)), (1, .int v1), (2, .int v2), (3, .int v3), (4, .int v4)] → f_X4_nth_38 ar k5 v1 v2 v3 v4 = some r0 → W p l e ({ frames := 0, cells := 0, slots := 0, locals := 0 } : Room) s m args below meth c H locs 0 0 (MQ below (Qi (EC D ca ak av) A (wC ad ca fi fl ar) r0) args s 0 0 A) (F0 m 38 ls []) := by
    intro k5 hk5 v1 v2 v3 v4 H locs ls w hl hf
    unfold f_X4_nth_38 at hf
    obtain ⟨x_1, ex_1⟩ : ∃ y : Int32, y = v4 + 1 := ⟨_, rfl⟩
    have hf := bindv_eq hf x_1 ex_1
    refine lv_iinc (v := x_1) (lv' := [(4, .int x_1), (0, .ref (ad 13)), (1, .int v1), (2, .int v2), (3, .int v3)]) hx hb dX4_nth_38 hl (k := 4) rfl (by rw [ex_1]; rfl) (by decide) rfl (fun ls hl => ?_)
    refine lv_goto (tgt := 5) hx hb dX4_nth_41 (by decide) ?_
    exact hk5 v1 v2 v3 x_1 H locs ls w (lv_sub hl [1, 2, 3, 4, 0] rfl) hf
  have J5 : ∀ (n : Nat) (v1 : Int32) (v2 : Int32) (v3 : Int32) (v4 : Int32) (H : Heap) (locs : List Loc) (ls : Array Slot), Wd (EC D ca ak av) A s (wC ad ca fi fl ar) H locs → lv_has ls 5 [(0, .ref (ad 13)), (1, .int v1), (2, .int v2), (3, .int v3), (4, .int v4)] → f_X4_nth_5 ar n v1 v2 v3 v4 = some r0 → W p l e ({ frames := 0, cells := 0, slots := 0, locals := 0 } : Room) s m args below meth c H locs 0 0 (MQ below (Qi (EC D ca ak av) A (wC ad ca fi fl ar) r0) args s 0 0 A) (F0 m 5 ls []) := by
    intro  n
    induction n with
    | zero =>
      intro v1 v2 v3 v4 H locs ls w hl hf
      cases hf
    | succ n ih =>
      intro v1 v2 v3 v4 H locs ls w hl hf
      rw [f_X4_nth_5] at hf
      refine lv_iload hx hb dX4_nth_5 (lv_at hl 4 rfl) ?_
      refine lv_sipush (v := 4096) hx hb dX4_nth_7 (by decide) ?_
      refine lv_icmp_ge (x := v4) (y := 4096) (tgt := 44) hx hb dX4_nth_10 (by decide) (fun c_2 => ?_) (fun c_2 => ?_)
      · have hf := if_t hf c_2
        refine lv_iconst (v := (-1)) hx hb dX4_nth_44 (by decide) ?_
        have hf : some (-1) = some r0 := hf
        have q0 := so1 hf
        subst q0
        exact retI B hr hk w dX4_nth_45
      · have hf := if_f hf c_2
        refine lv_aload_n hx hb dX4_nth_13 rfl (lv_at hl 0 rfl) ?_
        refine gfC_13_1 B w kt2_2 dX4_nth_14 ?_
        refine lv_iload hx hb dX4_nth_17 (lv_at hl 4 rfl) ?_
        obtain ⟨hi_3, hf⟩ := gd_eq hf
        refine alC_14 B w hi_3 dX4_nth_19 ?_
        refine lv_iload_n hx hb dX4_nth_20 rfl (lv_at hl 2 rfl) ?_
        refine lv_icmp_gt (x := (ar 14 (Int32.toNatClampNeg v4))) (y := v2) (tgt := 27) hx hb dX4_nth_21 (by decide) (fun c_4 => ?_) (fun c_4 => ?_)
        · have hf := if_t hf c_4
          refine lv_iload_n hx hb dX4_nth_27 rfl (lv_at hl 3 rfl) ?_
          refine lv_iload_n hx hb dX4_nth_28 rfl (lv_at hl 1 rfl) ?_
          refine lv_icmp_ne (x := v3) (y := v1) (tgt := 35) hx hb dX4_nth_29 (by decide) (fun c_5 => ?_) (fun c_5 => ?_)
          · have hf := if_f hf c_5
            obtain ⟨x_6, ex_6⟩ : ∃ y : Int32, y = v3 + 1 := ⟨_, rfl⟩
            have hf := bindv_eq hf x_6 ex_6
            refine lv_iinc (v := x_6) (lv' := [(3, .int x_6), (0, .ref (ad 13)), (1, .int v1), (2, .int v2), (4, .int v4)]) hx hb dX4_nth_35 hl (k := 3) rfl (by rw [ex_6]; rfl) (by decide) rfl (fun ls hl => ?_)
            exact J38 _ ih v1 v2 x_6 v4 H locs ls w (lv_sub hl [1, 2, 3, 0, 4] rfl) hf
          · have hf := if_t hf c_5
            refine lv_iload hx hb dX4_nth_32 (lv_at hl 4 rfl) ?_
            have hf : some v4 = some r0 := hf
            have q0 := so1 hf
            subst q0
            exact retI B hr hk w dX4_nth_34
        · have hf := if_f hf c_4
          refine lv_goto (tgt := 38) hx hb dX4_nth_24 (by decide) ?_
          exact J38 _ ih v1 v2 v3 v4 H locs ls w (lv_sub hl [0, 1, 2, 3, 4] rfl) hf
  unfold f_X4_nth at hf
  refine (show ∀ (H : Heap) (locs : List Loc), Wd (EC D ca ak av) A s (wC ad ca fi fl ar) H locs → W p l e ({ frames := 0, cells := 0, slots := 0, locals := 0 } : Room) s m args below meth c H locs 0 0 (MQ below (Qi (EC D ca ak av) A (wC ad ca fi fl ar) r0) args s 0 0 A) (F0 m 0 ls []) from ?_) s.heap [] w
  intro H locs w
  refine lv_iconst (v := 0) hx hb dX4_nth_0 (by decide) ?_
  refine lv_istore_n (lv' := [(3, .int 0), (0, .ref (ad 13)), (1, .int v1), (2, .int v2)]) hx hb dX4_nth_1 rfl hl (by decide) rfl (fun ls hl => ?_)
  refine lv_iconst (v := 0) hx hb dX4_nth_2 (by decide) ?_
  refine lv_istore (lv' := [(4, .int 0), (3, .int 0), (0, .ref (ad 13)), (1, .int v1), (2, .int v2)]) hx hb dX4_nth_3 hl (by decide) rfl (fun ls hl => ?_)
  exact J5  5000 v1 v2 0 0 H locs ls w (lv_sub hl [2, 3, 4, 1, 0] rfl) hf
def f_X4_mostHelped_34 (fi : Nat → Int32) (ar : Nat → Nat → Int32) (k2 : Int32 → Int32 → Option (Int32)) (v1 : Int32) (v2 : Int32) : Option (Int32) := bindv (v2 + 1 : Int32) (fun x_1 => k2 v1 x_1)
def f_X4_mostHelped_2 (fi : Nat → Int32) (ar : Nat → Nat → Int32)  : Nat → (Int32) → (Int32) → Option (Int32)
  | 0, _, _ => none
  | n + 1, v1, v2 => if (4096 ≤ v2 : Prop) then (some (-1)) else (gd v2 4096 (if ((ar 14 (Int32.toNatClampNeg v2)) ≤ v1 : Prop) then (f_X4_mostHelped_34 fi ar (f_X4_mostHelped_2 fi ar n) v1 v2) else (gd v2 4096 (if ((ar 14 (Int32.toNatClampNeg v2)) = (fi 32) : Prop) then (some v2) else (f_X4_mostHelped_34 fi ar (f_X4_mostHelped_2 fi ar n) v1 v2)))))
def f_X4_mostHelped (fi : Nat → Int32) (ar : Nat → Nat → Int32) (v1 : Int32) : Option (Int32) := f_X4_mostHelped_2 fi ar 5000 v1 0
set_option maxHeartbeats 4000000 in
set_option maxRecDepth 100000 in
theorem c_X4_mostHelped (l : Launch) (D : va_G) (ca : Nat → ClassId) (ak av ad : Nat → Nat) (fi : Nat → Int32) (fl : Nat → Int64) (ar : Nat → Nat → Int32) (v1 : Int32) {r0 : Int32} (hf : f_X4_mostHelped fi ar v1 = some r0) : MtI l yX4_mostHelped cX4_mostHelped 3 { frames := 0, cells := 0, slots := 0, locals := 0 } (EC D ca ak av) [.ref (ad 13), .int v1] (wC ad ca fi fl ar) (wC ad ca fi fl ar) r0 := by
  refine MtI.of (own := RX4) (by decide +kernel) rfl (Nat.le_of_ble_eq_true rfl) ?_
  intro p e s m args below meth c A B hr hk w ls hl
  have hx := B.1.1
  have hb := B.1.2.1
  have hown := B.1.2.2.2.1
  have hts := B.1.2.2.2.2
  have hl : lv_has ls 3 [(0, .ref (ad 13)), (1, .int v1)] := hl
  have J34 : ∀ (k2 : Int32 → Int32 → Option (Int32)) (hk2 : ∀ (v1 : Int32) (v2 : Int32) (H : Heap) (locs : List Loc) (ls : Array Slot), Wd (EC D ca ak av) A s (wC ad ca fi fl ar) H locs → lv_has ls 3 [(0, .ref (ad 13)), (1, .int v1), (2, .int v2)] → k2 v1 v2 = some r0 → W p l e ({ frames := 0, cells := 0, slots := 0, locals := 0 } : Room) s m args below meth c H locs 0 0 (MQ below (Qi (EC D ca ak av) A (wC ad ca fi fl ar) r0) args s 0 0 A) (F0 m 2 ls [])) (v1 : Int32) (v2 : Int32) (H : Heap) (locs : List Loc) (ls : Array Slot), Wd (EC D ca ak av) A s (wC ad ca fi fl ar) H locs → lv_has ls 3 [(0, .ref (ad 13)), (1, .int v1), (2, .int v2)] → f_X4_mostHelped_34 fi ar k2 v1 v2 = some r0 → W p l e ({ frames := 0, cells := 0, slots := 0, locals := 0 } : Room) s m args below meth c H locs 0 0 (MQ below (Qi (EC D ca ak av) A (wC ad ca fi fl ar) r0) args s 0 0 A) (F0 m 34 ls []) := by
    intro k2 hk2 v1 v2 H locs ls w hl hf
    unfold f_X4_mostHelped_34 at hf
    obtain ⟨x_1, ex_1⟩ : ∃ y : Int32, y = v2 + 1 := ⟨_, rfl⟩
    have hf := bindv_eq hf x_1 ex_1
    refine lv_iinc (v := x_1) (lv' := [(2, .int x_1), (0, .ref (ad 13)), (1, .int v1)]) hx hb dX4_mostHelped_34 hl (k := 2) rfl (by rw [ex_1]; rfl) (by decide) rfl (fun ls hl => ?_)
    refine lv_goto (tgt := 2) hx hb dX4_mostHelped_37 (by decide) ?_
    exact hk2 v1 x_1 H locs ls w (lv_sub hl [1, 2, 0] rfl) hf
  have J2 : ∀ (n : Nat) (v1 : Int32) (v2 : Int32) (H : Heap) (locs : List Loc) (ls : Array Slot), Wd (EC D ca ak av) A s (wC ad ca fi fl ar) H locs → lv_has ls 3 [(0, .ref (ad 13)), (1, .int v1), (2, .int v2)] → f_X4_mostHelped_2 fi ar n v1 v2 = some r0 → W p l e ({ frames := 0, cells := 0, slots := 0, locals := 0 } : Room) s m args below meth c H locs 0 0 (MQ below (Qi (EC D ca ak av) A (wC ad ca fi fl ar) r0) args s 0 0 A) (F0 m 2 ls []) := by
    intro  n
    induction n with
    | zero =>
      intro v1 v2 H locs ls w hl hf
      cases hf
    | succ n ih =>
      intro v1 v2 H locs ls w hl hf
      rw [f_X4_mostHelped_2] at hf
      refine lv_iload_n hx hb dX4_mostHelped_2 rfl (lv_at hl 2 rfl) ?_
      refine lv_sipush (v := 4096) hx hb dX4_mostHelped_3 (by decide) ?_
      refine lv_icmp_ge (x := v2) (y := 4096) (tgt := 40) hx hb dX4_mostHelped_6 (by decide) (fun c_2 => ?_) (fun c_2 => ?_)
      · have hf := if_t hf c_2
        refine lv_iconst (v := (-1)) hx hb dX4_mostHelped_40 (by decide) ?_
        have hf : some (-1) = some r0 := hf
        have q0 := so1 hf
        subst q0
        exact retI B hr hk w dX4_mostHelped_41
      · have hf := if_f hf c_2
        refine lv_aload_n hx hb dX4_mostHelped_9 rfl (lv_at hl 0 rfl) ?_
        refine gfC_13_1 B w kt2_2 dX4_mostHelped_10 ?_
        refine lv_iload_n hx hb dX4_mostHelped_13 rfl (lv_at hl 2 rfl) ?_
        obtain ⟨hi_3, hf⟩ := gd_eq hf
        refine alC_14 B w hi_3 dX4_mostHelped_14 ?_
        refine lv_iload_n hx hb dX4_mostHelped_15 rfl (lv_at hl 1 rfl) ?_
        refine lv_icmp_le (x := (ar 14 (Int32.toNatClampNeg v2))) (y := v1) (tgt := 34) hx hb dX4_mostHelped_16 (by decide) (fun c_4 => ?_) (fun c_4 => ?_)
        · have hf := if_t hf c_4
          exact J34 _ ih v1 v2 H locs ls w (lv_sub hl [0, 1, 2] rfl) hf
        · have hf := if_f hf c_4
          refine lv_aload_n hx hb dX4_mostHelped_19 rfl (lv_at hl 0 rfl) ?_
          refine gfC_13_1 B w kt2_2 dX4_mostHelped_20 ?_
          refine lv_iload_n hx hb dX4_mostHelped_23 rfl (lv_at hl 2 rfl) ?_
          obtain ⟨hi_5, hf⟩ := gd_eq hf
          refine alC_14 B w hi_5 dX4_mostHelped_24 ?_
          refine lv_aload_n hx hb dX4_mostHelped_25 rfl (lv_at hl 0 rfl) ?_
          refine gfC_13_3 B w kt2_4 dX4_mostHelped_26 ?_
          refine lv_icmp_ne (x := (ar 14 (Int32.toNatClampNeg v2))) (y := (fi 32)) (tgt := 34) hx hb dX4_mostHelped_29 (by decide) (fun c_6 => ?_) (fun c_6 => ?_)
          · have hf := if_f hf c_6
            exact J34 _ ih v1 v2 H locs ls w (lv_sub hl [0, 1, 2] rfl) hf
          · have hf := if_t hf c_6
            refine lv_iload_n hx hb dX4_mostHelped_32 rfl (lv_at hl 2 rfl) ?_
            have hf : some v2 = some r0 := hf
            have q0 := so1 hf
            subst q0
            exact retI B hr hk w dX4_mostHelped_33
  unfold f_X4_mostHelped at hf
  refine (show ∀ (H : Heap) (locs : List Loc), Wd (EC D ca ak av) A s (wC ad ca fi fl ar) H locs → W p l e ({ frames := 0, cells := 0, slots := 0, locals := 0 } : Room) s m args below meth c H locs 0 0 (MQ below (Qi (EC D ca ak av) A (wC ad ca fi fl ar) r0) args s 0 0 A) (F0 m 0 ls []) from ?_) s.heap [] w
  intro H locs w
  refine lv_iconst (v := 0) hx hb dX4_mostHelped_0 (by decide) ?_
  refine lv_istore_n (lv' := [(2, .int 0), (0, .ref (ad 13)), (1, .int v1)]) hx hb dX4_mostHelped_1 rfl hl (by decide) rfl (fun ls hl => ?_)
  exact J2  5000 v1 0 H locs ls w (lv_sub hl [1, 2, 0] rfl) hf
def f_X4_plainest_48 (ar : Nat → Nat → Int32) (k8 : Int32 → Int32 → Int32 → Int32 → Option (Int32)) (v1 : Int32) (v2 : Int32) (v3 : Int32) (v4 : Int32) : Option (Int32) := bindv (v4 + 1 : Int32) (fun x_1 => k8 v1 v2 v3 x_1)
def f_X4_plainest_8 (ar : Nat → Nat → Int32)  : Nat → (Int32) → (Int32) → (Int32) → (Int32) → Option (Int32)
  | 0, _, _, _, _ => none
  | n + 1, v1, v2, v3, v4 => if (4096 ≤ v4 : Prop) then (some v2) else (gd v4 4096 (if ((ar 14 (Int32.toNatClampNeg v4)) ≤ v1 : Prop) then (f_X4_plainest_48 ar (f_X4_plainest_8 ar n) v1 v2 v3 v4) else (bind1 (f_X8_plainness v4) (fun r_5 => if (r_5 < v3 : Prop) then (bind1 (f_X8_plainness v4) (fun r_8 => f_X4_plainest_48 ar (f_X4_plainest_8 ar n) v1 v4 r_8 v4)) else (f_X4_plainest_48 ar (f_X4_plainest_8 ar n) v1 v2 v3 v4)))))
def f_X4_plainest (ar : Nat → Nat → Int32) (v1 : Int32) : Option (Int32) := f_X4_plainest_8 ar 5000 v1 (-1) 6 0
set_option maxHeartbeats 4000000 in
set_option maxRecDepth 100000 in
theorem c_X4_plainest (l : Launch) (D : va_G) (ca : Nat → ClassId) (ak av ad : Nat → Nat) (fi : Nat → Int32) (fl : Nat → Int64) (ar : Nat → Nat → Int32) (v1 : Int32) {r0 : Int32} (hf : f_X4_plainest ar v1 = some r0) : MtI l yX4_plainest cX4_plainest 5 { frames := 3, cells := 0, slots := 0, locals := 66 } (EC D ca ak av) [.ref (ad 13), .int v1] (wC ad ca fi fl ar) (wC ad ca fi fl ar) r0 := by
  refine MtI.of (own := RX4) (by decide +kernel) rfl (Nat.le_of_ble_eq_true rfl) ?_
  intro p e s m args below meth c A B hr hk w ls hl
  have hx := B.1.1
  have hb := B.1.2.1
  have hown := B.1.2.2.2.1
  have hts := B.1.2.2.2.2
  have hl : lv_has ls 5 [(0, .ref (ad 13)), (1, .int v1)] := hl
  have J48 : ∀ (k8 : Int32 → Int32 → Int32 → Int32 → Option (Int32)) (hk8 : ∀ (v1 : Int32) (v2 : Int32) (v3 : Int32) (v4 : Int32) (H : Heap) (locs : List Loc) (ls : Array Slot), Wd (EC D ca ak av) A s (wC ad ca fi fl ar) H locs → lv_has ls 5 [(0, .ref (ad 13)), (1, .int v1), (2, .int v2), (3, .int v3), (4, .int v4)] → k8 v1 v2 v3 v4 = some r0 → W p l e ({ frames := 3, cells := 0, slots := 0, locals := 66 } : Room) s m args below meth c H locs 0 0 (MQ below (Qi (EC D ca ak av) A (wC ad ca fi fl ar) r0) args s 0 0 A) (F0 m 8 ls [])) (v1 : Int32) (v2 : Int32) (v3 : Int32) (v4 : Int32) (H : Heap) (locs : List Loc) (ls : Array Slot), Wd (EC D ca ak av) A s (wC ad ca fi fl ar) H locs → lv_has ls 5 [(0, .ref (ad 13)), (1, .int v1), (2, .int v2), (3, .int v3), (4, .int v4)] → f_X4_plainest_48 ar k8 v1 v2 v3 v4 = some r0 → W p l e ({ frames := 3, cells := 0, slots := 0, locals := 66 } : Room) s m args below meth c H locs 0 0 (MQ below (Qi (EC D ca ak av) A (wC ad ca fi fl ar) r0) args s 0 0 A) (F0 m 48 ls []) := by
    intro k8 hk8 v1 v2 v3 v4 H locs ls w hl hf
    unfold f_X4_plainest_48 at hf
    obtain ⟨x_1, ex_1⟩ : ∃ y : Int32, y = v4 + 1 := ⟨_, rfl⟩
    have hf := bindv_eq hf x_1 ex_1
    refine lv_iinc (v := x_1) (lv' := [(4, .int x_1), (0, .ref (ad 13)), (1, .int v1), (2, .int v2), (3, .int v3)]) hx hb dX4_plainest_48 hl (k := 4) rfl (by rw [ex_1]; rfl) (by decide) rfl (fun ls hl => ?_)
    refine lv_goto (tgt := 8) hx hb dX4_plainest_51 (by decide) ?_
    exact hk8 v1 v2 v3 x_1 H locs ls w (lv_sub hl [1, 2, 3, 4, 0] rfl) hf
  have J8 : ∀ (n : Nat) (v1 : Int32) (v2 : Int32) (v3 : Int32) (v4 : Int32) (H : Heap) (locs : List Loc) (ls : Array Slot), Wd (EC D ca ak av) A s (wC ad ca fi fl ar) H locs → lv_has ls 5 [(0, .ref (ad 13)), (1, .int v1), (2, .int v2), (3, .int v3), (4, .int v4)] → f_X4_plainest_8 ar n v1 v2 v3 v4 = some r0 → W p l e ({ frames := 3, cells := 0, slots := 0, locals := 66 } : Room) s m args below meth c H locs 0 0 (MQ below (Qi (EC D ca ak av) A (wC ad ca fi fl ar) r0) args s 0 0 A) (F0 m 8 ls []) := by
    intro  n
    induction n with
    | zero =>
      intro v1 v2 v3 v4 H locs ls w hl hf
      cases hf
    | succ n ih =>
      intro v1 v2 v3 v4 H locs ls w hl hf
      rw [f_X4_plainest_8] at hf
      refine lv_iload hx hb dX4_plainest_8 (lv_at hl 4 rfl) ?_
      refine lv_sipush (v := 4096) hx hb dX4_plainest_10 (by decide) ?_
      refine lv_icmp_ge (x := v4) (y := 4096) (tgt := 54) hx hb dX4_plainest_13 (by decide) (fun c_2 => ?_) (fun c_2 => ?_)
      · have hf := if_t hf c_2
        refine lv_iload_n hx hb dX4_plainest_54 rfl (lv_at hl 2 rfl) ?_
        have hf : some v2 = some r0 := hf
        have q0 := so1 hf
        subst q0
        exact retI B hr hk w dX4_plainest_55
      · have hf := if_f hf c_2
        refine lv_aload_n hx hb dX4_plainest_16 rfl (lv_at hl 0 rfl) ?_
        refine gfC_13_1 B w kt2_2 dX4_plainest_17 ?_
        refine lv_iload hx hb dX4_plainest_20 (lv_at hl 4 rfl) ?_
        obtain ⟨hi_3, hf⟩ := gd_eq hf
        refine alC_14 B w hi_3 dX4_plainest_22 ?_
        refine lv_iload_n hx hb dX4_plainest_23 rfl (lv_at hl 1 rfl) ?_
        refine lv_icmp_le (x := (ar 14 (Int32.toNatClampNeg v4))) (y := v1) (tgt := 48) hx hb dX4_plainest_24 (by decide) (fun c_4 => ?_) (fun c_4 => ?_)
        · have hf := if_t hf c_4
          exact J48 _ ih v1 v2 v3 v4 H locs ls w (lv_sub hl [0, 1, 2, 3, 4] rfl) hf
        · have hf := if_f hf c_4
          refine lv_iload hx hb dX4_plainest_27 (lv_at hl 4 rfl) ?_
          obtain ⟨r_5, er_6, hf⟩ := bind1_eq hf
          refine callNI (As := [.int v4]) (rest := []) B w (c_X8_plainness l _ v4 er_6) (gN kt3_138) (by decide) kt1_1 kt3_137 hdS_X8_plainness rfl rfl ⟨Nat.le_of_ble_eq_true rfl, Nat.le_of_ble_eq_true rfl⟩ rfl hl.1 rfl (Nat.le_of_ble_eq_true rfl) dX4_plainest_29 ⟨Nat.le_of_ble_eq_true rfl, Nat.le_of_ble_eq_true rfl⟩ (fun H locs w => ?_)
          refine lv_iload_n hx hb dX4_plainest_32 rfl (lv_at hl 3 rfl) ?_
          refine lv_icmp_lt (x := r_5) (y := v3) (tgt := 39) hx hb dX4_plainest_33 (by decide) (fun c_7 => ?_) (fun c_7 => ?_)
          · have hf := if_t hf c_7
            refine lv_iload hx hb dX4_plainest_39 (lv_at hl 4 rfl) ?_
            refine lv_istore_n (lv' := [(2, .int v4), (0, .ref (ad 13)), (1, .int v1), (3, .int v3), (4, .int v4)]) hx hb dX4_plainest_41 rfl hl (by decide) rfl (fun ls hl => ?_)
            refine lv_iload hx hb dX4_plainest_42 (lv_at hl 4 rfl) ?_
            obtain ⟨r_8, er_9, hf⟩ := bind1_eq hf
            refine callNI (As := [.int v4]) (rest := []) B w (c_X8_plainness l _ v4 er_9) (gN kt3_138) (by decide) kt1_1 kt3_137 hdS_X8_plainness rfl rfl ⟨Nat.le_of_ble_eq_true rfl, Nat.le_of_ble_eq_true rfl⟩ rfl hl.1 rfl (Nat.le_of_ble_eq_true rfl) dX4_plainest_44 ⟨Nat.le_of_ble_eq_true rfl, Nat.le_of_ble_eq_true rfl⟩ (fun H locs w => ?_)
            refine lv_istore_n (lv' := [(3, .int r_8), (2, .int v4), (0, .ref (ad 13)), (1, .int v1), (4, .int v4)]) hx hb dX4_plainest_47 rfl hl (by decide) rfl (fun ls hl => ?_)
            exact J48 _ ih v1 v4 r_8 v4 H locs ls w (lv_sub hl [2, 3, 1, 0, 4] rfl) hf
          · have hf := if_f hf c_7
            refine lv_goto (tgt := 48) hx hb dX4_plainest_36 (by decide) ?_
            exact J48 _ ih v1 v2 v3 v4 H locs ls w (lv_sub hl [0, 1, 2, 3, 4] rfl) hf
  unfold f_X4_plainest at hf
  refine (show ∀ (H : Heap) (locs : List Loc), Wd (EC D ca ak av) A s (wC ad ca fi fl ar) H locs → W p l e ({ frames := 3, cells := 0, slots := 0, locals := 66 } : Room) s m args below meth c H locs 0 0 (MQ below (Qi (EC D ca ak av) A (wC ad ca fi fl ar) r0) args s 0 0 A) (F0 m 0 ls []) from ?_) s.heap [] w
  intro H locs w
  refine lv_iconst (v := (-1)) hx hb dX4_plainest_0 (by decide) ?_
  refine lv_istore_n (lv' := [(2, .int (-1)), (0, .ref (ad 13)), (1, .int v1)]) hx hb dX4_plainest_1 rfl hl (by decide) rfl (fun ls hl => ?_)
  refine lv_bipush (v := 6) hx hb dX4_plainest_2 (by decide) ?_
  refine lv_istore_n (lv' := [(3, .int 6), (2, .int (-1)), (0, .ref (ad 13)), (1, .int v1)]) hx hb dX4_plainest_4 rfl hl (by decide) rfl (fun ls hl => ?_)
  refine lv_iconst (v := 0) hx hb dX4_plainest_5 (by decide) ?_
  refine lv_istore (lv' := [(4, .int 0), (3, .int 6), (2, .int (-1)), (0, .ref (ad 13)), (1, .int v1)]) hx hb dX4_plainest_6 hl (by decide) rfl (fun ls hl => ?_)
  exact J8  5000 v1 (-1) 6 0 H locs ls w (lv_sub hl [3, 4, 2, 1, 0] rfl) hf
def f_X4_firmest_85  (k29 : Int32 → Int32 → (Nat → Int32) → (Nat → Int64) → (Nat → Nat → Int32) → Option (Int32 × (Nat → Int32) × (Nat → Int64) × (Nat → Nat → Int32))) (v2 : Int32) (v3 : Int32) (fi : Nat → Int32) (fl : Nat → Int64) (ar : Nat → Nat → Int32) : Option (Int32 × (Nat → Int32) × (Nat → Int64) × (Nat → Nat → Int32)) := bindv (v3 + 1 : Int32) (fun x_1 => k29 v2 x_1 fi fl ar)
def f_X4_firmest_29   : Nat → (Int32) → (Int32) → (Nat → Int32) → (Nat → Int64) → (Nat → Nat → Int32) → Option (Int32 × (Nat → Int32) × (Nat → Int64) × (Nat → Nat → Int32))
  | 0, _, _, _, _, _ => none
  | n + 1, v2, v3, fi, fl, ar => if (4096 ≤ v3 : Prop) then (some ((fi 33), fi, fl, ar)) else (if (50 ≤ v2 : Prop) then (some ((fi 33), fi, fl, ar)) else (gd v3 4096 (if ((ar 14 (Int32.toNatClampNeg v3)) = (fi 32) : Prop) then (bind4 (f_X2_greatestEye fi fl ar v3) (fun r_6 fi_7 fl_8 ar_9 => if (v2 < r_6 : Prop) then (bindv (upd fi_7 33 v3) (fun fi_12 => f_X4_firmest_85 (f_X4_firmest_29 n) r_6 v3 fi_12 fl_8 ar_9)) else (f_X4_firmest_85 (f_X4_firmest_29 n) v2 v3 fi_7 fl_8 ar_9))) else (f_X4_firmest_85 (f_X4_firmest_29 n) v2 v3 fi fl ar))))
def f_X4_firmest (fi : Nat → Int32) (fl : Nat → Int64) (ar : Nat → Nat → Int32) (v1 : Int32) : Option (Int32 × (Nat → Int32) × (Nat → Int64) × (Nat → Nat → Int32)) := if (v1 < (fi 32) : Prop) then (if ((fi 33) = (-2) : Prop) then (f_X4_firmest_29  5000 (-2) 0 fi fl ar) else (some ((fi 33), fi, fl, ar))) else (some ((-1), fi, fl, ar))
set_option maxHeartbeats 4000000 in
set_option maxRecDepth 100000 in
theorem c_X4_firmest (l : Launch) (D : va_G) (ca : Nat → ClassId) (ak av ad : Nat → Nat) (fi : Nat → Int32) (fl : Nat → Int64) (ar : Nat → Nat → Int32) (v1 : Int32) {r0 : Int32} {fi0 : Nat → Int32} {fl0 : Nat → Int64} {ar0 : Nat → Nat → Int32} (hf : f_X4_firmest fi fl ar v1 = some (r0, fi0, fl0, ar0)) : MtI l yX4_firmest cX4_firmest 5 { frames := 6, cells := 0, slots := 0, locals := 142 } (EC D ca ak av) [.ref (ad 13), .int v1] (wC ad ca fi fl ar) (wC ad ca fi0 fl0 ar0) r0 := by
  refine MtI.of (own := RX4) (by decide +kernel) rfl (Nat.le_of_ble_eq_true rfl) ?_
  intro p e s m args below meth c A B hr hk w ls hl
  have hx := B.1.1
  have hb := B.1.2.1
  have hown := B.1.2.2.2.1
  have hts := B.1.2.2.2.2
  have hl : lv_has ls 5 [(0, .ref (ad 13)), (1, .int v1)] := hl
  have J85 : ∀ (k29 : Int32 → Int32 → (Nat → Int32) → (Nat → Int64) → (Nat → Nat → Int32) → Option (Int32 × (Nat → Int32) × (Nat → Int64) × (Nat → Nat → Int32))) (hk29 : ∀ (v2 : Int32) (v3 : Int32) (fi : Nat → Int32) (fl : Nat → Int64) (ar : Nat → Nat → Int32) (H : Heap) (locs : List Loc) (ls : Array Slot), Wd (EC D ca ak av) A s (wC ad ca fi fl ar) H locs → lv_has ls 5 [(0, .ref (ad 13)), (2, .int v2), (3, .int v3)] → k29 v2 v3 fi fl ar = some (r0, fi0, fl0, ar0) → W p l e ({ frames := 6, cells := 0, slots := 0, locals := 142 } : Room) s m args below meth c H locs 0 0 (MQ below (Qi (EC D ca ak av) A (wC ad ca fi0 fl0 ar0) r0) args s 0 0 A) (F0 m 29 ls [])) (v2 : Int32) (v3 : Int32) (fi : Nat → Int32) (fl : Nat → Int64) (ar : Nat → Nat → Int32) (H : Heap) (locs : List Loc) (ls : Array Slot), Wd (EC D ca ak av) A s (wC ad ca fi fl ar) H locs → lv_has ls 5 [(0, .ref (ad 13)), (2, .int v2), (3, .int v3)] → f_X4_firmest_85 k29 v2 v3 fi fl ar = some (r0, fi0, fl0, ar0) → W p l e ({ frames := 6, cells := 0, slots := 0, locals := 142 } : Room) s m args below meth c H locs 0 0 (MQ below (Qi (EC D ca ak av) A (wC ad ca fi0 fl0 ar0) r0) args s 0 0 A) (F0 m 85 ls []) := by
    intro k29 hk29 v2 v3 fi fl ar H locs ls w hl hf
    unfold f_X4_firmest_85 at hf
    obtain ⟨x_1, ex_1⟩ : ∃ y : Int32, y = v3 + 1 := ⟨_, rfl⟩
    have hf := bindv_eq hf x_1 ex_1
    refine lv_iinc (v := x_1) (lv' := [(3, .int x_1), (0, .ref (ad 13)), (2, .int v2)]) hx hb dX4_firmest_85 hl (k := 2) rfl (by rw [ex_1]; rfl) (by decide) rfl (fun ls hl => ?_)
    refine lv_goto (tgt := 29) hx hb dX4_firmest_88 (by decide) ?_
    exact hk29 v2 x_1 fi fl ar H locs ls w (lv_sub hl [1, 2, 0] rfl) hf
  have J29 : ∀ (n : Nat) (v2 : Int32) (v3 : Int32) (fi : Nat → Int32) (fl : Nat → Int64) (ar : Nat → Nat → Int32) (H : Heap) (locs : List Loc) (ls : Array Slot), Wd (EC D ca ak av) A s (wC ad ca fi fl ar) H locs → lv_has ls 5 [(0, .ref (ad 13)), (2, .int v2), (3, .int v3)] → f_X4_firmest_29  n v2 v3 fi fl ar = some (r0, fi0, fl0, ar0) → W p l e ({ frames := 6, cells := 0, slots := 0, locals := 142 } : Room) s m args below meth c H locs 0 0 (MQ below (Qi (EC D ca ak av) A (wC ad ca fi0 fl0 ar0) r0) args s 0 0 A) (F0 m 29 ls []) := by
    intro  n
    induction n with
    | zero =>
      intro v2 v3 fi fl ar H locs ls w hl hf
      cases hf
    | succ n ih =>
      intro v2 v3 fi fl ar H locs ls w hl hf
      rw [f_X4_firmest_29] at hf
      refine lv_iload_n hx hb dX4_firmest_29 rfl (lv_at hl 2 rfl) ?_
      refine lv_sipush (v := 4096) hx hb dX4_firmest_30 (by decide) ?_
      refine lv_icmp_ge (x := v3) (y := 4096) (tgt := 91) hx hb dX4_firmest_33 (by decide) (fun c_2 => ?_) (fun c_2 => ?_)
      · have hf := if_t hf c_2
        refine lv_aload_n hx hb dX4_firmest_91 rfl (lv_at hl 0 rfl) ?_
        refine gfC_13_4 B w kt2_5 dX4_firmest_92 ?_
        have hf : some ((fi 33), fi, fl, ar) = some (r0, fi0, fl0, ar0) := hf
        obtain ⟨q0, q1, q2, q3⟩ := so4 hf
        subst q0
        subst q1
        subst q2
        subst q3
        exact retI B hr hk w dX4_firmest_95
      · have hf := if_f hf c_2
        refine lv_iload_n hx hb dX4_firmest_36 rfl (lv_at hl 1 rfl) ?_
        refine lv_bipush (v := 50) hx hb dX4_firmest_37 (by decide) ?_
        refine lv_icmp_ge (x := v2) (y := 50) (tgt := 91) hx hb dX4_firmest_39 (by decide) (fun c_3 => ?_) (fun c_3 => ?_)
        · have hf := if_t hf c_3
          refine lv_aload_n hx hb dX4_firmest_91 rfl (lv_at hl 0 rfl) ?_
          refine gfC_13_4 B w kt2_5 dX4_firmest_92 ?_
          have hf : some ((fi 33), fi, fl, ar) = some (r0, fi0, fl0, ar0) := hf
          obtain ⟨q0, q1, q2, q3⟩ := so4 hf
          subst q0
          subst q1
          subst q2
          subst q3
          exact retI B hr hk w dX4_firmest_95
        · have hf := if_f hf c_3
          refine lv_aload_n hx hb dX4_firmest_42 rfl (lv_at hl 0 rfl) ?_
          refine gfC_13_1 B w kt2_2 dX4_firmest_43 ?_
          refine lv_iload_n hx hb dX4_firmest_46 rfl (lv_at hl 2 rfl) ?_
          obtain ⟨hi_4, hf⟩ := gd_eq hf
          refine alC_14 B w hi_4 dX4_firmest_47 ?_
          refine lv_aload_n hx hb dX4_firmest_48 rfl (lv_at hl 0 rfl) ?_
          refine gfC_13_3 B w kt2_4 dX4_firmest_49 ?_
          refine lv_icmp_eq (x := (ar 14 (Int32.toNatClampNeg v3))) (y := (fi 32)) (tgt := 58) hx hb dX4_firmest_52 (by decide) (fun c_5 => ?_) (fun c_5 => ?_)
          · have hf := if_t hf c_5
            refine lv_aload_n hx hb dX4_firmest_58 rfl (lv_at hl 0 rfl) ?_
            refine gfC_13_0 B w kt2_1 dX4_firmest_59 ?_
            refine lv_iload_n hx hb dX4_firmest_62 rfl (lv_at hl 2 rfl) ?_
            obtain ⟨r_6, fi_7, fl_8, ar_9, er_10, hf⟩ := bind4_eq hf
            refine callVI (As := [.int v3]) (rest := []) B w (c_X2_greatestEye l D ca ak av ad fi fl ar v3 er_10) (gV kt3_146 kt3_147 kt3_148 kt1_7 kt3_149) hdV_X2_greatestEye 12 rfl rfl rfl rfl ⟨Nat.le_of_ble_eq_true rfl, Nat.le_of_ble_eq_true rfl⟩ rfl hl.1 rfl (Nat.le_of_ble_eq_true rfl) dX4_firmest_63 ⟨Nat.le_of_ble_eq_true rfl, Nat.le_of_ble_eq_true rfl⟩ (fun H locs w => ?_)
            refine lv_istore (lv' := [(4, .int r_6), (0, .ref (ad 13)), (2, .int v2), (3, .int v3)]) hx hb dX4_firmest_66 hl (by decide) rfl (fun ls hl => ?_)
            refine lv_iload hx hb dX4_firmest_68 (lv_at hl 0 rfl) ?_
            refine lv_iload_n hx hb dX4_firmest_70 rfl (lv_at hl 2 rfl) ?_
            refine lv_icmp_gt (x := r_6) (y := v2) (tgt := 77) hx hb dX4_firmest_71 (by decide) (fun c_11 => ?_) (fun c_11 => ?_)
            · have hf := if_t hf c_11
              refine lv_aload_n hx hb dX4_firmest_77 rfl (lv_at hl 1 rfl) ?_
              refine lv_iload_n hx hb dX4_firmest_78 rfl (lv_at hl 3 rfl) ?_
              refine pfC_13_4 (v := v3) B w kt2_5 dX4_firmest_79 (fun H locs fi_12 efi_12 w => ?_)
              have hf := bindv_eq hf fi_12 efi_12
              refine lv_iload hx hb dX4_firmest_82 (lv_at hl 0 rfl) ?_
              refine lv_istore_n (lv' := [(2, .int r_6), (4, .int r_6), (0, .ref (ad 13)), (3, .int v3)]) hx hb dX4_firmest_84 rfl hl (by decide) rfl (fun ls hl => ?_)
              exact J85 _ ih r_6 v3 fi_12 fl_8 ar_9 H locs ls w (lv_sub hl [2, 0, 3] rfl) hf
            · have hf := if_f hf c_11
              refine lv_goto (tgt := 85) hx hb dX4_firmest_74 (by decide) ?_
              exact J85 _ ih v2 v3 fi_7 fl_8 ar_9 H locs ls w (lv_sub hl [1, 2, 3] rfl) hf
          · have hf := if_f hf c_5
            refine lv_goto (tgt := 85) hx hb dX4_firmest_55 (by decide) ?_
            exact J85 _ ih v2 v3 fi fl ar H locs ls w (lv_sub hl [0, 1, 2] rfl) hf
  unfold f_X4_firmest at hf
  refine (show ∀ (H : Heap) (locs : List Loc), Wd (EC D ca ak av) A s (wC ad ca fi fl ar) H locs → W p l e ({ frames := 6, cells := 0, slots := 0, locals := 142 } : Room) s m args below meth c H locs 0 0 (MQ below (Qi (EC D ca ak av) A (wC ad ca fi0 fl0 ar0) r0) args s 0 0 A) (F0 m 0 ls []) from ?_) s.heap [] w
  intro H locs w
  refine lv_aload_n hx hb dX4_firmest_0 rfl (lv_at hl 0 rfl) ?_
  refine gfC_13_3 B w kt2_4 dX4_firmest_1 ?_
  refine lv_iload_n hx hb dX4_firmest_4 rfl (lv_at hl 1 rfl) ?_
  refine lv_icmp_gt (x := (fi 32)) (y := v1) (tgt := 10) hx hb dX4_firmest_5 (by decide) (fun c_13 => ?_) (fun c_13 => ?_)
  · have hf := if_t hf c_13
    refine lv_aload_n hx hb dX4_firmest_10 rfl (lv_at hl 0 rfl) ?_
    refine gfC_13_4 B w kt2_5 dX4_firmest_11 ?_
    refine lv_bipush (v := (-2)) hx hb dX4_firmest_14 (by decide) ?_
    refine lv_icmp_eq (x := (fi 33)) (y := (-2)) (tgt := 24) hx hb dX4_firmest_16 (by decide) (fun c_14 => ?_) (fun c_14 => ?_)
    · have hf := if_t hf c_14
      refine lv_bipush (v := (-2)) hx hb dX4_firmest_24 (by decide) ?_
      refine lv_istore_n (lv' := [(2, .int (-2)), (0, .ref (ad 13)), (1, .int v1)]) hx hb dX4_firmest_26 rfl hl (by decide) rfl (fun ls hl => ?_)
      refine lv_iconst (v := 0) hx hb dX4_firmest_27 (by decide) ?_
      refine lv_istore_n (lv' := [(3, .int 0), (2, .int (-2)), (0, .ref (ad 13)), (1, .int v1)]) hx hb dX4_firmest_28 rfl hl (by decide) rfl (fun ls hl => ?_)
      exact J29  5000 (-2) 0 fi fl ar H locs ls w (lv_sub hl [2, 1, 0] rfl) hf
    · have hf := if_f hf c_14
      refine lv_aload_n hx hb dX4_firmest_19 rfl (lv_at hl 0 rfl) ?_
      refine gfC_13_4 B w kt2_5 dX4_firmest_20 ?_
      have hf : some ((fi 33), fi, fl, ar) = some (r0, fi0, fl0, ar0) := hf
      obtain ⟨q0, q1, q2, q3⟩ := so4 hf
      subst q0
      subst q1
      subst q2
      subst q3
      exact retI B hr hk w dX4_firmest_23
  · have hf := if_f hf c_13
    refine lv_iconst (v := (-1)) hx hb dX4_firmest_8 (by decide) ?_
    have hf : some ((-1), fi, fl, ar) = some (r0, fi0, fl0, ar0) := hf
    obtain ⟨q0, q1, q2, q3⟩ := so4 hf
    subst q0
    subst q1
    subst q2
    subst q3
    exact retI B hr hk w dX4_firmest_9
def f_X4_countKinds_50 (ar : Nat → Nat → Int32) (k4 : Int32 → Int32 → Int32 → Option (Int32)) (v1 : Int32) (v2 : Int32) (v3 : Int32) : Option (Int32) := bindv (v3 + 1 : Int32) (fun x_1 => k4 v1 v2 x_1)
def f_X4_countKinds_47 (ar : Nat → Nat → Int32) (k4 : Int32 → Int32 → Int32 → Option (Int32)) (v1 : Int32) (v2 : Int32) (v3 : Int32) : Option (Int32) := bindv (v2 + 1 : Int32) (fun x_2 => f_X4_countKinds_50 ar k4 v1 x_2 v3)
def f_X4_countKinds_4 (ar : Nat → Nat → Int32)  : Nat → (Int32) → (Int32) → (Int32) → Option (Int32)
  | 0, _, _, _ => none
  | n + 1, v1, v2, v3 => if (4096 ≤ v3 : Prop) then (some v2) else (gd v3 4096 (if (v1 < (ar 14 (Int32.toNatClampNeg v3)) : Prop) then (bind1 (f_X8_turnedAbout v3) (fun r_6 => if (v3 ≤ r_6 : Prop) then (f_X4_countKinds_47 ar (f_X4_countKinds_4 ar n) v1 v2 v3) else (gd r_6 4096 (if (v1 < (ar 14 (Int32.toNatClampNeg r_6)) : Prop) then (f_X4_countKinds_50 ar (f_X4_countKinds_4 ar n) v1 v2 v3) else (f_X4_countKinds_47 ar (f_X4_countKinds_4 ar n) v1 v2 v3))))) else (f_X4_countKinds_50 ar (f_X4_countKinds_4 ar n) v1 v2 v3)))
def f_X4_countKinds (ar : Nat → Nat → Int32) (v1 : Int32) : Option (Int32) := f_X4_countKinds_4 ar 5000 v1 0 0
set_option maxHeartbeats 4000000 in
set_option maxRecDepth 100000 in
theorem c_X4_countKinds (l : Launch) (D : va_G) (ca : Nat → ClassId) (ak av ad : Nat → Nat) (fi : Nat → Int32) (fl : Nat → Int64) (ar : Nat → Nat → Int32) (v1 : Int32) {r0 : Int32} (hf : f_X4_countKinds ar v1 = some r0) : MtI l yX4_countKinds cX4_countKinds 5 { frames := 2, cells := 0, slots := 0, locals := 44 } (EC D ca ak av) [.ref (ad 13), .int v1] (wC ad ca fi fl ar) (wC ad ca fi fl ar) r0 := by
  refine MtI.of (own := RX4) (by decide +kernel) rfl (Nat.le_of_ble_eq_true rfl) ?_
  intro p e s m args below meth c A B hr hk w ls hl
  have hx := B.1.1
  have hb := B.1.2.1
  have hown := B.1.2.2.2.1
  have hts := B.1.2.2.2.2
  have hl : lv_has ls 5 [(0, .ref (ad 13)), (1, .int v1)] := hl
  have J50 : ∀ (k4 : Int32 → Int32 → Int32 → Option (Int32)) (hk4 : ∀ (v1 : Int32) (v2 : Int32) (v3 : Int32) (H : Heap) (locs : List Loc) (ls : Array Slot), Wd (EC D ca ak av) A s (wC ad ca fi fl ar) H locs → lv_has ls 5 [(0, .ref (ad 13)), (1, .int v1), (2, .int v2), (3, .int v3)] → k4 v1 v2 v3 = some r0 → W p l e ({ frames := 2, cells := 0, slots := 0, locals := 44 } : Room) s m args below meth c H locs 0 0 (MQ below (Qi (EC D ca ak av) A (wC ad ca fi fl ar) r0) args s 0 0 A) (F0 m 4 ls [])) (v1 : Int32) (v2 : Int32) (v3 : Int32) (H : Heap) (locs : List Loc) (ls : Array Slot), Wd (EC D ca ak av) A s (wC ad ca fi fl ar) H locs → lv_has ls 5 [(0, .ref (ad 13)), (1, .int v1), (2, .int v2), (3, .int v3)] → f_X4_countKinds_50 ar k4 v1 v2 v3 = some r0 → W p l e ({ frames := 2, cells := 0, slots := 0, locals := 44 } : Room) s m args below meth c H locs 0 0 (MQ below (Qi (EC D ca ak av) A (wC ad ca fi fl ar) r0) args s 0 0 A) (F0 m 50 ls []) := by
    intro k4 hk4 v1 v2 v3 H locs ls w hl hf
    unfold f_X4_countKinds_50 at hf
    obtain ⟨x_1, ex_1⟩ : ∃ y : Int32, y = v3 + 1 := ⟨_, rfl⟩
    have hf := bindv_eq hf x_1 ex_1
    refine lv_iinc (v := x_1) (lv' := [(3, .int x_1), (0, .ref (ad 13)), (1, .int v1), (2, .int v2)]) hx hb dX4_countKinds_50 hl (k := 3) rfl (by rw [ex_1]; rfl) (by decide) rfl (fun ls hl => ?_)
    refine lv_goto (tgt := 4) hx hb dX4_countKinds_53 (by decide) ?_
    exact hk4 v1 v2 x_1 H locs ls w (lv_sub hl [1, 2, 3, 0] rfl) hf
  have J47 : ∀ (k4 : Int32 → Int32 → Int32 → Option (Int32)) (hk4 : ∀ (v1 : Int32) (v2 : Int32) (v3 : Int32) (H : Heap) (locs : List Loc) (ls : Array Slot), Wd (EC D ca ak av) A s (wC ad ca fi fl ar) H locs → lv_has ls 5 [(0, .ref (ad 13)), (1, .int v1), (2, .int v2), (3, .int v3)] → k4 v1 v2 v3 = some r0 → W p l e ({ frames := 2, cells := 0, slots := 0, locals := 44 } : Room) s m args below meth c H locs 0 0 (MQ below (Qi (EC D ca ak av) A (wC ad ca fi fl ar) r0) args s 0 0 A) (F0 m 4 ls [])) (v1 : Int32) (v2 : Int32) (v3 : Int32) (H : Heap) (locs : List Loc) (ls : Array Slot), Wd (EC D ca ak av) A s (wC ad ca fi fl ar) H locs → lv_has ls 5 [(0, .ref (ad 13)), (1, .int v1), (2, .int v2), (3, .int v3)] → f_X4_countKinds_47 ar k4 v1 v2 v3 = some r0 → W p l e ({ frames := 2, cells := 0, slots := 0, locals := 44 } : Room) s m args below meth c H locs 0 0 (MQ below (Qi (EC D ca ak av) A (wC ad ca fi fl ar) r0) args s 0 0 A) (F0 m 47 ls []) := by
    intro k4 hk4 v1 v2 v3 H locs ls w hl hf
    unfold f_X4_countKinds_47 at hf
    obtain ⟨x_2, ex_2⟩ : ∃ y : Int32, y = v2 + 1 := ⟨_, rfl⟩
    have hf := bindv_eq hf x_2 ex_2
    refine lv_iinc (v := x_2) (lv' := [(2, .int x_2), (0, .ref (ad 13)), (1, .int v1), (3, .int v3)]) hx hb dX4_countKinds_47 hl (k := 2) rfl (by rw [ex_2]; rfl) (by decide) rfl (fun ls hl => ?_)
    exact J50 _ hk4 v1 x_2 v3 H locs ls w (lv_sub hl [1, 2, 0, 3] rfl) hf
  have J4 : ∀ (n : Nat) (v1 : Int32) (v2 : Int32) (v3 : Int32) (H : Heap) (locs : List Loc) (ls : Array Slot), Wd (EC D ca ak av) A s (wC ad ca fi fl ar) H locs → lv_has ls 5 [(0, .ref (ad 13)), (1, .int v1), (2, .int v2), (3, .int v3)] → f_X4_countKinds_4 ar n v1 v2 v3 = some r0 → W p l e ({ frames := 2, cells := 0, slots := 0, locals := 44 } : Room) s m args below meth c H locs 0 0 (MQ below (Qi (EC D ca ak av) A (wC ad ca fi fl ar) r0) args s 0 0 A) (F0 m 4 ls []) := by
    intro  n
    induction n with
    | zero =>
      intro v1 v2 v3 H locs ls w hl hf
      cases hf
    | succ n ih =>
      intro v1 v2 v3 H locs ls w hl hf
      rw [f_X4_countKinds_4] at hf
      refine lv_iload_n hx hb dX4_countKinds_4 rfl (lv_at hl 3 rfl) ?_
      refine lv_sipush (v := 4096) hx hb dX4_countKinds_5 (by decide) ?_
      refine lv_icmp_ge (x := v3) (y := 4096) (tgt := 56) hx hb dX4_countKinds_8 (by decide) (fun c_3 => ?_) (fun c_3 => ?_)
      · have hf := if_t hf c_3
        refine lv_iload_n hx hb dX4_countKinds_56 rfl (lv_at hl 2 rfl) ?_
        have hf : some v2 = some r0 := hf
        have q0 := so1 hf
        subst q0
        exact retI B hr hk w dX4_countKinds_57
      · have hf := if_f hf c_3
        refine lv_aload_n hx hb dX4_countKinds_11 rfl (lv_at hl 0 rfl) ?_
        refine gfC_13_1 B w kt2_2 dX4_countKinds_12 ?_
        refine lv_iload_n hx hb dX4_countKinds_15 rfl (lv_at hl 3 rfl) ?_
        obtain ⟨hi_4, hf⟩ := gd_eq hf
        refine alC_14 B w hi_4 dX4_countKinds_16 ?_
        refine lv_iload_n hx hb dX4_countKinds_17 rfl (lv_at hl 1 rfl) ?_
        refine lv_icmp_gt (x := (ar 14 (Int32.toNatClampNeg v3))) (y := v1) (tgt := 24) hx hb dX4_countKinds_18 (by decide) (fun c_5 => ?_) (fun c_5 => ?_)
        · have hf := if_t hf c_5
          refine lv_iload_n hx hb dX4_countKinds_24 rfl (lv_at hl 3 rfl) ?_
          obtain ⟨r_6, er_7, hf⟩ := bind1_eq hf
          refine callNI (As := [.int v3]) (rest := []) B w (c_X8_turnedAbout l _ v3 er_7) (gN kt3_167) (by decide) kt1_1 kt3_166 hdS_X8_turnedAbout rfl rfl ⟨Nat.le_of_ble_eq_true rfl, Nat.le_of_ble_eq_true rfl⟩ rfl hl.1 rfl (Nat.le_of_ble_eq_true rfl) dX4_countKinds_25 ⟨Nat.le_of_ble_eq_true rfl, Nat.le_of_ble_eq_true rfl⟩ (fun H locs w => ?_)
          refine lv_istore (lv' := [(4, .int r_6), (0, .ref (ad 13)), (1, .int v1), (2, .int v2), (3, .int v3)]) hx hb dX4_countKinds_28 hl (by decide) rfl (fun ls hl => ?_)
          refine lv_iload hx hb dX4_countKinds_30 (lv_at hl 0 rfl) ?_
          refine lv_iload_n hx hb dX4_countKinds_32 rfl (lv_at hl 4 rfl) ?_
          refine lv_icmp_ge (x := r_6) (y := v3) (tgt := 47) hx hb dX4_countKinds_33 (by decide) (fun c_8 => ?_) (fun c_8 => ?_)
          · have hf := if_t hf c_8
            exact J47 _ ih v1 v2 v3 H locs ls w (lv_sub hl [1, 2, 3, 4] rfl) hf
          · have hf := if_f hf c_8
            refine lv_aload_n hx hb dX4_countKinds_36 rfl (lv_at hl 1 rfl) ?_
            refine gfC_13_1 B w kt2_2 dX4_countKinds_37 ?_
            refine lv_iload hx hb dX4_countKinds_40 (lv_at hl 0 rfl) ?_
            obtain ⟨hi_9, hf⟩ := gd_eq hf
            refine alC_14 B w hi_9 dX4_countKinds_42 ?_
            refine lv_iload_n hx hb dX4_countKinds_43 rfl (lv_at hl 2 rfl) ?_
            refine lv_icmp_gt (x := (ar 14 (Int32.toNatClampNeg r_6))) (y := v1) (tgt := 50) hx hb dX4_countKinds_44 (by decide) (fun c_10 => ?_) (fun c_10 => ?_)
            · have hf := if_t hf c_10
              exact J50 _ ih v1 v2 v3 H locs ls w (lv_sub hl [1, 2, 3, 4] rfl) hf
            · have hf := if_f hf c_10
              exact J47 _ ih v1 v2 v3 H locs ls w (lv_sub hl [1, 2, 3, 4] rfl) hf
        · have hf := if_f hf c_5
          refine lv_goto (tgt := 50) hx hb dX4_countKinds_21 (by decide) ?_
          exact J50 _ ih v1 v2 v3 H locs ls w (lv_sub hl [0, 1, 2, 3] rfl) hf
  unfold f_X4_countKinds at hf
  refine (show ∀ (H : Heap) (locs : List Loc), Wd (EC D ca ak av) A s (wC ad ca fi fl ar) H locs → W p l e ({ frames := 2, cells := 0, slots := 0, locals := 44 } : Room) s m args below meth c H locs 0 0 (MQ below (Qi (EC D ca ak av) A (wC ad ca fi fl ar) r0) args s 0 0 A) (F0 m 0 ls []) from ?_) s.heap [] w
  intro H locs w
  refine lv_iconst (v := 0) hx hb dX4_countKinds_0 (by decide) ?_
  refine lv_istore_n (lv' := [(2, .int 0), (0, .ref (ad 13)), (1, .int v1)]) hx hb dX4_countKinds_1 rfl hl (by decide) rfl (fun ls hl => ?_)
  refine lv_iconst (v := 0) hx hb dX4_countKinds_2 (by decide) ?_
  refine lv_istore_n (lv' := [(3, .int 0), (2, .int 0), (0, .ref (ad 13)), (1, .int v1)]) hx hb dX4_countKinds_3 rfl hl (by decide) rfl (fun ls hl => ?_)
  exact J4  5000 v1 0 0 H locs ls w (lv_sub hl [2, 3, 1, 0] rfl) hf
