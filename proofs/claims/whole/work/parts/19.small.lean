def f_X6_asAtFirst_U (fi : Nat → Int32) : Option ((Nat → Int32)) := bindv (upd fi 0 1) (fun fi_1 => bindv (upd fi_1 1 3) (fun fi_2 => bindv (upd fi_2 2 1) (fun fi_3 => bindv (upd fi_3 3 1) (fun fi_4 => bindv (upd fi_4 4 0) (fun fi_5 => bindv (upd fi_5 5 1) (fun fi_6 => bindv (upd fi_6 6 10) (fun fi_7 => bindv (upd fi_7 7 153) (fun fi_8 => some fi_8))))))))
set_option maxHeartbeats 4000000 in
set_option maxRecDepth 100000 in
theorem c_X6_asAtFirst_U (l : Launch) (D : va_G) (ca : Nat → ClassId) (ak av ad : Nat → Nat) (fi : Nat → Int32) (fl : Nat → Int64) (ar : Nat → Nat → Int32) {fi0 : Nat → Int32} (hf : f_X6_asAtFirst_U fi = some fi0) : MtV l yX6_asAtFirst cX6_asAtFirst 1 { frames := 0, cells := 0, slots := 0, locals := 0 } (EU D ca ak av) [.ref (ad 0)] (wU ad ca fi fl ar) (wU ad ca fi0 fl ar) := by
  refine MtV.of (own := RX6) (by decide +kernel) rfl (Nat.le_of_ble_eq_true rfl) ?_
  intro p e s m args below meth c A B hr hk w ls hl
  have hx := B.1.1
  have hb := B.1.2.1
  have hown := B.1.2.2.2.1
  have hts := B.1.2.2.2.2
  have hl : lv_has ls 1 [(0, .ref (ad 0))] := hl
  unfold f_X6_asAtFirst_U at hf
  refine (show ∀ (H : Heap) (locs : List Loc), Wd (EU D ca ak av) A s (wU ad ca fi fl ar) H locs → W p l e ({ frames := 0, cells := 0, slots := 0, locals := 0 } : Room) s m args below meth c H locs 0 0 (MQ below (Qv (EU D ca ak av) A (wU ad ca fi0 fl ar)) args s 0 0 A) (F0 m 0 ls []) from ?_) s.heap [] w
  intro H locs w
  refine lv_aload_n hx hb dX6_asAtFirst_0 rfl (lv_at hl 0 rfl) ?_
  refine lv_iconst (v := 1) hx hb dX6_asAtFirst_1 (by decide) ?_
  refine pfU_0_0 (v := 1) B w kt1_36 dX6_asAtFirst_2 (fun H locs fi_1 efi_1 w => ?_)
  have hf := bindv_eq hf fi_1 efi_1
  refine lv_aload_n hx hb dX6_asAtFirst_5 rfl (lv_at hl 0 rfl) ?_
  refine lv_iconst (v := 3) hx hb dX6_asAtFirst_6 (by decide) ?_
  refine pfU_0_1 (v := 3) B w kt1_40 dX6_asAtFirst_7 (fun H locs fi_2 efi_2 w => ?_)
  have hf := bindv_eq hf fi_2 efi_2
  refine lv_aload_n hx hb dX6_asAtFirst_10 rfl (lv_at hl 0 rfl) ?_
  refine lv_iconst (v := 1) hx hb dX6_asAtFirst_11 (by decide) ?_
  refine pfU_0_2 (v := 1) B w kt1_44 dX6_asAtFirst_12 (fun H locs fi_3 efi_3 w => ?_)
  have hf := bindv_eq hf fi_3 efi_3
  refine lv_aload_n hx hb dX6_asAtFirst_15 rfl (lv_at hl 0 rfl) ?_
  refine lv_iconst (v := 1) hx hb dX6_asAtFirst_16 (by decide) ?_
  refine pfU_0_3 (v := 1) B w kt1_48 dX6_asAtFirst_17 (fun H locs fi_4 efi_4 w => ?_)
  have hf := bindv_eq hf fi_4 efi_4
  refine lv_aload_n hx hb dX6_asAtFirst_20 rfl (lv_at hl 0 rfl) ?_
  refine lv_iconst (v := 0) hx hb dX6_asAtFirst_21 (by decide) ?_
  refine pfU_0_4 (v := 0) B w kt1_52 dX6_asAtFirst_22 (fun H locs fi_5 efi_5 w => ?_)
  have hf := bindv_eq hf fi_5 efi_5
  refine lv_aload_n hx hb dX6_asAtFirst_25 rfl (lv_at hl 0 rfl) ?_
  refine lv_iconst (v := 1) hx hb dX6_asAtFirst_26 (by decide) ?_
  refine pfU_0_5 (v := 1) B w kt1_56 dX6_asAtFirst_27 (fun H locs fi_6 efi_6 w => ?_)
  have hf := bindv_eq hf fi_6 efi_6
  refine lv_aload_n hx hb dX6_asAtFirst_30 rfl (lv_at hl 0 rfl) ?_
  refine lv_bipush (v := 10) hx hb dX6_asAtFirst_31 (by decide) ?_
  refine pfU_0_6 (v := 10) B w kt1_60 dX6_asAtFirst_33 (fun H locs fi_7 efi_7 w => ?_)
  have hf := bindv_eq hf fi_7 efi_7
  refine lv_aload_n hx hb dX6_asAtFirst_36 rfl (lv_at hl 0 rfl) ?_
  refine lv_sipush (v := 153) hx hb dX6_asAtFirst_37 (by decide) ?_
  refine pfU_0_7 (v := 153) B w kt1_64 dX6_asAtFirst_40 (fun H locs fi_8 efi_8 w => ?_)
  have hf := bindv_eq hf fi_8 efi_8
  have hf : some fi_8 = some fi0 := hf
  have q0 := so1 hf
  subst q0
  exact retV B hr hk w dX6_asAtFirst_43
def f_X5_clear_V_4   : Nat → (Int32) → (Int32) → (Nat → Nat → Int32) → Option (Int32 × (Nat → Nat → Int32))
  | 0, _, _, _ => none
  | n + 1, v1, v2, ar => if (6 ≤ v2 : Prop) then (some (v1, ar)) else (gd v2 6 (bindv (f_J6_bitCount_0f7a4 (ar 1 (Int32.toNatClampNeg v2))) (fun r_3 => bindv ((v1 + (6 - r_3)) : Int32) (fun x_5 => gd v2 6 (bindv (updA ar 1 (upd (ar 1) (Int32.toNatClampNeg v2) 63)) (fun ar_7 => gd v2 6 (bindv (updA ar_7 2 (upd (ar_7 2) (Int32.toNatClampNeg v2) 0)) (fun ar_9 => bindv (v2 + 1 : Int32) (fun x_10 => (f_X5_clear_V_4 n) x_5 x_10 ar_9)))))))))
def f_X5_clear_V (ar : Nat → Nat → Int32) : Option (Int32 × (Nat → Nat → Int32)) := f_X5_clear_V_4  5000 0 0 ar
set_option maxHeartbeats 4000000 in
set_option maxRecDepth 100000 in
theorem c_X5_clear_V (l : Launch) (D : va_G) (ca : Nat → ClassId) (ak av ad : Nat → Nat) (fi : Nat → Int32) (fl : Nat → Int64) (ar : Nat → Nat → Int32) {r0 : Int32} {ar0 : Nat → Nat → Int32} (hf : f_X5_clear_V ar = some (r0, ar0)) : MtI l yX5_clear cX5_clear 3 { frames := 1, cells := 0, slots := 0, locals := 20 } (EV D ca ak av) [.ref (ad 0)] (wV ad ca fi fl ar) (wV ad ca fi fl ar0) r0 := by
  refine MtI.of (own := RX5) (by decide +kernel) rfl (Nat.le_of_ble_eq_true rfl) ?_
  intro p e s m args below meth c A B hr hk w ls hl
  have hx := B.1.1
  have hb := B.1.2.1
  have hown := B.1.2.2.2.1
  have hts := B.1.2.2.2.2
  have hl : lv_has ls 3 [(0, .ref (ad 0))] := hl
  have J4 : ∀ (n : Nat) (v1 : Int32) (v2 : Int32) (ar : Nat → Nat → Int32) (H : Heap) (locs : List Loc) (ls : Array Slot), Wd (EV D ca ak av) A s (wV ad ca fi fl ar) H locs → lv_has ls 3 [(0, .ref (ad 0)), (1, .int v1), (2, .int v2)] → f_X5_clear_V_4  n v1 v2 ar = some (r0, ar0) → W p l e ({ frames := 1, cells := 0, slots := 0, locals := 20 } : Room) s m args below meth c H locs 0 0 (MQ below (Qi (EV D ca ak av) A (wV ad ca fi fl ar0) r0) args s 0 0 A) (F0 m 4 ls []) := by
    intro  n
    induction n with
    | zero =>
      intro v1 v2 ar H locs ls w hl hf
      cases hf
    | succ n ih =>
      intro v1 v2 ar H locs ls w hl hf
      rw [f_X5_clear_V_4] at hf
      refine lv_iload_n hx hb dX5_clear_4 rfl (lv_at hl 2 rfl) ?_
      refine lv_bipush (v := 6) hx hb dX5_clear_5 (by decide) ?_
      refine lv_icmp_ge (x := v2) (y := 6) (tgt := 46) hx hb dX5_clear_7 (by decide) (fun c_1 => ?_) (fun c_1 => ?_)
      · have hf := if_t hf c_1
        refine lv_iload_n hx hb dX5_clear_46 rfl (lv_at hl 1 rfl) ?_
        have hf : some (v1, ar) = some (r0, ar0) := hf
        obtain ⟨q0, q1⟩ := so2 hf
        subst q0
        subst q1
        exact retI B hr hk w dX5_clear_47
      · have hf := if_f hf c_1
        refine lv_iload_n hx hb dX5_clear_10 rfl (lv_at hl 1 rfl) ?_
        refine lv_bipush (v := 6) hx hb dX5_clear_11 (by decide) ?_
        refine lv_aload_n hx hb dX5_clear_13 rfl (lv_at hl 0 rfl) ?_
        refine gfV_0_0 B w kt2_33 dX5_clear_14 ?_
        refine lv_iload_n hx hb dX5_clear_17 rfl (lv_at hl 2 rfl) ?_
        obtain ⟨hi_2, hf⟩ := gd_eq hf
        refine alV_1 B w hi_2 dX5_clear_18 ?_
        obtain ⟨r_3, er_4⟩ : ∃ y, f_J6_bitCount_0f7a4 (ar 1 (Int32.toNatClampNeg v2)) = y := ⟨_, rfl⟩
        have hf := bindv_eq hf r_3 er_4.symm
        refine callSI (As := [.int (ar 1 (Int32.toNatClampNeg v2))]) (rest := [.int 6, .int v1]) B w (c_J6_bitCount_0f7a4 l _ (ar 1 (Int32.toNatClampNeg v2)) er_4) (gS kt2_27 kt2_28 kt1_10 kt2_29) hdS_J6_bitCount_0f7a4 rfl rfl ⟨Nat.le_of_ble_eq_true rfl, Nat.le_of_ble_eq_true rfl⟩ rfl hl.1 rfl (Nat.le_of_ble_eq_true rfl) dX5_clear_19 ⟨Nat.le_of_ble_eq_true rfl, Nat.le_of_ble_eq_true rfl⟩ (fun H locs w => ?_)
        refine lv_isub (x := 6) (y := r_3) hx hb dX5_clear_22 ?_
        refine lv_iadd (x := v1) (y := (6 - r_3)) hx hb dX5_clear_23 ?_
        refine lv_topi (fun x_5 ex_5 => ?_)
        have hf := bindv_eq hf x_5 ex_5
        refine lv_istore_n (lv' := [(1, .int x_5), (0, .ref (ad 0)), (2, .int v2)]) hx hb dX5_clear_24 rfl hl (by decide) rfl (fun ls hl => ?_)
        refine lv_aload_n hx hb dX5_clear_25 rfl (lv_at hl 1 rfl) ?_
        refine gfV_0_0 B w kt2_33 dX5_clear_26 ?_
        refine lv_iload_n hx hb dX5_clear_29 rfl (lv_at hl 2 rfl) ?_
        refine lv_bipush (v := 63) hx hb dX5_clear_30 (by decide) ?_
        obtain ⟨hi_6, hf⟩ := gd_eq hf
        refine asV_1 (x := 63) B w hi_6 dX5_clear_32 (fun H locs ar_7 ear_7 w => ?_)
        have hf := bindv_eq hf ar_7 ear_7
        refine lv_aload_n hx hb dX5_clear_33 rfl (lv_at hl 1 rfl) ?_
        refine gfV_0_1 B w kt2_34 dX5_clear_34 ?_
        refine lv_iload_n hx hb dX5_clear_37 rfl (lv_at hl 2 rfl) ?_
        refine lv_iconst (v := 0) hx hb dX5_clear_38 (by decide) ?_
        obtain ⟨hi_8, hf⟩ := gd_eq hf
        refine asV_2 (x := 0) B w hi_8 dX5_clear_39 (fun H locs ar_9 ear_9 w => ?_)
        have hf := bindv_eq hf ar_9 ear_9
        obtain ⟨x_10, ex_10⟩ : ∃ y : Int32, y = v2 + 1 := ⟨_, rfl⟩
        have hf := bindv_eq hf x_10 ex_10
        refine lv_iinc (v := x_10) (lv' := [(2, .int x_10), (1, .int x_5), (0, .ref (ad 0))]) hx hb dX5_clear_40 hl (k := 2) rfl (by rw [ex_10]; rfl) (by decide) rfl (fun ls hl => ?_)
        refine lv_goto (tgt := 4) hx hb dX5_clear_43 (by decide) ?_
        exact ih x_5 x_10 ar_9 H locs ls w (lv_sub hl [2, 1, 0] rfl) hf
  unfold f_X5_clear_V at hf
  refine (show ∀ (H : Heap) (locs : List Loc), Wd (EV D ca ak av) A s (wV ad ca fi fl ar) H locs → W p l e ({ frames := 1, cells := 0, slots := 0, locals := 20 } : Room) s m args below meth c H locs 0 0 (MQ below (Qi (EV D ca ak av) A (wV ad ca fi fl ar0) r0) args s 0 0 A) (F0 m 0 ls []) from ?_) s.heap [] w
  intro H locs w
  refine lv_iconst (v := 0) hx hb dX5_clear_0 (by decide) ?_
  refine lv_istore_n (lv' := [(1, .int 0), (0, .ref (ad 0))]) hx hb dX5_clear_1 rfl hl (by decide) rfl (fun ls hl => ?_)
  refine lv_iconst (v := 0) hx hb dX5_clear_2 (by decide) ?_
  refine lv_istore_n (lv' := [(2, .int 0), (1, .int 0), (0, .ref (ad 0))]) hx hb dX5_clear_3 rfl hl (by decide) rfl (fun ls hl => ?_)
  exact J4  5000 0 0 ar H locs ls w (lv_sub hl [2, 1, 0] rfl) hf
def f_X9_init_T_84   : Nat → (Int32) → (Nat → Nat → Int32) → Option ((Nat → Nat → Int32))
  | 0, _, _ => none
  | n + 1, v1, ar => if (36 ≤ v1 : Prop) then (some ar) else (gd v1 36 (bindv (updA ar 5 (upd (ar 5) (Int32.toNatClampNeg v1) (vp_nar .boolean 1))) (fun ar_3 => bindv (v1 + 1 : Int32) (fun x_4 => (f_X9_init_T_84 n) x_4 ar_3))))
def f_X9_init_T_60   : Nat → (Int32) → (Nat → Nat → Int32) → Option ((Nat → Nat → Int32))
  | 0, _, _ => none
  | n + 1, v1, ar => if (8 ≤ v1 : Prop) then (f_X9_init_T_84  5000 0 ar) else (bindv (f_X9_atFirst v1) (fun r_6 => gd v1 8 (bindv (updA ar 1 (upd (ar 1) (Int32.toNatClampNeg v1) r_6)) (fun ar_9 => bindv (v1 + 1 : Int32) (fun x_10 => (f_X9_init_T_60 n) x_10 ar_9)))))
def f_X9_init_T (ar : Nat → Nat → Int32) : Option ((Nat → Nat → Int32)) := f_X9_init_T_60  5000 0 ar
set_option maxHeartbeats 4000000 in
set_option maxRecDepth 100000 in
theorem t_X9_init_T {p : Program} {l : Launch} {e : Env} {s : State} {m : MethodId} {args : Array Value} {below : List Frame} {meth : Method} {c : Code} {H : Heap} {locs : List Loc} {ls : Array Slot} {Q : State → Prop} {A : Nat → Prop} {D : va_G} {ca : Nat → ClassId} {ak av ad : Nat → Nat} {fi : Nat → Int32} {fl : Nat → Int64} {ar ar0 : Nat → Nat → Int32} (hf : f_X9_init_T ar = some ar0) (B : Bd p m c cX9_init 2 s args RX9 (EM D ca ak av) A) (w : Wd (EM D ca ak av) A s (wM ad ca fi fl ar) H locs) (hl : lv_has ls 2 [(0, .ref (ad 0))]) (hq : ∀ (H : Heap) (locs : List Loc) (ls : Array Slot), Wd (EM D ca ak av) A s (wM ad ca fi fl ar0) H locs → W p l e ({ frames := 1, cells := 6, slots := 1179, locals := 20 } : Room) s m args below meth c H locs 6 1179 Q (F0 m 103 ls [])) : W p l e ({ frames := 1, cells := 6, slots := 1179, locals := 20 } : Room) s m args below meth c H locs 6 1179 Q (F0 m 58 ls []) := by
  have hx := B.1.1
  have hb := B.1.2.1
  have hown := B.1.2.2.2.1
  have hts := B.1.2.2.2.2
  have J84 : ∀ (n : Nat) (v1 : Int32) (ar : Nat → Nat → Int32) (H : Heap) (locs : List Loc) (ls : Array Slot), Wd (EM D ca ak av) A s (wM ad ca fi fl ar) H locs → lv_has ls 2 [(0, .ref (ad 0)), (1, .int v1)] → f_X9_init_T_84  n v1 ar = some ar0 → W p l e ({ frames := 1, cells := 6, slots := 1179, locals := 20 } : Room) s m args below meth c H locs 6 1179 Q (F0 m 84 ls []) := by
    intro  n
    induction n with
    | zero =>
      intro v1 ar H locs ls w hl hf
      cases hf
    | succ n ih =>
      intro v1 ar H locs ls w hl hf
      rw [f_X9_init_T_84] at hf
      refine lv_iload_n hx hb dX9_init_84 rfl (lv_at hl 1 rfl) ?_
      refine lv_bipush (v := 36) hx hb dX9_init_85 (by decide) ?_
      refine lv_icmp_ge (x := v1) (y := 36) (tgt := 103) hx hb dX9_init_87 (by decide) (fun c_1 => ?_) (fun c_1 => ?_)
      · have hf := if_t hf c_1
        have hf : some ar = some ar0 := hf
        have q0 := so1 hf
        subst q0
        exact hq _ _ _ w
      · have hf := if_f hf c_1
        refine lv_aload_n hx hb dX9_init_90 rfl (lv_at hl 0 rfl) ?_
        refine gfM_0_19 B w kt4_44 dX9_init_91 ?_
        refine lv_iload_n hx hb dX9_init_94 rfl (lv_at hl 1 rfl) ?_
        refine lv_iconst (v := 1) hx hb dX9_init_95 (by decide) ?_
        obtain ⟨hi_2, hf⟩ := gd_eq hf
        refine asM_5 (x := 1) B w hi_2 dX9_init_96 (fun H locs ar_3 ear_3 w => ?_)
        have hf := bindv_eq hf ar_3 ear_3
        obtain ⟨x_4, ex_4⟩ : ∃ y : Int32, y = v1 + 1 := ⟨_, rfl⟩
        have hf := bindv_eq hf x_4 ex_4
        refine lv_iinc (v := x_4) (lv' := [(1, .int x_4), (0, .ref (ad 0))]) hx hb dX9_init_97 hl (k := 1) rfl (by rw [ex_4]; rfl) (by decide) rfl (fun ls hl => ?_)
        refine lv_goto (tgt := 84) hx hb dX9_init_100 (by decide) ?_
        exact ih x_4 ar_3 H locs ls w (lv_sub hl [1, 0] rfl) hf
  have J60 : ∀ (n : Nat) (v1 : Int32) (ar : Nat → Nat → Int32) (H : Heap) (locs : List Loc) (ls : Array Slot), Wd (EM D ca ak av) A s (wM ad ca fi fl ar) H locs → lv_has ls 2 [(0, .ref (ad 0)), (1, .int v1)] → f_X9_init_T_60  n v1 ar = some ar0 → W p l e ({ frames := 1, cells := 6, slots := 1179, locals := 20 } : Room) s m args below meth c H locs 6 1179 Q (F0 m 60 ls []) := by
    intro  n
    induction n with
    | zero =>
      intro v1 ar H locs ls w hl hf
      cases hf
    | succ n ih =>
      intro v1 ar H locs ls w hl hf
      rw [f_X9_init_T_60] at hf
      refine lv_iload_n hx hb dX9_init_60 rfl (lv_at hl 1 rfl) ?_
      refine lv_bipush (v := 8) hx hb dX9_init_61 (by decide) ?_
      refine lv_icmp_ge (x := v1) (y := 8) (tgt := 82) hx hb dX9_init_63 (by decide) (fun c_5 => ?_) (fun c_5 => ?_)
      · have hf := if_t hf c_5
        refine lv_iconst (v := 0) hx hb dX9_init_82 (by decide) ?_
        refine lv_istore_n (lv' := [(1, .int 0), (0, .ref (ad 0))]) hx hb dX9_init_83 rfl hl (by decide) rfl (fun ls hl => ?_)
        exact J84  5000 0 ar H locs ls w (lv_sub hl [1, 0] rfl) hf
      · have hf := if_f hf c_5
        refine lv_aload_n hx hb dX9_init_66 rfl (lv_at hl 0 rfl) ?_
        refine gfM_0_0 B w kt4_25 dX9_init_67 ?_
        refine lv_iload_n hx hb dX9_init_70 rfl (lv_at hl 1 rfl) ?_
        refine lv_iload_n hx hb dX9_init_71 rfl (lv_at hl 1 rfl) ?_
        obtain ⟨r_6, er_7⟩ : ∃ y, f_X9_atFirst v1 = y := ⟨_, rfl⟩
        have hf := bindv_eq hf r_6 er_7.symm
        refine callSI (As := [.int v1]) (rest := [.int v1, .ref (ad 1)]) B w (c_X9_atFirst l _ v1 er_7) (gS kt4_22 kt4_23 kt1_11 kt4_24) hdS_X9_atFirst rfl rfl ⟨Nat.le_of_ble_eq_true rfl, Nat.le_of_ble_eq_true rfl⟩ rfl hl.1 rfl (Nat.le_of_ble_eq_true rfl) dX9_init_72 ⟨Nat.le_of_ble_eq_true rfl, Nat.le_of_ble_eq_true rfl⟩ (fun H locs w => ?_)
        obtain ⟨hi_8, hf⟩ := gd_eq hf
        refine asM_1 (x := r_6) B w hi_8 dX9_init_75 (fun H locs ar_9 ear_9 w => ?_)
        have hf := bindv_eq hf ar_9 ear_9
        obtain ⟨x_10, ex_10⟩ : ∃ y : Int32, y = v1 + 1 := ⟨_, rfl⟩
        have hf := bindv_eq hf x_10 ex_10
        refine lv_iinc (v := x_10) (lv' := [(1, .int x_10), (0, .ref (ad 0))]) hx hb dX9_init_76 hl (k := 1) rfl (by rw [ex_10]; rfl) (by decide) rfl (fun ls hl => ?_)
        refine lv_goto (tgt := 60) hx hb dX9_init_79 (by decide) ?_
        exact ih x_10 ar_9 H locs ls w (lv_sub hl [1, 0] rfl) hf
  unfold f_X9_init_T at hf
  refine lv_iconst (v := 0) hx hb dX9_init_58 (by decide) ?_
  refine lv_istore_n (lv' := [(1, .int 0), (0, .ref (ad 0))]) hx hb dX9_init_59 rfl hl (by decide) rfl (fun ls hl => ?_)
  exact J60  5000 0 ar H locs ls w (lv_sub hl [1, 0] rfl) hf
