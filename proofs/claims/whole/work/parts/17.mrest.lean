def f_X9_hangs_37  (k5 : Int32 → Int32 → Int32 → Int32 → Int32 → Option (Int32)) (v0 : Int32) (v1 : Int32) (v2 : Int32) (v4 : Int32) (t0 : Int32) : Option (Int32) := bindv (v4 + 1 : Int32) (fun x_1 => k5 v0 v1 v2 t0 x_1)
def f_X9_hangs_32  (k5 : Int32 → Int32 → Int32 → Int32 → Int32 → Option (Int32)) (v0 : Int32) (v1 : Int32) (v2 : Int32) (v4 : Int32) : Option (Int32) := f_X9_hangs_37 k5 v0 v1 v2 v4 1
def f_X9_hangs_5   : Nat → (Int32) → (Int32) → (Int32) → (Int32) → (Int32) → Option (Int32)
  | 0, _, _, _, _, _ => none
  | n + 1, v0, v1, v2, v3, v4 => if (v1 ≤ v4 : Prop) then (bindv (f_X9_one v3) (fun r_3 => some r_3)) else (if (v3 = 0 : Prop) then (if (((v0 >>> (v4 &&& 31)) &&& 1) = ((v0 >>> ((v4 ^^^ v2) &&& 31)) &&& 1) : Prop) then (f_X9_hangs_37 (f_X9_hangs_5 n) v0 v1 v2 v4 0) else (f_X9_hangs_32 (f_X9_hangs_5 n) v0 v1 v2 v4)) else (f_X9_hangs_32 (f_X9_hangs_5 n) v0 v1 v2 v4))
def f_X9_hangs (v0 : Int32) (v1 : Int32) (v2 : Int32) : Option (Int32) := f_X9_hangs_5  5000 v0 v1 v2 0 0
set_option maxHeartbeats 4000000 in
set_option maxRecDepth 100000 in
theorem c_X9_hangs (l : Launch) (E : VE) (v0 : Int32) (v1 : Int32) (v2 : Int32) {r0 : Int32} (hf : f_X9_hangs v0 v1 v2 = some r0) : MtI l yX9_hangs cX9_hangs 5 { frames := 1, cells := 0, slots := 0, locals := 20 } E [.int v0, .int v1, .int v2] [] [] r0 := by
  refine MtI.of (own := RX9) (by decide +kernel) rfl (Nat.le_of_ble_eq_true rfl) ?_
  intro p e s m args below meth c A B hr hk w ls hl
  have hx := B.1.1
  have hb := B.1.2.1
  have hown := B.1.2.2.2.1
  have hts := B.1.2.2.2.2
  have hl : lv_has ls 5 [(0, .int v0), (1, .int v1), (2, .int v2)] := hl
  have J37 : ∀ (k5 : Int32 → Int32 → Int32 → Int32 → Int32 → Option (Int32)) (hk5 : ∀ (v0 : Int32) (v1 : Int32) (v2 : Int32) (v3 : Int32) (v4 : Int32) (H : Heap) (locs : List Loc) (ls : Array Slot), Wd E A s [] H locs → lv_has ls 5 [(0, .int v0), (1, .int v1), (2, .int v2), (3, .int v3), (4, .int v4)] → k5 v0 v1 v2 v3 v4 = some r0 → W p l e ({ frames := 1, cells := 0, slots := 0, locals := 20 } : Room) s m args below meth c H locs 0 0 (MQ below (Qi E A [] r0) args s 0 0 A) (F0 m 5 ls [])) (v0 : Int32) (v1 : Int32) (v2 : Int32) (v4 : Int32) (t0 : Int32) (H : Heap) (locs : List Loc) (ls : Array Slot), Wd E A s [] H locs → lv_has ls 5 [(0, .int v0), (1, .int v1), (2, .int v2), (4, .int v4)] → f_X9_hangs_37 k5 v0 v1 v2 v4 t0 = some r0 → W p l e ({ frames := 1, cells := 0, slots := 0, locals := 20 } : Room) s m args below meth c H locs 0 0 (MQ below (Qi E A [] r0) args s 0 0 A) (F0 m 37 ls [.int t0]) := by
    intro k5 hk5 v0 v1 v2 v4 t0 H locs ls w hl hf
    unfold f_X9_hangs_37 at hf
    refine lv_istore_n (lv' := [(3, .int t0), (0, .int v0), (1, .int v1), (2, .int v2), (4, .int v4)]) hx hb dX9_hangs_37 rfl hl (by decide) rfl (fun ls hl => ?_)
    obtain ⟨x_1, ex_1⟩ : ∃ y : Int32, y = v4 + 1 := ⟨_, rfl⟩
    have hf := bindv_eq hf x_1 ex_1
    refine lv_iinc (v := x_1) (lv' := [(4, .int x_1), (3, .int t0), (0, .int v0), (1, .int v1), (2, .int v2)]) hx hb dX9_hangs_38 hl (k := 4) rfl (by rw [ex_1]; rfl) (by decide) rfl (fun ls hl => ?_)
    refine lv_goto (tgt := 5) hx hb dX9_hangs_41 (by decide) ?_
    exact hk5 v0 v1 v2 t0 x_1 H locs ls w (lv_sub hl [2, 3, 4, 1, 0] rfl) hf
  have J32 : ∀ (k5 : Int32 → Int32 → Int32 → Int32 → Int32 → Option (Int32)) (hk5 : ∀ (v0 : Int32) (v1 : Int32) (v2 : Int32) (v3 : Int32) (v4 : Int32) (H : Heap) (locs : List Loc) (ls : Array Slot), Wd E A s [] H locs → lv_has ls 5 [(0, .int v0), (1, .int v1), (2, .int v2), (3, .int v3), (4, .int v4)] → k5 v0 v1 v2 v3 v4 = some r0 → W p l e ({ frames := 1, cells := 0, slots := 0, locals := 20 } : Room) s m args below meth c H locs 0 0 (MQ below (Qi E A [] r0) args s 0 0 A) (F0 m 5 ls [])) (v0 : Int32) (v1 : Int32) (v2 : Int32) (v4 : Int32) (H : Heap) (locs : List Loc) (ls : Array Slot), Wd E A s [] H locs → lv_has ls 5 [(0, .int v0), (1, .int v1), (2, .int v2), (4, .int v4)] → f_X9_hangs_32 k5 v0 v1 v2 v4 = some r0 → W p l e ({ frames := 1, cells := 0, slots := 0, locals := 20 } : Room) s m args below meth c H locs 0 0 (MQ below (Qi E A [] r0) args s 0 0 A) (F0 m 32 ls []) := by
    intro k5 hk5 v0 v1 v2 v4 H locs ls w hl hf
    unfold f_X9_hangs_32 at hf
    refine lv_iconst (v := 1) hx hb dX9_hangs_32 (by decide) ?_
    refine lv_goto (tgt := 37) hx hb dX9_hangs_33 (by decide) ?_
    exact J37 _ hk5 v0 v1 v2 v4 1 H locs ls w (lv_sub hl [0, 1, 2, 3] rfl) hf
  have J5 : ∀ (n : Nat) (v0 : Int32) (v1 : Int32) (v2 : Int32) (v3 : Int32) (v4 : Int32) (H : Heap) (locs : List Loc) (ls : Array Slot), Wd E A s [] H locs → lv_has ls 5 [(0, .int v0), (1, .int v1), (2, .int v2), (3, .int v3), (4, .int v4)] → f_X9_hangs_5  n v0 v1 v2 v3 v4 = some r0 → W p l e ({ frames := 1, cells := 0, slots := 0, locals := 20 } : Room) s m args below meth c H locs 0 0 (MQ below (Qi E A [] r0) args s 0 0 A) (F0 m 5 ls []) := by
    intro  n
    induction n with
    | zero =>
      intro v0 v1 v2 v3 v4 H locs ls w hl hf
      cases hf
    | succ n ih =>
      intro v0 v1 v2 v3 v4 H locs ls w hl hf
      rw [f_X9_hangs_5] at hf
      refine lv_iload hx hb dX9_hangs_5 (lv_at hl 4 rfl) ?_
      refine lv_iload_n hx hb dX9_hangs_7 rfl (lv_at hl 1 rfl) ?_
      refine lv_icmp_ge (x := v4) (y := v1) (tgt := 44) hx hb dX9_hangs_8 (by decide) (fun c_2 => ?_) (fun c_2 => ?_)
      · have hf := if_t hf c_2
        refine lv_iload_n hx hb dX9_hangs_44 rfl (lv_at hl 3 rfl) ?_
        obtain ⟨r_3, er_4⟩ : ∃ y, f_X9_one v3 = y := ⟨_, rfl⟩
        have hf := bindv_eq hf r_3 er_4.symm
        refine callSI (As := [.int v3]) (rest := []) B w (c_X9_one l _ v3 er_4) (gS kt4_133 kt4_134 kt1_11 kt4_135) hdS_X9_one rfl rfl ⟨Nat.le_of_ble_eq_true rfl, Nat.le_of_ble_eq_true rfl⟩ rfl hl.1 rfl (Nat.le_of_ble_eq_true rfl) dX9_hangs_45 ⟨Nat.le_of_ble_eq_true rfl, Nat.le_of_ble_eq_true rfl⟩ (fun H locs w => ?_)
        have hf : some r_3 = some r0 := hf
        have q0 := so1 hf
        subst q0
        exact retI B hr hk w dX9_hangs_48
      · have hf := if_f hf c_2
        refine lv_iload_n hx hb dX9_hangs_11 rfl (lv_at hl 3 rfl) ?_
        refine lv_if_ne (x := v3) (tgt := 32) hx hb dX9_hangs_12 (by decide) (fun c_5 => ?_) (fun c_5 => ?_)
        · have hf := if_f hf c_5
          exact J32 _ ih v0 v1 v2 v4 H locs ls w (lv_sub hl [0, 1, 2, 4] rfl) hf
        · have hf := if_t hf c_5
          refine lv_iload_n hx hb dX9_hangs_15 rfl (lv_at hl 0 rfl) ?_
          refine lv_iload hx hb dX9_hangs_16 (lv_at hl 4 rfl) ?_
          refine lv_ishr (x := v0) (y := v4) hx hb dX9_hangs_18 ?_
          refine lv_iconst (v := 1) hx hb dX9_hangs_19 (by decide) ?_
          refine lv_iand (x := (v0 >>> (v4 &&& 31))) (y := 1) hx hb dX9_hangs_20 ?_
          refine lv_iload_n hx hb dX9_hangs_21 rfl (lv_at hl 0 rfl) ?_
          refine lv_iload hx hb dX9_hangs_22 (lv_at hl 4 rfl) ?_
          refine lv_iload_n hx hb dX9_hangs_24 rfl (lv_at hl 2 rfl) ?_
          refine lv_ixor (x := v4) (y := v2) hx hb dX9_hangs_25 ?_
          refine lv_ishr (x := v0) (y := (v4 ^^^ v2)) hx hb dX9_hangs_26 ?_
          refine lv_iconst (v := 1) hx hb dX9_hangs_27 (by decide) ?_
          refine lv_iand (x := (v0 >>> ((v4 ^^^ v2) &&& 31))) (y := 1) hx hb dX9_hangs_28 ?_
          refine lv_icmp_eq (x := ((v0 >>> (v4 &&& 31)) &&& 1)) (y := ((v0 >>> ((v4 ^^^ v2) &&& 31)) &&& 1)) (tgt := 36) hx hb dX9_hangs_29 (by decide) (fun c_6 => ?_) (fun c_6 => ?_)
          · have hf := if_t hf c_6
            refine lv_iconst (v := 0) hx hb dX9_hangs_36 (by decide) ?_
            exact J37 _ ih v0 v1 v2 v4 0 H locs ls w (lv_sub hl [0, 1, 2, 4] rfl) hf
          · have hf := if_f hf c_6
            exact J32 _ ih v0 v1 v2 v4 H locs ls w (lv_sub hl [0, 1, 2, 4] rfl) hf
  unfold f_X9_hangs at hf
  refine (show ∀ (H : Heap) (locs : List Loc), Wd E A s [] H locs → W p l e ({ frames := 1, cells := 0, slots := 0, locals := 20 } : Room) s m args below meth c H locs 0 0 (MQ below (Qi E A [] r0) args s 0 0 A) (F0 m 0 ls []) from ?_) s.heap [] w
  intro H locs w
  refine lv_iconst (v := 0) hx hb dX9_hangs_0 (by decide) ?_
  refine lv_istore_n (lv' := [(3, .int 0), (0, .int v0), (1, .int v1), (2, .int v2)]) hx hb dX9_hangs_1 rfl hl (by decide) rfl (fun ls hl => ?_)
  refine lv_iconst (v := 0) hx hb dX9_hangs_2 (by decide) ?_
  refine lv_istore (lv' := [(4, .int 0), (3, .int 0), (0, .int v0), (1, .int v1), (2, .int v2)]) hx hb dX9_hangs_3 hl (by decide) rfl (fun ls hl => ?_)
  exact J5  5000 v0 v1 v2 0 0 H locs ls w (lv_sub hl [2, 3, 4, 1, 0] rfl) hf
def f_X9_plainOf (v0 : Int32) : Option (Int32) := bindv ((v0 - v0 / 16 * 16) : Int32) (fun x_1 => bindv ((v0 / 16) : Int32) (fun x_2 => bind1 (f_X9_hangs x_1 4 2) (fun r_3 => bind1 (f_X9_hangs x_1 4 1) (fun r_5 => bind1 (f_X9_hangs x_2 8 4) (fun r_7 => bind1 (f_X9_hangs x_2 8 2) (fun r_9 => bind1 (f_X9_hangs x_2 8 1) (fun r_11 => some ((((r_3 + r_5) + r_7) + r_9) + r_11))))))))
set_option maxHeartbeats 4000000 in
set_option maxRecDepth 100000 in
theorem c_X9_plainOf (l : Launch) (E : VE) (v0 : Int32) {r0 : Int32} (hf : f_X9_plainOf v0 = some r0) : MtI l yX9_plainOf cX9_plainOf 3 { frames := 2, cells := 0, slots := 0, locals := 44 } E [.int v0] [] [] r0 := by
  refine MtI.of (own := RX9) (by decide +kernel) rfl (Nat.le_of_ble_eq_true rfl) ?_
  intro p e s m args below meth c A B hr hk w ls hl
  have hx := B.1.1
  have hb := B.1.2.1
  have hown := B.1.2.2.2.1
  have hts := B.1.2.2.2.2
  have hl : lv_has ls 3 [(0, .int v0)] := hl
  unfold f_X9_plainOf at hf
  refine (show ∀ (H : Heap) (locs : List Loc), Wd E A s [] H locs → W p l e ({ frames := 2, cells := 0, slots := 0, locals := 44 } : Room) s m args below meth c H locs 0 0 (MQ below (Qi E A [] r0) args s 0 0 A) (F0 m 0 ls []) from ?_) s.heap [] w
  intro H locs w
  refine lv_iload_n hx hb dX9_plainOf_0 rfl (lv_at hl 0 rfl) ?_
  refine lv_bipush (v := 16) hx hb dX9_plainOf_1 (by decide) ?_
  refine lv_irem (x := v0) (y := 16) hx hb dX9_plainOf_3 (by decide) ?_
  refine lv_topi (fun x_1 ex_1 => ?_)
  have hf := bindv_eq hf x_1 ex_1
  refine lv_istore_n (lv' := [(1, .int x_1), (0, .int v0)]) hx hb dX9_plainOf_4 rfl hl (by decide) rfl (fun ls hl => ?_)
  refine lv_iload_n hx hb dX9_plainOf_5 rfl (lv_at hl 1 rfl) ?_
  refine lv_bipush (v := 16) hx hb dX9_plainOf_6 (by decide) ?_
  refine lv_idiv (x := v0) (y := 16) hx hb dX9_plainOf_8 (by decide) ?_
  refine lv_topi (fun x_2 ex_2 => ?_)
  have hf := bindv_eq hf x_2 ex_2
  refine lv_istore_n (lv' := [(2, .int x_2), (1, .int x_1), (0, .int v0)]) hx hb dX9_plainOf_9 rfl hl (by decide) rfl (fun ls hl => ?_)
  refine lv_iload_n hx hb dX9_plainOf_10 rfl (lv_at hl 1 rfl) ?_
  refine lv_iconst (v := 4) hx hb dX9_plainOf_11 (by decide) ?_
  refine lv_iconst (v := 2) hx hb dX9_plainOf_12 (by decide) ?_
  obtain ⟨r_3, er_4, hf⟩ := bind1_eq hf
  refine callSI (As := [.int x_1, .int 4, .int 2]) (rest := []) B w (c_X9_hangs l _ x_1 4 2 er_4) (gS kt5_39 kt5_40 kt1_11 kt5_41) hdS_X9_hangs rfl rfl ⟨Nat.le_of_ble_eq_true rfl, Nat.le_of_ble_eq_true rfl⟩ rfl hl.1 rfl (Nat.le_of_ble_eq_true rfl) dX9_plainOf_13 ⟨Nat.le_of_ble_eq_true rfl, Nat.le_of_ble_eq_true rfl⟩ (fun H locs w => ?_)
  refine lv_iload_n hx hb dX9_plainOf_16 rfl (lv_at hl 1 rfl) ?_
  refine lv_iconst (v := 4) hx hb dX9_plainOf_17 (by decide) ?_
  refine lv_iconst (v := 1) hx hb dX9_plainOf_18 (by decide) ?_
  obtain ⟨r_5, er_6, hf⟩ := bind1_eq hf
  refine callSI (As := [.int x_1, .int 4, .int 1]) (rest := [.int r_3]) B w (c_X9_hangs l _ x_1 4 1 er_6) (gS kt5_39 kt5_40 kt1_11 kt5_41) hdS_X9_hangs rfl rfl ⟨Nat.le_of_ble_eq_true rfl, Nat.le_of_ble_eq_true rfl⟩ rfl hl.1 rfl (Nat.le_of_ble_eq_true rfl) dX9_plainOf_19 ⟨Nat.le_of_ble_eq_true rfl, Nat.le_of_ble_eq_true rfl⟩ (fun H locs w => ?_)
  refine lv_iadd (x := r_3) (y := r_5) hx hb dX9_plainOf_22 ?_
  refine lv_iload_n hx hb dX9_plainOf_23 rfl (lv_at hl 0 rfl) ?_
  refine lv_bipush (v := 8) hx hb dX9_plainOf_24 (by decide) ?_
  refine lv_iconst (v := 4) hx hb dX9_plainOf_26 (by decide) ?_
  obtain ⟨r_7, er_8, hf⟩ := bind1_eq hf
  refine callSI (As := [.int x_2, .int 8, .int 4]) (rest := [.int (r_3 + r_5)]) B w (c_X9_hangs l _ x_2 8 4 er_8) (gS kt5_39 kt5_40 kt1_11 kt5_41) hdS_X9_hangs rfl rfl ⟨Nat.le_of_ble_eq_true rfl, Nat.le_of_ble_eq_true rfl⟩ rfl hl.1 rfl (Nat.le_of_ble_eq_true rfl) dX9_plainOf_27 ⟨Nat.le_of_ble_eq_true rfl, Nat.le_of_ble_eq_true rfl⟩ (fun H locs w => ?_)
  refine lv_iadd (x := (r_3 + r_5)) (y := r_7) hx hb dX9_plainOf_30 ?_
  refine lv_iload_n hx hb dX9_plainOf_31 rfl (lv_at hl 0 rfl) ?_
  refine lv_bipush (v := 8) hx hb dX9_plainOf_32 (by decide) ?_
  refine lv_iconst (v := 2) hx hb dX9_plainOf_34 (by decide) ?_
  obtain ⟨r_9, er_10, hf⟩ := bind1_eq hf
  refine callSI (As := [.int x_2, .int 8, .int 2]) (rest := [.int ((r_3 + r_5) + r_7)]) B w (c_X9_hangs l _ x_2 8 2 er_10) (gS kt5_39 kt5_40 kt1_11 kt5_41) hdS_X9_hangs rfl rfl ⟨Nat.le_of_ble_eq_true rfl, Nat.le_of_ble_eq_true rfl⟩ rfl hl.1 rfl (Nat.le_of_ble_eq_true rfl) dX9_plainOf_35 ⟨Nat.le_of_ble_eq_true rfl, Nat.le_of_ble_eq_true rfl⟩ (fun H locs w => ?_)
  refine lv_iadd (x := ((r_3 + r_5) + r_7)) (y := r_9) hx hb dX9_plainOf_38 ?_
  refine lv_iload_n hx hb dX9_plainOf_39 rfl (lv_at hl 0 rfl) ?_
  refine lv_bipush (v := 8) hx hb dX9_plainOf_40 (by decide) ?_
  refine lv_iconst (v := 1) hx hb dX9_plainOf_42 (by decide) ?_
  obtain ⟨r_11, er_12, hf⟩ := bind1_eq hf
  refine callSI (As := [.int x_2, .int 8, .int 1]) (rest := [.int (((r_3 + r_5) + r_7) + r_9)]) B w (c_X9_hangs l _ x_2 8 1 er_12) (gS kt5_39 kt5_40 kt1_11 kt5_41) hdS_X9_hangs rfl rfl ⟨Nat.le_of_ble_eq_true rfl, Nat.le_of_ble_eq_true rfl⟩ rfl hl.1 rfl (Nat.le_of_ble_eq_true rfl) dX9_plainOf_43 ⟨Nat.le_of_ble_eq_true rfl, Nat.le_of_ble_eq_true rfl⟩ (fun H locs w => ?_)
  refine lv_iadd (x := (((r_3 + r_5) + r_7) + r_9)) (y := r_11) hx hb dX9_plainOf_46 ?_
  have hf : some ((((r_3 + r_5) + r_7) + r_9) + r_11) = some r0 := hf
  have q0 := so1 hf
  subst q0
  exact retI B hr hk w dX9_plainOf_47
def f_X9_bearsOf_57   (v2 : Int32) (v3 : Int32) (fi : Nat → Int32) (fl : Nat → Int64) (ar : Nat → Nat → Int32) : Option (Int32 × (Nat → Int32) × (Nat → Int64) × (Nat → Nat → Int32)) := bindv (updA ar 1 (upd (ar 1) (Int32.toNatClampNeg 3) v2)) (fun ar_1 => some ((v3 - 1), fi, fl, ar_1))
def f_X9_bearsOf_44  (k12 : Int32 → Int32 → Int32 → Int32 → (Nat → Int32) → (Nat → Int64) → (Nat → Nat → Int32) → Option (Int32 × (Nat → Int32) × (Nat → Int64) × (Nat → Nat → Int32))) (v1 : Int32) (v2 : Int32) (v3 : Int32) (t0 : Int32) (fi : Nat → Int32) (fl : Nat → Int64) (ar : Nat → Nat → Int32) : Option (Int32 × (Nat → Int32) × (Nat → Int64) × (Nat → Nat → Int32)) := bindv (f_X9_one t0) (fun r_2 => bindv ((v3 + r_2) : Int32) (fun x_4 => k12 v1 v2 x_4 t0 fi fl ar))
def f_X9_bearsOf_12   : Nat → (Int32) → (Int32) → (Int32) → (Int32) → (Nat → Int32) → (Nat → Int64) → (Nat → Nat → Int32) → Option (Int32 × (Nat → Int32) × (Nat → Int64) × (Nat → Nat → Int32))
  | 0, _, _, _, _, _, _, _ => none
  | n + 1, v1, v2, v3, v4, fi, fl, ar => if (v4 = 0 : Prop) then (f_X9_bearsOf_57  v2 v3 fi fl ar) else (if (50 < v3 : Prop) then (f_X9_bearsOf_57  v2 v3 fi fl ar) else (bindv (updA ar 1 (upd (ar 1) (Int32.toNatClampNeg 3) v3)) (fun ar_7 => bind4 (f_X9_holdsOf fi fl ar_7 v1) (fun r_8 fi_9 fl_10 ar_11 => if (r_8 = 1 : Prop) then (f_X9_bearsOf_44 (f_X9_bearsOf_12 n) v1 v2 v3 1 fi_9 fl_10 ar_11) else (f_X9_bearsOf_44 (f_X9_bearsOf_12 n) v1 v2 v3 0 fi_9 fl_10 ar_11)))))
def f_X9_bearsOf (fi : Nat → Int32) (fl : Nat → Int64) (ar : Nat → Nat → Int32) (v1 : Int32) : Option (Int32 × (Nat → Int32) × (Nat → Int64) × (Nat → Nat → Int32)) := bindv ((ar 1 (Int32.toNatClampNeg 3)) : Int32) (fun x_14 => f_X9_bearsOf_12  5000 v1 x_14 0 1 fi fl ar)
set_option maxHeartbeats 4000000 in
set_option maxRecDepth 100000 in
theorem c_X9_bearsOf (l : Launch) (D : va_G) (ca : Nat → ClassId) (ak av ad : Nat → Nat) (fi : Nat → Int32) (fl : Nat → Int64) (ar : Nat → Nat → Int32) (v1 : Int32) {r0 : Int32} {fi0 : Nat → Int32} {fl0 : Nat → Int64} {ar0 : Nat → Nat → Int32} (hf : f_X9_bearsOf fi fl ar v1 = some (r0, fi0, fl0, ar0)) : MtI l yX9_bearsOf cX9_bearsOf 5 { frames := 5, cells := 0, slots := 0, locals := 141 } (EM D ca ak av) [.ref (ad 0), .int v1] (wM ad ca fi fl ar) (wM ad ca fi0 fl0 ar0) r0 := by
  refine MtI.of (own := RX9) (by decide +kernel) rfl (Nat.le_of_ble_eq_true rfl) ?_
  intro p e s m args below meth c A B hr hk w ls hl
  have hx := B.1.1
  have hb := B.1.2.1
  have hown := B.1.2.2.2.1
  have hts := B.1.2.2.2.2
  have hl : lv_has ls 5 [(0, .ref (ad 0)), (1, .int v1)] := hl
  have J57 : ∀ (v2 : Int32) (v3 : Int32) (fi : Nat → Int32) (fl : Nat → Int64) (ar : Nat → Nat → Int32) (H : Heap) (locs : List Loc) (ls : Array Slot), Wd (EM D ca ak av) A s (wM ad ca fi fl ar) H locs → lv_has ls 5 [(0, .ref (ad 0)), (2, .int v2), (3, .int v3)] → f_X9_bearsOf_57  v2 v3 fi fl ar = some (r0, fi0, fl0, ar0) → W p l e ({ frames := 5, cells := 0, slots := 0, locals := 141 } : Room) s m args below meth c H locs 0 0 (MQ below (Qi (EM D ca ak av) A (wM ad ca fi0 fl0 ar0) r0) args s 0 0 A) (F0 m 57 ls []) := by
    intro  v2 v3 fi fl ar H locs ls w hl hf
    unfold f_X9_bearsOf_57 at hf
    refine lv_aload_n hx hb dX9_bearsOf_57 rfl (lv_at hl 0 rfl) ?_
    refine gfM_0_0 B w kt4_25 dX9_bearsOf_58 ?_
    refine lv_iconst (v := 3) hx hb dX9_bearsOf_61 (by decide) ?_
    refine lv_iload_n hx hb dX9_bearsOf_62 rfl (lv_at hl 1 rfl) ?_
    refine asM_1 (x := v2) B w (vp_in_iff.mpr (by decide)) dX9_bearsOf_63 (fun H locs ar_1 ear_1 w => ?_)
    have hf := bindv_eq hf ar_1 ear_1
    refine lv_iload_n hx hb dX9_bearsOf_64 rfl (lv_at hl 2 rfl) ?_
    refine lv_iconst (v := 1) hx hb dX9_bearsOf_65 (by decide) ?_
    refine lv_isub (x := v3) (y := 1) hx hb dX9_bearsOf_66 ?_
    have hf : some ((v3 - 1), fi, fl, ar_1) = some (r0, fi0, fl0, ar0) := hf
    obtain ⟨q0, q1, q2, q3⟩ := so4 hf
    subst q0
    subst q1
    subst q2
    subst q3
    exact retI B hr hk w dX9_bearsOf_67
  have J44 : ∀ (k12 : Int32 → Int32 → Int32 → Int32 → (Nat → Int32) → (Nat → Int64) → (Nat → Nat → Int32) → Option (Int32 × (Nat → Int32) × (Nat → Int64) × (Nat → Nat → Int32))) (hk12 : ∀ (v1 : Int32) (v2 : Int32) (v3 : Int32) (v4 : Int32) (fi : Nat → Int32) (fl : Nat → Int64) (ar : Nat → Nat → Int32) (H : Heap) (locs : List Loc) (ls : Array Slot), Wd (EM D ca ak av) A s (wM ad ca fi fl ar) H locs → lv_has ls 5 [(0, .ref (ad 0)), (1, .int v1), (2, .int v2), (3, .int v3), (4, .int v4)] → k12 v1 v2 v3 v4 fi fl ar = some (r0, fi0, fl0, ar0) → W p l e ({ frames := 5, cells := 0, slots := 0, locals := 141 } : Room) s m args below meth c H locs 0 0 (MQ below (Qi (EM D ca ak av) A (wM ad ca fi0 fl0 ar0) r0) args s 0 0 A) (F0 m 12 ls [])) (v1 : Int32) (v2 : Int32) (v3 : Int32) (t0 : Int32) (fi : Nat → Int32) (fl : Nat → Int64) (ar : Nat → Nat → Int32) (H : Heap) (locs : List Loc) (ls : Array Slot), Wd (EM D ca ak av) A s (wM ad ca fi fl ar) H locs → lv_has ls 5 [(0, .ref (ad 0)), (1, .int v1), (2, .int v2), (3, .int v3)] → f_X9_bearsOf_44 k12 v1 v2 v3 t0 fi fl ar = some (r0, fi0, fl0, ar0) → W p l e ({ frames := 5, cells := 0, slots := 0, locals := 141 } : Room) s m args below meth c H locs 0 0 (MQ below (Qi (EM D ca ak av) A (wM ad ca fi0 fl0 ar0) r0) args s 0 0 A) (F0 m 44 ls [.int t0]) := by
    intro k12 hk12 v1 v2 v3 t0 fi fl ar H locs ls w hl hf
    unfold f_X9_bearsOf_44 at hf
    refine lv_istore (lv' := [(4, .int t0), (0, .ref (ad 0)), (1, .int v1), (2, .int v2), (3, .int v3)]) hx hb dX9_bearsOf_44 hl (by decide) rfl (fun ls hl => ?_)
    refine lv_iload_n hx hb dX9_bearsOf_46 rfl (lv_at hl 4 rfl) ?_
    refine lv_iload hx hb dX9_bearsOf_47 (lv_at hl 0 rfl) ?_
    obtain ⟨r_2, er_3⟩ : ∃ y, f_X9_one t0 = y := ⟨_, rfl⟩
    have hf := bindv_eq hf r_2 er_3.symm
    refine callSI (As := [.int t0]) (rest := [.int v3]) B w (c_X9_one l _ t0 er_3) (gS kt4_133 kt4_134 kt1_11 kt4_135) hdS_X9_one rfl rfl ⟨Nat.le_of_ble_eq_true rfl, Nat.le_of_ble_eq_true rfl⟩ rfl hl.1 rfl (Nat.le_of_ble_eq_true rfl) dX9_bearsOf_49 ⟨Nat.le_of_ble_eq_true rfl, Nat.le_of_ble_eq_true rfl⟩ (fun H locs w => ?_)
    refine lv_iadd (x := v3) (y := r_2) hx hb dX9_bearsOf_52 ?_
    refine lv_topi (fun x_4 ex_4 => ?_)
    have hf := bindv_eq hf x_4 ex_4
    refine lv_istore_n (lv' := [(3, .int x_4), (4, .int t0), (0, .ref (ad 0)), (1, .int v1), (2, .int v2)]) hx hb dX9_bearsOf_53 rfl hl (by decide) rfl (fun ls hl => ?_)
    refine lv_goto (tgt := 12) hx hb dX9_bearsOf_54 (by decide) ?_
    exact hk12 v1 v2 x_4 t0 fi fl ar H locs ls w (lv_sub hl [2, 3, 4, 0, 1] rfl) hf
  have J12 : ∀ (n : Nat) (v1 : Int32) (v2 : Int32) (v3 : Int32) (v4 : Int32) (fi : Nat → Int32) (fl : Nat → Int64) (ar : Nat → Nat → Int32) (H : Heap) (locs : List Loc) (ls : Array Slot), Wd (EM D ca ak av) A s (wM ad ca fi fl ar) H locs → lv_has ls 5 [(0, .ref (ad 0)), (1, .int v1), (2, .int v2), (3, .int v3), (4, .int v4)] → f_X9_bearsOf_12  n v1 v2 v3 v4 fi fl ar = some (r0, fi0, fl0, ar0) → W p l e ({ frames := 5, cells := 0, slots := 0, locals := 141 } : Room) s m args below meth c H locs 0 0 (MQ below (Qi (EM D ca ak av) A (wM ad ca fi0 fl0 ar0) r0) args s 0 0 A) (F0 m 12 ls []) := by
    intro  n
    induction n with
    | zero =>
      intro v1 v2 v3 v4 fi fl ar H locs ls w hl hf
      cases hf
    | succ n ih =>
      intro v1 v2 v3 v4 fi fl ar H locs ls w hl hf
      rw [f_X9_bearsOf_12] at hf
      refine lv_iload hx hb dX9_bearsOf_12 (lv_at hl 4 rfl) ?_
      refine lv_if_eq (x := v4) (tgt := 57) hx hb dX9_bearsOf_14 (by decide) (fun c_5 => ?_) (fun c_5 => ?_)
      · have hf := if_t hf c_5
        exact J57  v2 v3 fi fl ar H locs ls w (lv_sub hl [0, 2, 3] rfl) hf
      · have hf := if_f hf c_5
        refine lv_iload_n hx hb dX9_bearsOf_17 rfl (lv_at hl 3 rfl) ?_
        refine lv_bipush (v := 50) hx hb dX9_bearsOf_18 (by decide) ?_
        refine lv_icmp_gt (x := v3) (y := 50) (tgt := 57) hx hb dX9_bearsOf_20 (by decide) (fun c_6 => ?_) (fun c_6 => ?_)
        · have hf := if_t hf c_6
          exact J57  v2 v3 fi fl ar H locs ls w (lv_sub hl [0, 2, 3] rfl) hf
        · have hf := if_f hf c_6
          refine lv_aload_n hx hb dX9_bearsOf_23 rfl (lv_at hl 0 rfl) ?_
          refine gfM_0_0 B w kt4_25 dX9_bearsOf_24 ?_
          refine lv_iconst (v := 3) hx hb dX9_bearsOf_27 (by decide) ?_
          refine lv_iload_n hx hb dX9_bearsOf_28 rfl (lv_at hl 3 rfl) ?_
          refine asM_1 (x := v3) B w (vp_in_iff.mpr (by decide)) dX9_bearsOf_29 (fun H locs ar_7 ear_7 w => ?_)
          have hf := bindv_eq hf ar_7 ear_7
          refine lv_aload_n hx hb dX9_bearsOf_30 rfl (lv_at hl 0 rfl) ?_
          refine lv_iload_n hx hb dX9_bearsOf_31 rfl (lv_at hl 1 rfl) ?_
          obtain ⟨r_8, fi_9, fl_10, ar_11, er_12, hf⟩ := bind4_eq hf
          refine callVI (As := [.int v1]) (rest := []) B w (c_X9_holdsOf l D ca ak av ad fi fl ar_7 v1 er_12) (gV kt5_12 kt5_14 kp2_9 kt1_11 kt5_15) hdV_X9_holdsOf 0 rfl rfl rfl rfl ⟨Nat.le_of_ble_eq_true rfl, Nat.le_of_ble_eq_true rfl⟩ rfl hl.1 rfl (Nat.le_of_ble_eq_true rfl) dX9_bearsOf_32 ⟨Nat.le_of_ble_eq_true rfl, Nat.le_of_ble_eq_true rfl⟩ (fun H locs w => ?_)
          refine lv_iconst (v := 1) hx hb dX9_bearsOf_35 (by decide) ?_
          refine lv_icmp_ne (x := r_8) (y := 1) (tgt := 43) hx hb dX9_bearsOf_36 (by decide) (fun c_13 => ?_) (fun c_13 => ?_)
          · have hf := if_f hf c_13
            refine lv_iconst (v := 0) hx hb dX9_bearsOf_43 (by decide) ?_
            exact J44 _ ih v1 v2 v3 0 fi_9 fl_10 ar_11 H locs ls w (lv_sub hl [0, 1, 2, 3] rfl) hf
          · have hf := if_t hf c_13
            refine lv_iconst (v := 1) hx hb dX9_bearsOf_39 (by decide) ?_
            refine lv_goto (tgt := 44) hx hb dX9_bearsOf_40 (by decide) ?_
            exact J44 _ ih v1 v2 v3 1 fi_9 fl_10 ar_11 H locs ls w (lv_sub hl [0, 1, 2, 3] rfl) hf
  unfold f_X9_bearsOf at hf
  refine (show ∀ (H : Heap) (locs : List Loc), Wd (EM D ca ak av) A s (wM ad ca fi fl ar) H locs → W p l e ({ frames := 5, cells := 0, slots := 0, locals := 141 } : Room) s m args below meth c H locs 0 0 (MQ below (Qi (EM D ca ak av) A (wM ad ca fi0 fl0 ar0) r0) args s 0 0 A) (F0 m 0 ls []) from ?_) s.heap [] w
  intro H locs w
  refine lv_aload_n hx hb dX9_bearsOf_0 rfl (lv_at hl 0 rfl) ?_
  refine gfM_0_0 B w kt4_25 dX9_bearsOf_1 ?_
  refine lv_iconst (v := 3) hx hb dX9_bearsOf_4 (by decide) ?_
  refine alM_1 B w (vp_in_iff.mpr (by decide)) dX9_bearsOf_5 ?_
  refine lv_topi (fun x_14 ex_14 => ?_)
  have hf := bindv_eq hf x_14 ex_14
  refine lv_istore_n (lv' := [(2, .int x_14), (0, .ref (ad 0)), (1, .int v1)]) hx hb dX9_bearsOf_6 rfl hl (by decide) rfl (fun ls hl => ?_)
  refine lv_iconst (v := 0) hx hb dX9_bearsOf_7 (by decide) ?_
  refine lv_istore_n (lv' := [(3, .int 0), (2, .int x_14), (0, .ref (ad 0)), (1, .int v1)]) hx hb dX9_bearsOf_8 rfl hl (by decide) rfl (fun ls hl => ?_)
  refine lv_iconst (v := 1) hx hb dX9_bearsOf_9 (by decide) ?_
  refine lv_istore (lv' := [(4, .int 1), (3, .int 0), (2, .int x_14), (0, .ref (ad 0)), (1, .int v1)]) hx hb dX9_bearsOf_10 hl (by decide) rfl (fun ls hl => ?_)
  exact J12  5000 v1 x_14 0 1 fi fl ar H locs ls w (lv_sub hl [3, 4, 2, 1, 0] rfl) hf
def f_X9_best_148  (k69 : Int32 → Int32 → Int32 → Int32 → Int32 → (Nat → Int32) → (Nat → Int64) → (Nat → Nat → Int32) → Option (Int32 × (Nat → Int32) × (Nat → Int64) × (Nat → Nat → Int32))) (v1 : Int32) (v3 : Int32) (v4 : Int32) (v5 : Int32) (v6 : Int32) (fi : Nat → Int32) (fl : Nat → Int64) (ar : Nat → Nat → Int32) : Option (Int32 × (Nat → Int32) × (Nat → Int64) × (Nat → Nat → Int32)) := bindv (v6 + 1 : Int32) (fun x_1 => k69 v1 v3 v4 v5 x_1 fi fl ar)
def f_X9_best_140  (k69 : Int32 → Int32 → Int32 → Int32 → Int32 → (Nat → Int32) → (Nat → Int64) → (Nat → Nat → Int32) → Option (Int32 × (Nat → Int32) × (Nat → Int64) × (Nat → Nat → Int32))) (v1 : Int32) (v3 : Int32) (v6 : Int32) (v7 : Int32) (fi : Nat → Int32) (fl : Nat → Int64) (ar : Nat → Nat → Int32) : Option (Int32 × (Nat → Int32) × (Nat → Int64) × (Nat → Nat → Int32)) := f_X9_best_148 k69 v1 v3 v6 v7 v6 fi fl ar
def f_X9_best_126  (k69 : Int32 → Int32 → Int32 → Int32 → Int32 → (Nat → Int32) → (Nat → Int64) → (Nat → Nat → Int32) → Option (Int32 × (Nat → Int32) × (Nat → Int64) × (Nat → Nat → Int32))) (v1 : Int32) (v3 : Int32) (v4 : Int32) (v5 : Int32) (v6 : Int32) (t0 : Int32) (fi : Nat → Int32) (fl : Nat → Int64) (ar : Nat → Nat → Int32) : Option (Int32 × (Nat → Int32) × (Nat → Int64) × (Nat → Nat → Int32)) := if (v4 < 0 : Prop) then (f_X9_best_140 k69 v1 v3 v6 t0 fi fl ar) else (if (t0 ≤ v5 : Prop) then (f_X9_best_148 k69 v1 v3 v4 v5 v6 fi fl ar) else (f_X9_best_140 k69 v1 v3 v6 t0 fi fl ar))
def f_X9_best_105  (k69 : Int32 → Int32 → Int32 → Int32 → Int32 → (Nat → Int32) → (Nat → Int64) → (Nat → Nat → Int32) → Option (Int32 × (Nat → Int32) × (Nat → Int64) × (Nat → Nat → Int32))) (v1 : Int32) (v3 : Int32) (v4 : Int32) (v5 : Int32) (v6 : Int32) (fi : Nat → Int32) (fl : Nat → Int64) (ar : Nat → Nat → Int32) : Option (Int32 × (Nat → Int32) × (Nat → Int64) × (Nat → Nat → Int32)) := if (v1 = 1 : Prop) then (bind1 (f_X9_plainOf v6) (fun r_10 => f_X9_best_126 k69 v1 v3 v4 v5 v6 (0 - r_10) fi fl ar)) else (bind4 (f_X9_bearsOf fi fl ar v6) (fun r_5 fi_6 fl_7 ar_8 => f_X9_best_126 k69 v1 v3 v4 v5 v6 r_5 fi_6 fl_7 ar_8))
def f_X9_best_69   : Nat → (Int32) → (Int32) → (Int32) → (Int32) → (Int32) → (Nat → Int32) → (Nat → Int64) → (Nat → Nat → Int32) → Option (Int32 × (Nat → Int32) × (Nat → Int64) × (Nat → Nat → Int32))
  | 0, _, _, _, _, _, _, _, _ => none
  | n + 1, v1, v3, v4, v5, v6, fi, fl, ar => if (4096 ≤ v6 : Prop) then (some (v4, fi, fl, ar)) else (bind4 (f_X9_isHolding fi fl ar v6) (fun r_13 fi_14 fl_15 ar_16 => if (r_13 = 0 : Prop) then (f_X9_best_148 (f_X9_best_69 n) v1 v3 v4 v5 v6 fi_14 fl_15 ar_16) else (if (v1 = 1 : Prop) then (f_X9_best_105 (f_X9_best_69 n) v1 v3 v4 v5 v6 fi_14 fl_15 ar_16) else (bind1 (f_X9_helpedBy ar_16 v6 (fi_14 8)) (fun r_20 => if (r_20 = v3 : Prop) then (f_X9_best_105 (f_X9_best_69 n) v1 v3 v4 v5 v6 fi_14 fl_15 ar_16) else (f_X9_best_148 (f_X9_best_69 n) v1 v3 v4 v5 v6 fi_14 fl_15 ar_16))))))
def f_X9_best_59   (v1 : Int32) (t0 : Int32) (fi : Nat → Int32) (fl : Nat → Int64) (ar : Nat → Nat → Int32) : Option (Int32 × (Nat → Int32) × (Nat → Int64) × (Nat → Nat → Int32)) := f_X9_best_69  5000 v1 t0 (-1) 0 0 fi fl ar
def f_X9_best_45   (v1 : Int32) (v2 : Int32) (fi : Nat → Int32) (fl : Nat → Int64) (ar : Nat → Nat → Int32) : Option (Int32 × (Nat → Int32) × (Nat → Int64) × (Nat → Nat → Int32)) := if (v1 = 1 : Prop) then (f_X9_best_59  v1 0 fi fl ar) else (bind3 (f_X9_helpedAtRest fi ar v2) (fun r_24 fi_25 ar_26 => f_X9_best_59  v1 r_24 fi_25 fl ar_26))
def f_X9_best_29   (v1 : Int32) (t0 : Int32) (fi : Nat → Int32) (fl : Nat → Int64) (ar : Nat → Nat → Int32) : Option (Int32 × (Nat → Int32) × (Nat → Int64) × (Nat → Nat → Int32)) := if (v1 = 0 : Prop) then (some (t0, fi, fl, ar)) else (if (v1 = 2 : Prop) then (if (0 ≤ t0 : Prop) then (f_X9_best_45  v1 t0 fi fl ar) else (some (t0, fi, fl, ar))) else (f_X9_best_45  v1 t0 fi fl ar))
def f_X9_best (fi : Nat → Int32) (fl : Nat → Int64) (ar : Nat → Nat → Int32) (v1 : Int32) : Option (Int32 × (Nat → Int32) × (Nat → Int64) × (Nat → Nat → Int32)) := bindv (f_X9_in (Int32.toInt64 v1) 0 2) (fun r_31 => if (r_31 = 0 : Prop) then (some ((-1002), fi, fl, ar)) else (if (v1 = 1 : Prop) then (f_X9_best_29  v1 (-1) fi fl ar) else (bind4 (f_X9_mostHelped fi fl ar) (fun r_35 fi_36 fl_37 ar_38 => f_X9_best_29  v1 r_35 fi_36 fl_37 ar_38))))
set_option maxHeartbeats 4000000 in
set_option maxRecDepth 100000 in
theorem c_X9_best (l : Launch) (D : va_G) (ca : Nat → ClassId) (ak av ad : Nat → Nat) (fi : Nat → Int32) (fl : Nat → Int64) (ar : Nat → Nat → Int32) (v1 : Int32) {r0 : Int32} {fi0 : Nat → Int32} {fl0 : Nat → Int64} {ar0 : Nat → Nat → Int32} (hf : f_X9_best fi fl ar v1 = some (r0, fi0, fl0, ar0)) : MtI l yX9_best cX9_best 8 { frames := 7, cells := 0, slots := 0, locals := 186 } (EM D ca ak av) [.ref (ad 0), .int v1] (wM ad ca fi fl ar) (wM ad ca fi0 fl0 ar0) r0 := by
  refine MtI.of (own := RX9) (by decide +kernel) rfl (Nat.le_of_ble_eq_true rfl) ?_
  intro p e s m args below meth c A B hr hk w ls hl
  have hx := B.1.1
  have hb := B.1.2.1
  have hown := B.1.2.2.2.1
  have hts := B.1.2.2.2.2
  have hl : lv_has ls 8 [(0, .ref (ad 0)), (1, .int v1)] := hl
  have J148 : ∀ (k69 : Int32 → Int32 → Int32 → Int32 → Int32 → (Nat → Int32) → (Nat → Int64) → (Nat → Nat → Int32) → Option (Int32 × (Nat → Int32) × (Nat → Int64) × (Nat → Nat → Int32))) (hk69 : ∀ (v1 : Int32) (v3 : Int32) (v4 : Int32) (v5 : Int32) (v6 : Int32) (fi : Nat → Int32) (fl : Nat → Int64) (ar : Nat → Nat → Int32) (H : Heap) (locs : List Loc) (ls : Array Slot), Wd (EM D ca ak av) A s (wM ad ca fi fl ar) H locs → lv_has ls 8 [(0, .ref (ad 0)), (1, .int v1), (3, .int v3), (4, .int v4), (5, .int v5), (6, .int v6)] → k69 v1 v3 v4 v5 v6 fi fl ar = some (r0, fi0, fl0, ar0) → W p l e ({ frames := 7, cells := 0, slots := 0, locals := 186 } : Room) s m args below meth c H locs 0 0 (MQ below (Qi (EM D ca ak av) A (wM ad ca fi0 fl0 ar0) r0) args s 0 0 A) (F0 m 69 ls [])) (v1 : Int32) (v3 : Int32) (v4 : Int32) (v5 : Int32) (v6 : Int32) (fi : Nat → Int32) (fl : Nat → Int64) (ar : Nat → Nat → Int32) (H : Heap) (locs : List Loc) (ls : Array Slot), Wd (EM D ca ak av) A s (wM ad ca fi fl ar) H locs → lv_has ls 8 [(0, .ref (ad 0)), (1, .int v1), (3, .int v3), (4, .int v4), (5, .int v5), (6, .int v6)] → f_X9_best_148 k69 v1 v3 v4 v5 v6 fi fl ar = some (r0, fi0, fl0, ar0) → W p l e ({ frames := 7, cells := 0, slots := 0, locals := 186 } : Room) s m args below meth c H locs 0 0 (MQ below (Qi (EM D ca ak av) A (wM ad ca fi0 fl0 ar0) r0) args s 0 0 A) (F0 m 148 ls []) := by
    intro k69 hk69 v1 v3 v4 v5 v6 fi fl ar H locs ls w hl hf
    unfold f_X9_best_148 at hf
    obtain ⟨x_1, ex_1⟩ : ∃ y : Int32, y = v6 + 1 := ⟨_, rfl⟩
    have hf := bindv_eq hf x_1 ex_1
    refine lv_iinc (v := x_1) (lv' := [(6, .int x_1), (0, .ref (ad 0)), (1, .int v1), (3, .int v3), (4, .int v4), (5, .int v5)]) hx hb dX9_best_148 hl (k := 5) rfl (by rw [ex_1]; rfl) (by decide) rfl (fun ls hl => ?_)
    refine lv_goto (tgt := 69) hx hb dX9_best_151 (by decide) ?_
    exact hk69 v1 v3 v4 v5 x_1 fi fl ar H locs ls w (lv_sub hl [1, 2, 3, 4, 5, 0] rfl) hf
  have J140 : ∀ (k69 : Int32 → Int32 → Int32 → Int32 → Int32 → (Nat → Int32) → (Nat → Int64) → (Nat → Nat → Int32) → Option (Int32 × (Nat → Int32) × (Nat → Int64) × (Nat → Nat → Int32))) (hk69 : ∀ (v1 : Int32) (v3 : Int32) (v4 : Int32) (v5 : Int32) (v6 : Int32) (fi : Nat → Int32) (fl : Nat → Int64) (ar : Nat → Nat → Int32) (H : Heap) (locs : List Loc) (ls : Array Slot), Wd (EM D ca ak av) A s (wM ad ca fi fl ar) H locs → lv_has ls 8 [(0, .ref (ad 0)), (1, .int v1), (3, .int v3), (4, .int v4), (5, .int v5), (6, .int v6)] → k69 v1 v3 v4 v5 v6 fi fl ar = some (r0, fi0, fl0, ar0) → W p l e ({ frames := 7, cells := 0, slots := 0, locals := 186 } : Room) s m args below meth c H locs 0 0 (MQ below (Qi (EM D ca ak av) A (wM ad ca fi0 fl0 ar0) r0) args s 0 0 A) (F0 m 69 ls [])) (v1 : Int32) (v3 : Int32) (v6 : Int32) (v7 : Int32) (fi : Nat → Int32) (fl : Nat → Int64) (ar : Nat → Nat → Int32) (H : Heap) (locs : List Loc) (ls : Array Slot), Wd (EM D ca ak av) A s (wM ad ca fi fl ar) H locs → lv_has ls 8 [(0, .ref (ad 0)), (1, .int v1), (3, .int v3), (6, .int v6), (7, .int v7)] → f_X9_best_140 k69 v1 v3 v6 v7 fi fl ar = some (r0, fi0, fl0, ar0) → W p l e ({ frames := 7, cells := 0, slots := 0, locals := 186 } : Room) s m args below meth c H locs 0 0 (MQ below (Qi (EM D ca ak av) A (wM ad ca fi0 fl0 ar0) r0) args s 0 0 A) (F0 m 140 ls []) := by
    intro k69 hk69 v1 v3 v6 v7 fi fl ar H locs ls w hl hf
    unfold f_X9_best_140 at hf
    refine lv_iload hx hb dX9_best_140 (lv_at hl 3 rfl) ?_
    refine lv_istore (lv' := [(4, .int v6), (0, .ref (ad 0)), (1, .int v1), (3, .int v3), (6, .int v6), (7, .int v7)]) hx hb dX9_best_142 hl (by decide) rfl (fun ls hl => ?_)
    refine lv_iload hx hb dX9_best_144 (lv_at hl 5 rfl) ?_
    refine lv_istore (lv' := [(5, .int v7), (4, .int v6), (0, .ref (ad 0)), (1, .int v1), (3, .int v3), (6, .int v6), (7, .int v7)]) hx hb dX9_best_146 hl (by decide) rfl (fun ls hl => ?_)
    exact J148 _ hk69 v1 v3 v6 v7 v6 fi fl ar H locs ls w (lv_sub hl [2, 3, 4, 1, 0, 5] rfl) hf
  have J126 : ∀ (k69 : Int32 → Int32 → Int32 → Int32 → Int32 → (Nat → Int32) → (Nat → Int64) → (Nat → Nat → Int32) → Option (Int32 × (Nat → Int32) × (Nat → Int64) × (Nat → Nat → Int32))) (hk69 : ∀ (v1 : Int32) (v3 : Int32) (v4 : Int32) (v5 : Int32) (v6 : Int32) (fi : Nat → Int32) (fl : Nat → Int64) (ar : Nat → Nat → Int32) (H : Heap) (locs : List Loc) (ls : Array Slot), Wd (EM D ca ak av) A s (wM ad ca fi fl ar) H locs → lv_has ls 8 [(0, .ref (ad 0)), (1, .int v1), (3, .int v3), (4, .int v4), (5, .int v5), (6, .int v6)] → k69 v1 v3 v4 v5 v6 fi fl ar = some (r0, fi0, fl0, ar0) → W p l e ({ frames := 7, cells := 0, slots := 0, locals := 186 } : Room) s m args below meth c H locs 0 0 (MQ below (Qi (EM D ca ak av) A (wM ad ca fi0 fl0 ar0) r0) args s 0 0 A) (F0 m 69 ls [])) (v1 : Int32) (v3 : Int32) (v4 : Int32) (v5 : Int32) (v6 : Int32) (t0 : Int32) (fi : Nat → Int32) (fl : Nat → Int64) (ar : Nat → Nat → Int32) (H : Heap) (locs : List Loc) (ls : Array Slot), Wd (EM D ca ak av) A s (wM ad ca fi fl ar) H locs → lv_has ls 8 [(0, .ref (ad 0)), (1, .int v1), (3, .int v3), (4, .int v4), (5, .int v5), (6, .int v6)] → f_X9_best_126 k69 v1 v3 v4 v5 v6 t0 fi fl ar = some (r0, fi0, fl0, ar0) → W p l e ({ frames := 7, cells := 0, slots := 0, locals := 186 } : Room) s m args below meth c H locs 0 0 (MQ below (Qi (EM D ca ak av) A (wM ad ca fi0 fl0 ar0) r0) args s 0 0 A) (F0 m 126 ls [.int t0]) := by
    intro k69 hk69 v1 v3 v4 v5 v6 t0 fi fl ar H locs ls w hl hf
    unfold f_X9_best_126 at hf
    refine lv_istore (lv' := [(7, .int t0), (0, .ref (ad 0)), (1, .int v1), (3, .int v3), (4, .int v4), (5, .int v5), (6, .int v6)]) hx hb dX9_best_126 hl (by decide) rfl (fun ls hl => ?_)
    refine lv_iload hx hb dX9_best_128 (lv_at hl 4 rfl) ?_
    refine lv_if_lt (x := v4) (tgt := 140) hx hb dX9_best_130 (by decide) (fun c_2 => ?_) (fun c_2 => ?_)
    · have hf := if_t hf c_2
      exact J140 _ hk69 v1 v3 v6 t0 fi fl ar H locs ls w (lv_sub hl [1, 2, 3, 6, 0] rfl) hf
    · have hf := if_f hf c_2
      refine lv_iload hx hb dX9_best_133 (lv_at hl 0 rfl) ?_
      refine lv_iload hx hb dX9_best_135 (lv_at hl 5 rfl) ?_
      refine lv_icmp_le (x := t0) (y := v5) (tgt := 148) hx hb dX9_best_137 (by decide) (fun c_3 => ?_) (fun c_3 => ?_)
      · have hf := if_t hf c_3
        exact J148 _ hk69 v1 v3 v4 v5 v6 fi fl ar H locs ls w (lv_sub hl [1, 2, 3, 4, 5, 6] rfl) hf
      · have hf := if_f hf c_3
        exact J140 _ hk69 v1 v3 v6 t0 fi fl ar H locs ls w (lv_sub hl [1, 2, 3, 6, 0] rfl) hf
  have J105 : ∀ (k69 : Int32 → Int32 → Int32 → Int32 → Int32 → (Nat → Int32) → (Nat → Int64) → (Nat → Nat → Int32) → Option (Int32 × (Nat → Int32) × (Nat → Int64) × (Nat → Nat → Int32))) (hk69 : ∀ (v1 : Int32) (v3 : Int32) (v4 : Int32) (v5 : Int32) (v6 : Int32) (fi : Nat → Int32) (fl : Nat → Int64) (ar : Nat → Nat → Int32) (H : Heap) (locs : List Loc) (ls : Array Slot), Wd (EM D ca ak av) A s (wM ad ca fi fl ar) H locs → lv_has ls 8 [(0, .ref (ad 0)), (1, .int v1), (3, .int v3), (4, .int v4), (5, .int v5), (6, .int v6)] → k69 v1 v3 v4 v5 v6 fi fl ar = some (r0, fi0, fl0, ar0) → W p l e ({ frames := 7, cells := 0, slots := 0, locals := 186 } : Room) s m args below meth c H locs 0 0 (MQ below (Qi (EM D ca ak av) A (wM ad ca fi0 fl0 ar0) r0) args s 0 0 A) (F0 m 69 ls [])) (v1 : Int32) (v3 : Int32) (v4 : Int32) (v5 : Int32) (v6 : Int32) (fi : Nat → Int32) (fl : Nat → Int64) (ar : Nat → Nat → Int32) (H : Heap) (locs : List Loc) (ls : Array Slot), Wd (EM D ca ak av) A s (wM ad ca fi fl ar) H locs → lv_has ls 8 [(0, .ref (ad 0)), (1, .int v1), (3, .int v3), (4, .int v4), (5, .int v5), (6, .int v6)] → f_X9_best_105 k69 v1 v3 v4 v5 v6 fi fl ar = some (r0, fi0, fl0, ar0) → W p l e ({ frames := 7, cells := 0, slots := 0, locals := 186 } : Room) s m args below meth c H locs 0 0 (MQ below (Qi (EM D ca ak av) A (wM ad ca fi0 fl0 ar0) r0) args s 0 0 A) (F0 m 105 ls []) := by
    intro k69 hk69 v1 v3 v4 v5 v6 fi fl ar H locs ls w hl hf
    unfold f_X9_best_105 at hf
    refine lv_iload_n hx hb dX9_best_105 rfl (lv_at hl 1 rfl) ?_
    refine lv_iconst (v := 1) hx hb dX9_best_106 (by decide) ?_
    refine lv_icmp_ne (x := v1) (y := 1) (tgt := 120) hx hb dX9_best_107 (by decide) (fun c_4 => ?_) (fun c_4 => ?_)
    · have hf := if_f hf c_4
      refine lv_aload_n hx hb dX9_best_120 rfl (lv_at hl 0 rfl) ?_
      refine lv_iload hx hb dX9_best_121 (lv_at hl 5 rfl) ?_
      obtain ⟨r_5, fi_6, fl_7, ar_8, er_9, hf⟩ := bind4_eq hf
      refine callVI (As := [.int v6]) (rest := []) B w (c_X9_bearsOf l D ca ak av ad fi fl ar v6 er_9) (gV kt5_42 kt5_44 kp2_13 kt1_11 kt5_45) hdV_X9_bearsOf 0 rfl rfl rfl rfl ⟨Nat.le_of_ble_eq_true rfl, Nat.le_of_ble_eq_true rfl⟩ rfl hl.1 rfl (Nat.le_of_ble_eq_true rfl) dX9_best_123 ⟨Nat.le_of_ble_eq_true rfl, Nat.le_of_ble_eq_true rfl⟩ (fun H locs w => ?_)
      exact J126 _ hk69 v1 v3 v4 v5 v6 r_5 fi_6 fl_7 ar_8 H locs ls w (lv_sub hl [0, 1, 2, 3, 4, 5] rfl) hf
    · have hf := if_t hf c_4
      refine lv_iconst (v := 0) hx hb dX9_best_110 (by decide) ?_
      refine lv_iload hx hb dX9_best_111 (lv_at hl 5 rfl) ?_
      obtain ⟨r_10, er_11, hf⟩ := bind1_eq hf
      refine callSI (As := [.int v6]) (rest := [.int 0]) B w (c_X9_plainOf l _ v6 er_11) (gS kt5_36 kt5_37 kt1_11 kt5_38) hdS_X9_plainOf rfl rfl ⟨Nat.le_of_ble_eq_true rfl, Nat.le_of_ble_eq_true rfl⟩ rfl hl.1 rfl (Nat.le_of_ble_eq_true rfl) dX9_best_113 ⟨Nat.le_of_ble_eq_true rfl, Nat.le_of_ble_eq_true rfl⟩ (fun H locs w => ?_)
      refine lv_isub (x := 0) (y := r_10) hx hb dX9_best_116 ?_
      refine lv_goto (tgt := 126) hx hb dX9_best_117 (by decide) ?_
      exact J126 _ hk69 v1 v3 v4 v5 v6 (0 - r_10) fi fl ar H locs ls w (lv_sub hl [0, 1, 2, 3, 4, 5] rfl) hf
  have J69 : ∀ (n : Nat) (v1 : Int32) (v3 : Int32) (v4 : Int32) (v5 : Int32) (v6 : Int32) (fi : Nat → Int32) (fl : Nat → Int64) (ar : Nat → Nat → Int32) (H : Heap) (locs : List Loc) (ls : Array Slot), Wd (EM D ca ak av) A s (wM ad ca fi fl ar) H locs → lv_has ls 8 [(0, .ref (ad 0)), (1, .int v1), (3, .int v3), (4, .int v4), (5, .int v5), (6, .int v6)] → f_X9_best_69  n v1 v3 v4 v5 v6 fi fl ar = some (r0, fi0, fl0, ar0) → W p l e ({ frames := 7, cells := 0, slots := 0, locals := 186 } : Room) s m args below meth c H locs 0 0 (MQ below (Qi (EM D ca ak av) A (wM ad ca fi0 fl0 ar0) r0) args s 0 0 A) (F0 m 69 ls []) := by
    intro  n
    induction n with
    | zero =>
      intro v1 v3 v4 v5 v6 fi fl ar H locs ls w hl hf
      cases hf
    | succ n ih =>
      intro v1 v3 v4 v5 v6 fi fl ar H locs ls w hl hf
      rw [f_X9_best_69] at hf
      refine lv_iload hx hb dX9_best_69 (lv_at hl 5 rfl) ?_
      refine lv_sipush (v := 4096) hx hb dX9_best_71 (by decide) ?_
      refine lv_icmp_ge (x := v6) (y := 4096) (tgt := 154) hx hb dX9_best_74 (by decide) (fun c_12 => ?_) (fun c_12 => ?_)
      · have hf := if_t hf c_12
        refine lv_iload hx hb dX9_best_154 (lv_at hl 3 rfl) ?_
        have hf : some (v4, fi, fl, ar) = some (r0, fi0, fl0, ar0) := hf
        obtain ⟨q0, q1, q2, q3⟩ := so4 hf
        subst q0
        subst q1
        subst q2
        subst q3
        exact retI B hr hk w dX9_best_156
      · have hf := if_f hf c_12
        refine lv_aload_n hx hb dX9_best_77 rfl (lv_at hl 0 rfl) ?_
        refine lv_iload hx hb dX9_best_78 (lv_at hl 5 rfl) ?_
        obtain ⟨r_13, fi_14, fl_15, ar_16, er_17, hf⟩ := bind4_eq hf
        refine callVZ (As := [.int v6]) (rest := []) B w (c_X9_isHolding l D ca ak av ad fi fl ar v6 er_17) (gV kt5_20 kt5_22 kp2_10 kt1_11 kt5_23) hdV_X9_isHolding 0 rfl rfl rfl rfl ⟨Nat.le_of_ble_eq_true rfl, Nat.le_of_ble_eq_true rfl⟩ rfl hl.1 rfl (Nat.le_of_ble_eq_true rfl) dX9_best_80 ⟨Nat.le_of_ble_eq_true rfl, Nat.le_of_ble_eq_true rfl⟩ (fun H locs w hzr_13 => ?_)
        refine lv_if_eq (x := r_13) (tgt := 148) hx hb dX9_best_83 (by decide) (fun c_18 => ?_) (fun c_18 => ?_)
        · have hf := if_t hf c_18
          exact J148 _ ih v1 v3 v4 v5 v6 fi_14 fl_15 ar_16 H locs ls w (lv_sub hl [0, 1, 2, 3, 4, 5] rfl) hf
        · have hf := if_f hf c_18
          refine lv_iload_n hx hb dX9_best_86 rfl (lv_at hl 1 rfl) ?_
          refine lv_iconst (v := 1) hx hb dX9_best_87 (by decide) ?_
          refine lv_icmp_eq (x := v1) (y := 1) (tgt := 105) hx hb dX9_best_88 (by decide) (fun c_19 => ?_) (fun c_19 => ?_)
          · have hf := if_t hf c_19
            exact J105 _ ih v1 v3 v4 v5 v6 fi_14 fl_15 ar_16 H locs ls w (lv_sub hl [0, 1, 2, 3, 4, 5] rfl) hf
          · have hf := if_f hf c_19
            refine lv_aload_n hx hb dX9_best_91 rfl (lv_at hl 0 rfl) ?_
            refine lv_iload hx hb dX9_best_92 (lv_at hl 5 rfl) ?_
            refine lv_aload_n hx hb dX9_best_94 rfl (lv_at hl 0 rfl) ?_
            refine gfM_0_12 B w kt4_37 dX9_best_95 ?_
            obtain ⟨r_20, er_21, hf⟩ := bind1_eq hf
            refine callVI (As := [.int v6, .int (fi_14 8)]) (rest := []) B w (c_X9_helpedBy l D ca ak av ad fi_14 fl_15 ar_16 v6 (fi_14 8) er_21) (gV kt4_211 kt4_213 kp2_6 kt1_11 kt4_214) hdV_X9_helpedBy 0 rfl rfl rfl rfl ⟨Nat.le_of_ble_eq_true rfl, Nat.le_of_ble_eq_true rfl⟩ rfl hl.1 rfl (Nat.le_of_ble_eq_true rfl) dX9_best_98 ⟨Nat.le_of_ble_eq_true rfl, Nat.le_of_ble_eq_true rfl⟩ (fun H locs w => ?_)
            refine lv_iload_n hx hb dX9_best_101 rfl (lv_at hl 2 rfl) ?_
            refine lv_icmp_ne (x := r_20) (y := v3) (tgt := 148) hx hb dX9_best_102 (by decide) (fun c_22 => ?_) (fun c_22 => ?_)
            · have hf := if_f hf c_22
              exact J148 _ ih v1 v3 v4 v5 v6 fi_14 fl_15 ar_16 H locs ls w (lv_sub hl [0, 1, 2, 3, 4, 5] rfl) hf
            · have hf := if_t hf c_22
              exact J105 _ ih v1 v3 v4 v5 v6 fi_14 fl_15 ar_16 H locs ls w (lv_sub hl [0, 1, 2, 3, 4, 5] rfl) hf
  have J59 : ∀ (v1 : Int32) (t0 : Int32) (fi : Nat → Int32) (fl : Nat → Int64) (ar : Nat → Nat → Int32) (H : Heap) (locs : List Loc) (ls : Array Slot), Wd (EM D ca ak av) A s (wM ad ca fi fl ar) H locs → lv_has ls 8 [(0, .ref (ad 0)), (1, .int v1)] → f_X9_best_59  v1 t0 fi fl ar = some (r0, fi0, fl0, ar0) → W p l e ({ frames := 7, cells := 0, slots := 0, locals := 186 } : Room) s m args below meth c H locs 0 0 (MQ below (Qi (EM D ca ak av) A (wM ad ca fi0 fl0 ar0) r0) args s 0 0 A) (F0 m 59 ls [.int t0]) := by
    intro  v1 t0 fi fl ar H locs ls w hl hf
    unfold f_X9_best_59 at hf
    refine lv_istore_n (lv' := [(3, .int t0), (0, .ref (ad 0)), (1, .int v1)]) hx hb dX9_best_59 rfl hl (by decide) rfl (fun ls hl => ?_)
    refine lv_iconst (v := (-1)) hx hb dX9_best_60 (by decide) ?_
    refine lv_istore (lv' := [(4, .int (-1)), (3, .int t0), (0, .ref (ad 0)), (1, .int v1)]) hx hb dX9_best_61 hl (by decide) rfl (fun ls hl => ?_)
    refine lv_iconst (v := 0) hx hb dX9_best_63 (by decide) ?_
    refine lv_istore (lv' := [(5, .int 0), (4, .int (-1)), (3, .int t0), (0, .ref (ad 0)), (1, .int v1)]) hx hb dX9_best_64 hl (by decide) rfl (fun ls hl => ?_)
    refine lv_iconst (v := 0) hx hb dX9_best_66 (by decide) ?_
    refine lv_istore (lv' := [(6, .int 0), (5, .int 0), (4, .int (-1)), (3, .int t0), (0, .ref (ad 0)), (1, .int v1)]) hx hb dX9_best_67 hl (by decide) rfl (fun ls hl => ?_)
    exact J69  5000 v1 t0 (-1) 0 0 fi fl ar H locs ls w (lv_sub hl [4, 5, 3, 2, 1, 0] rfl) hf
  have J45 : ∀ (v1 : Int32) (v2 : Int32) (fi : Nat → Int32) (fl : Nat → Int64) (ar : Nat → Nat → Int32) (H : Heap) (locs : List Loc) (ls : Array Slot), Wd (EM D ca ak av) A s (wM ad ca fi fl ar) H locs → lv_has ls 8 [(0, .ref (ad 0)), (1, .int v1), (2, .int v2)] → f_X9_best_45  v1 v2 fi fl ar = some (r0, fi0, fl0, ar0) → W p l e ({ frames := 7, cells := 0, slots := 0, locals := 186 } : Room) s m args below meth c H locs 0 0 (MQ below (Qi (EM D ca ak av) A (wM ad ca fi0 fl0 ar0) r0) args s 0 0 A) (F0 m 45 ls []) := by
    intro  v1 v2 fi fl ar H locs ls w hl hf
    unfold f_X9_best_45 at hf
    refine lv_iload_n hx hb dX9_best_45 rfl (lv_at hl 1 rfl) ?_
    refine lv_iconst (v := 1) hx hb dX9_best_46 (by decide) ?_
    refine lv_icmp_ne (x := v1) (y := 1) (tgt := 54) hx hb dX9_best_47 (by decide) (fun c_23 => ?_) (fun c_23 => ?_)
    · have hf := if_f hf c_23
      refine lv_aload_n hx hb dX9_best_54 rfl (lv_at hl 0 rfl) ?_
      refine lv_iload_n hx hb dX9_best_55 rfl (lv_at hl 2 rfl) ?_
      obtain ⟨r_24, fi_25, ar_26, er_27, hf⟩ := bind3_eq hf
      refine callVI (As := [.int v2]) (rest := []) B w (c_X9_helpedAtRest l D ca ak av ad fi fl ar v2 er_27) (gV kt5_32 kt5_34 kp2_12 kt1_11 kt5_35) hdV_X9_helpedAtRest 0 rfl rfl rfl rfl ⟨Nat.le_of_ble_eq_true rfl, Nat.le_of_ble_eq_true rfl⟩ rfl hl.1 rfl (Nat.le_of_ble_eq_true rfl) dX9_best_56 ⟨Nat.le_of_ble_eq_true rfl, Nat.le_of_ble_eq_true rfl⟩ (fun H locs w => ?_)
      exact J59  v1 r_24 fi_25 fl ar_26 H locs ls w (lv_sub hl [0, 1] rfl) hf
    · have hf := if_t hf c_23
      refine lv_iconst (v := 0) hx hb dX9_best_50 (by decide) ?_
      refine lv_goto (tgt := 59) hx hb dX9_best_51 (by decide) ?_
      exact J59  v1 0 fi fl ar H locs ls w (lv_sub hl [0, 1] rfl) hf
  have J29 : ∀ (v1 : Int32) (t0 : Int32) (fi : Nat → Int32) (fl : Nat → Int64) (ar : Nat → Nat → Int32) (H : Heap) (locs : List Loc) (ls : Array Slot), Wd (EM D ca ak av) A s (wM ad ca fi fl ar) H locs → lv_has ls 8 [(0, .ref (ad 0)), (1, .int v1)] → f_X9_best_29  v1 t0 fi fl ar = some (r0, fi0, fl0, ar0) → W p l e ({ frames := 7, cells := 0, slots := 0, locals := 186 } : Room) s m args below meth c H locs 0 0 (MQ below (Qi (EM D ca ak av) A (wM ad ca fi0 fl0 ar0) r0) args s 0 0 A) (F0 m 29 ls [.int t0]) := by
    intro  v1 t0 fi fl ar H locs ls w hl hf
    unfold f_X9_best_29 at hf
    refine lv_istore_n (lv' := [(2, .int t0), (0, .ref (ad 0)), (1, .int v1)]) hx hb dX9_best_29 rfl hl (by decide) rfl (fun ls hl => ?_)
    refine lv_iload_n hx hb dX9_best_30 rfl (lv_at hl 2 rfl) ?_
    refine lv_if_eq (x := v1) (tgt := 43) hx hb dX9_best_31 (by decide) (fun c_28 => ?_) (fun c_28 => ?_)
    · have hf := if_t hf c_28
      refine lv_iload_n hx hb dX9_best_43 rfl (lv_at hl 0 rfl) ?_
      have hf : some (t0, fi, fl, ar) = some (r0, fi0, fl0, ar0) := hf
      obtain ⟨q0, q1, q2, q3⟩ := so4 hf
      subst q0
      subst q1
      subst q2
      subst q3
      exact retI B hr hk w dX9_best_44
    · have hf := if_f hf c_28
      refine lv_iload_n hx hb dX9_best_34 rfl (lv_at hl 2 rfl) ?_
      refine lv_iconst (v := 2) hx hb dX9_best_35 (by decide) ?_
      refine lv_icmp_ne (x := v1) (y := 2) (tgt := 45) hx hb dX9_best_36 (by decide) (fun c_29 => ?_) (fun c_29 => ?_)
      · have hf := if_f hf c_29
        exact J45  v1 t0 fi fl ar H locs ls w (lv_sub hl [1, 2, 0] rfl) hf
      · have hf := if_t hf c_29
        refine lv_iload_n hx hb dX9_best_39 rfl (lv_at hl 0 rfl) ?_
        refine lv_if_ge (x := t0) (tgt := 45) hx hb dX9_best_40 (by decide) (fun c_30 => ?_) (fun c_30 => ?_)
        · have hf := if_t hf c_30
          exact J45  v1 t0 fi fl ar H locs ls w (lv_sub hl [1, 2, 0] rfl) hf
        · have hf := if_f hf c_30
          refine lv_iload_n hx hb dX9_best_43 rfl (lv_at hl 0 rfl) ?_
          have hf : some (t0, fi, fl, ar) = some (r0, fi0, fl0, ar0) := hf
          obtain ⟨q0, q1, q2, q3⟩ := so4 hf
          subst q0
          subst q1
          subst q2
          subst q3
          exact retI B hr hk w dX9_best_44
  unfold f_X9_best at hf
  refine (show ∀ (H : Heap) (locs : List Loc), Wd (EM D ca ak av) A s (wM ad ca fi fl ar) H locs → W p l e ({ frames := 7, cells := 0, slots := 0, locals := 186 } : Room) s m args below meth c H locs 0 0 (MQ below (Qi (EM D ca ak av) A (wM ad ca fi0 fl0 ar0) r0) args s 0 0 A) (F0 m 0 ls []) from ?_) s.heap [] w
  intro H locs w
  refine lv_iload_n hx hb dX9_best_0 rfl (lv_at hl 1 rfl) ?_
  refine lv_i2l hx hb dX9_best_1 rfl ?_
  refine lv_lconst (v := 0) hx hb dX9_best_2 (by decide) ?_
  refine lv_ldc2 (own := RX9) (v := 2) hx hb hown (hts _ kt4_202) dX9_best_3 ?_
  obtain ⟨r_31, er_32⟩ : ∃ y, f_X9_in (Int32.toInt64 v1) 0 2 = y := ⟨_, rfl⟩
  have hf := bindv_eq hf r_31 er_32.symm
  refine callSZ (As := [.long (Int32.toInt64 v1), .long 0, .long 2]) (rest := []) B w (c_X9_in l _ (Int32.toInt64 v1) 0 2 er_32) (gS kt4_95 kt4_96 kt1_11 kt4_97) hdS_X9_in rfl rfl ⟨Nat.le_of_ble_eq_true rfl, Nat.le_of_ble_eq_true rfl⟩ rfl hl.1 rfl (Nat.le_of_ble_eq_true rfl) dX9_best_6 ⟨Nat.le_of_ble_eq_true rfl, Nat.le_of_ble_eq_true rfl⟩ (fun H locs w hzr_31 => ?_)
  refine lv_if_ne (x := r_31) (tgt := 16) hx hb dX9_best_9 (by decide) (fun c_33 => ?_) (fun c_33 => ?_)
  · have hf := if_f hf c_33
    refine lv_iload_n hx hb dX9_best_16 rfl (lv_at hl 1 rfl) ?_
    refine lv_iconst (v := 1) hx hb dX9_best_17 (by decide) ?_
    refine lv_icmp_ne (x := v1) (y := 1) (tgt := 25) hx hb dX9_best_18 (by decide) (fun c_34 => ?_) (fun c_34 => ?_)
    · have hf := if_f hf c_34
      refine lv_aload_n hx hb dX9_best_25 rfl (lv_at hl 0 rfl) ?_
      obtain ⟨r_35, fi_36, fl_37, ar_38, er_39, hf⟩ := bind4_eq hf
      refine callVI (As := []) (rest := []) B w (c_X9_mostHelped l D ca ak av ad fi fl ar  er_39) (gV kt5_28 kt5_30 kp2_11 kt1_11 kt5_31) hdV_X9_mostHelped 0 rfl rfl rfl rfl ⟨Nat.le_of_ble_eq_true rfl, Nat.le_of_ble_eq_true rfl⟩ rfl hl.1 rfl (Nat.le_of_ble_eq_true rfl) dX9_best_26 ⟨Nat.le_of_ble_eq_true rfl, Nat.le_of_ble_eq_true rfl⟩ (fun H locs w => ?_)
      exact J29  v1 r_35 fi_36 fl_37 ar_38 H locs ls w (lv_sub hl [0, 1] rfl) hf
    · have hf := if_t hf c_34
      refine lv_iconst (v := (-1)) hx hb dX9_best_21 (by decide) ?_
      refine lv_goto (tgt := 29) hx hb dX9_best_22 (by decide) ?_
      exact J29  v1 (-1) fi fl ar H locs ls w (lv_sub hl [0, 1] rfl) hf
  · have hf := if_t hf c_33
    refine lv_sipush (v := (-1002)) hx hb dX9_best_12 (by decide) ?_
    have hf : some ((-1002), fi, fl, ar) = some (r0, fi0, fl0, ar0) := hf
    obtain ⟨q0, q1, q2, q3⟩ := so4 hf
    subst q0
    subst q1
    subst q2
    subst q3
    exact retI B hr hk w dX9_best_15
def f_X9_plain (v1 : Int32) : Option (Int32) := bindv (f_X9_isRule v1) (fun r_1 => if (r_1 = 0 : Prop) then (some (-1002)) else (bind1 (f_X9_plainOf v1) (fun r_4 => some r_4)))
set_option maxHeartbeats 4000000 in
set_option maxRecDepth 100000 in
theorem c_X9_plain (l : Launch) (D : va_G) (ca : Nat → ClassId) (ak av ad : Nat → Nat) (fi : Nat → Int32) (fl : Nat → Int64) (ar : Nat → Nat → Int32) (v1 : Int32) {r0 : Int32} (hf : f_X9_plain v1 = some r0) : MtI l yX9_plain cX9_plain 2 { frames := 3, cells := 0, slots := 0, locals := 66 } (EM D ca ak av) [.ref (ad 0), .int v1] (wM ad ca fi fl ar) (wM ad ca fi fl ar) r0 := by
  refine MtI.of (own := RX9) (by decide +kernel) rfl (Nat.le_of_ble_eq_true rfl) ?_
  intro p e s m args below meth c A B hr hk w ls hl
  have hx := B.1.1
  have hb := B.1.2.1
  have hown := B.1.2.2.2.1
  have hts := B.1.2.2.2.2
  have hl : lv_has ls 2 [(0, .ref (ad 0)), (1, .int v1)] := hl
  unfold f_X9_plain at hf
  refine (show ∀ (H : Heap) (locs : List Loc), Wd (EM D ca ak av) A s (wM ad ca fi fl ar) H locs → W p l e ({ frames := 3, cells := 0, slots := 0, locals := 66 } : Room) s m args below meth c H locs 0 0 (MQ below (Qi (EM D ca ak av) A (wM ad ca fi fl ar) r0) args s 0 0 A) (F0 m 0 ls []) from ?_) s.heap [] w
  intro H locs w
  refine lv_iload_n hx hb dX9_plain_0 rfl (lv_at hl 1 rfl) ?_
  obtain ⟨r_1, er_2⟩ : ∃ y, f_X9_isRule v1 = y := ⟨_, rfl⟩
  have hf := bindv_eq hf r_1 er_2.symm
  refine callSZ (As := [.int v1]) (rest := []) B w (c_X9_isRule l _ v1 er_2) (gS kt4_164 kt4_165 kt1_11 kt4_166) hdS_X9_isRule rfl rfl ⟨Nat.le_of_ble_eq_true rfl, Nat.le_of_ble_eq_true rfl⟩ rfl hl.1 rfl (Nat.le_of_ble_eq_true rfl) dX9_plain_1 ⟨Nat.le_of_ble_eq_true rfl, Nat.le_of_ble_eq_true rfl⟩ (fun H locs w hzr_1 => ?_)
  refine lv_if_eq (x := r_1) (tgt := 14) hx hb dX9_plain_4 (by decide) (fun c_3 => ?_) (fun c_3 => ?_)
  · have hf := if_t hf c_3
    refine lv_sipush (v := (-1002)) hx hb dX9_plain_14 (by decide) ?_
    have hf : some (-1002) = some r0 := hf
    have q0 := so1 hf
    subst q0
    exact retI B hr hk w dX9_plain_17
  · have hf := if_f hf c_3
    refine lv_iload_n hx hb dX9_plain_7 rfl (lv_at hl 1 rfl) ?_
    obtain ⟨r_4, er_5, hf⟩ := bind1_eq hf
    refine callSI (As := [.int v1]) (rest := []) B w (c_X9_plainOf l _ v1 er_5) (gS kt5_36 kt5_37 kt1_11 kt5_38) hdS_X9_plainOf rfl rfl ⟨Nat.le_of_ble_eq_true rfl, Nat.le_of_ble_eq_true rfl⟩ rfl hl.1 rfl (Nat.le_of_ble_eq_true rfl) dX9_plain_8 ⟨Nat.le_of_ble_eq_true rfl, Nat.le_of_ble_eq_true rfl⟩ (fun H locs w => ?_)
    refine lv_goto (tgt := 17) hx hb dX9_plain_11 (by decide) ?_
    have hf : some r_4 = some r0 := hf
    have q0 := so1 hf
    subst q0
    exact retI B hr hk w dX9_plain_17
def f_X9_bears (fi : Nat → Int32) (fl : Nat → Int64) (ar : Nat → Nat → Int32) (v1 : Int32) : Option (Int32 × (Nat → Int32) × (Nat → Int64) × (Nat → Nat → Int32)) := bindv (f_X9_isRule v1) (fun r_1 => if (r_1 = 0 : Prop) then (some ((-1002), fi, fl, ar)) else (bind4 (f_X9_bearsOf fi fl ar v1) (fun r_4 fi_5 fl_6 ar_7 => some (r_4, fi_5, fl_6, ar_7))))
set_option maxHeartbeats 4000000 in
set_option maxRecDepth 100000 in
theorem c_X9_bears (l : Launch) (D : va_G) (ca : Nat → ClassId) (ak av ad : Nat → Nat) (fi : Nat → Int32) (fl : Nat → Int64) (ar : Nat → Nat → Int32) (v1 : Int32) {r0 : Int32} {fi0 : Nat → Int32} {fl0 : Nat → Int64} {ar0 : Nat → Nat → Int32} (hf : f_X9_bears fi fl ar v1 = some (r0, fi0, fl0, ar0)) : MtI l yX9_bears cX9_bears 2 { frames := 6, cells := 0, slots := 0, locals := 165 } (EM D ca ak av) [.ref (ad 0), .int v1] (wM ad ca fi fl ar) (wM ad ca fi0 fl0 ar0) r0 := by
  refine MtI.of (own := RX9) (by decide +kernel) rfl (Nat.le_of_ble_eq_true rfl) ?_
  intro p e s m args below meth c A B hr hk w ls hl
  have hx := B.1.1
  have hb := B.1.2.1
  have hown := B.1.2.2.2.1
  have hts := B.1.2.2.2.2
  have hl : lv_has ls 2 [(0, .ref (ad 0)), (1, .int v1)] := hl
  unfold f_X9_bears at hf
  refine (show ∀ (H : Heap) (locs : List Loc), Wd (EM D ca ak av) A s (wM ad ca fi fl ar) H locs → W p l e ({ frames := 6, cells := 0, slots := 0, locals := 165 } : Room) s m args below meth c H locs 0 0 (MQ below (Qi (EM D ca ak av) A (wM ad ca fi0 fl0 ar0) r0) args s 0 0 A) (F0 m 0 ls []) from ?_) s.heap [] w
  intro H locs w
  refine lv_iload_n hx hb dX9_bears_0 rfl (lv_at hl 1 rfl) ?_
  obtain ⟨r_1, er_2⟩ : ∃ y, f_X9_isRule v1 = y := ⟨_, rfl⟩
  have hf := bindv_eq hf r_1 er_2.symm
  refine callSZ (As := [.int v1]) (rest := []) B w (c_X9_isRule l _ v1 er_2) (gS kt4_164 kt4_165 kt1_11 kt4_166) hdS_X9_isRule rfl rfl ⟨Nat.le_of_ble_eq_true rfl, Nat.le_of_ble_eq_true rfl⟩ rfl hl.1 rfl (Nat.le_of_ble_eq_true rfl) dX9_bears_1 ⟨Nat.le_of_ble_eq_true rfl, Nat.le_of_ble_eq_true rfl⟩ (fun H locs w hzr_1 => ?_)
  refine lv_if_eq (x := r_1) (tgt := 15) hx hb dX9_bears_4 (by decide) (fun c_3 => ?_) (fun c_3 => ?_)
  · have hf := if_t hf c_3
    refine lv_sipush (v := (-1002)) hx hb dX9_bears_15 (by decide) ?_
    have hf : some ((-1002), fi, fl, ar) = some (r0, fi0, fl0, ar0) := hf
    obtain ⟨q0, q1, q2, q3⟩ := so4 hf
    subst q0
    subst q1
    subst q2
    subst q3
    exact retI B hr hk w dX9_bears_18
  · have hf := if_f hf c_3
    refine lv_aload_n hx hb dX9_bears_7 rfl (lv_at hl 0 rfl) ?_
    refine lv_iload_n hx hb dX9_bears_8 rfl (lv_at hl 1 rfl) ?_
    obtain ⟨r_4, fi_5, fl_6, ar_7, er_8, hf⟩ := bind4_eq hf
    refine callVI (As := [.int v1]) (rest := []) B w (c_X9_bearsOf l D ca ak av ad fi fl ar v1 er_8) (gV kt5_42 kt5_44 kp2_13 kt1_11 kt5_45) hdV_X9_bearsOf 0 rfl rfl rfl rfl ⟨Nat.le_of_ble_eq_true rfl, Nat.le_of_ble_eq_true rfl⟩ rfl hl.1 rfl (Nat.le_of_ble_eq_true rfl) dX9_bears_9 ⟨Nat.le_of_ble_eq_true rfl, Nat.le_of_ble_eq_true rfl⟩ (fun H locs w => ?_)
    refine lv_goto (tgt := 18) hx hb dX9_bears_12 (by decide) ?_
    have hf : some (r_4, fi_5, fl_6, ar_7) = some (r0, fi0, fl0, ar0) := hf
    obtain ⟨q0, q1, q2, q3⟩ := so4 hf
    subst q0
    subst q1
    subst q2
    subst q3
    exact retI B hr hk w dX9_bears_18
def f_X9_turnedOf_47  (k14 : Int32 → Int32 → Int32 → Int32 → Int32 → Option (Int32)) : Nat → (Int32) → (Int32) → (Int32) → (Int32) → (Int32) → (Int32) → Option (Int32)
  | 0, _, _, _, _, _, _ => none
  | n + 1, v0, v1, v2, v3, v4, v5 => if (2 ≤ v5 : Prop) then (bindv (v4 + 1 : Int32) (fun x_2 => k14 v0 v1 v2 v3 x_2)) else (bindv (f_X9_calls (v0 / 16) (1 - v3) (1 - v4) v5) (fun r_3 => bindv ((v2 ||| ((1 - r_3) <<< ((((4 * v3) + (2 * v4)) + v5) &&& 31))) : Int32) (fun x_5 => bindv (v5 + 1 : Int32) (fun x_6 => (f_X9_turnedOf_47 k14 n) v0 v1 x_5 v3 v4 x_6))))
def f_X9_turnedOf_14  (k6 : Int32 → Int32 → Int32 → Int32 → Option (Int32)) : Nat → (Int32) → (Int32) → (Int32) → (Int32) → (Int32) → Option (Int32)
  | 0, _, _, _, _, _ => none
  | n + 1, v0, v1, v2, v3, v4 => if (2 ≤ v4 : Prop) then (bindv (v3 + 1 : Int32) (fun x_8 => k6 v0 v1 v2 x_8)) else (bindv (f_X9_means (v0 - v0 / 16 * 16) (1 - v3) (1 - v4)) (fun r_9 => bindv ((v1 ||| (r_9 <<< (((2 * v3) + v4) &&& 31))) : Int32) (fun x_11 => f_X9_turnedOf_47 (f_X9_turnedOf_14 k6 n) 5000 v0 x_11 v2 v3 v4 0)))
def f_X9_turnedOf_6   : Nat → (Int32) → (Int32) → (Int32) → (Int32) → Option (Int32)
  | 0, _, _, _, _ => none
  | n + 1, v0, v1, v2, v3 => if (2 ≤ v3 : Prop) then (some ((16 * v2) + v1)) else (f_X9_turnedOf_14 (f_X9_turnedOf_6 n) 5000 v0 v1 v2 v3 0)
def f_X9_turnedOf (v0 : Int32) : Option (Int32) := f_X9_turnedOf_6  5000 v0 0 0 0
set_option maxHeartbeats 4000000 in
set_option maxRecDepth 100000 in
theorem c_X9_turnedOf (l : Launch) (E : VE) (v0 : Int32) {r0 : Int32} (hf : f_X9_turnedOf v0 = some r0) : MtI l yX9_turnedOf cX9_turnedOf 6 { frames := 1, cells := 0, slots := 0, locals := 23 } E [.int v0] [] [] r0 := by
  refine MtI.of (own := RX9) (by decide +kernel) rfl (Nat.le_of_ble_eq_true rfl) ?_
  intro p e s m args below meth c A B hr hk w ls hl
  have hx := B.1.1
  have hb := B.1.2.1
  have hown := B.1.2.2.2.1
  have hts := B.1.2.2.2.2
  have hl : lv_has ls 6 [(0, .int v0)] := hl
  have J47 : ∀ (k14 : Int32 → Int32 → Int32 → Int32 → Int32 → Option (Int32)) (hk14 : ∀ (v0 : Int32) (v1 : Int32) (v2 : Int32) (v3 : Int32) (v4 : Int32) (H : Heap) (locs : List Loc) (ls : Array Slot), Wd E A s [] H locs → lv_has ls 6 [(0, .int v0), (1, .int v1), (2, .int v2), (3, .int v3), (4, .int v4)] → k14 v0 v1 v2 v3 v4 = some r0 → W p l e ({ frames := 1, cells := 0, slots := 0, locals := 23 } : Room) s m args below meth c H locs 0 0 (MQ below (Qi E A [] r0) args s 0 0 A) (F0 m 14 ls [])) (n : Nat) (v0 : Int32) (v1 : Int32) (v2 : Int32) (v3 : Int32) (v4 : Int32) (v5 : Int32) (H : Heap) (locs : List Loc) (ls : Array Slot), Wd E A s [] H locs → lv_has ls 6 [(0, .int v0), (1, .int v1), (2, .int v2), (3, .int v3), (4, .int v4), (5, .int v5)] → f_X9_turnedOf_47 k14 n v0 v1 v2 v3 v4 v5 = some r0 → W p l e ({ frames := 1, cells := 0, slots := 0, locals := 23 } : Room) s m args below meth c H locs 0 0 (MQ below (Qi E A [] r0) args s 0 0 A) (F0 m 47 ls []) := by
    intro k14 hk14 n
    induction n with
    | zero =>
      intro v0 v1 v2 v3 v4 v5 H locs ls w hl hf
      cases hf
    | succ n ih =>
      intro v0 v1 v2 v3 v4 v5 H locs ls w hl hf
      rw [f_X9_turnedOf_47] at hf
      refine lv_iload hx hb dX9_turnedOf_47 (lv_at hl 5 rfl) ?_
      refine lv_iconst (v := 2) hx hb dX9_turnedOf_49 (by decide) ?_
      refine lv_icmp_ge (x := v5) (y := 2) (tgt := 92) hx hb dX9_turnedOf_50 (by decide) (fun c_1 => ?_) (fun c_1 => ?_)
      · have hf := if_t hf c_1
        obtain ⟨x_2, ex_2⟩ : ∃ y : Int32, y = v4 + 1 := ⟨_, rfl⟩
        have hf := bindv_eq hf x_2 ex_2
        refine lv_iinc (v := x_2) (lv' := [(4, .int x_2), (0, .int v0), (1, .int v1), (2, .int v2), (3, .int v3), (5, .int v5)]) hx hb dX9_turnedOf_92 hl (k := 4) rfl (by rw [ex_2]; rfl) (by decide) rfl (fun ls hl => ?_)
        refine lv_goto (tgt := 14) hx hb dX9_turnedOf_95 (by decide) ?_
        exact hk14 v0 v1 v2 v3 x_2 H locs ls w (lv_sub hl [1, 2, 3, 4, 0] rfl) hf
      · have hf := if_f hf c_1
        refine lv_iload_n hx hb dX9_turnedOf_53 rfl (lv_at hl 2 rfl) ?_
        refine lv_iconst (v := 1) hx hb dX9_turnedOf_54 (by decide) ?_
        refine lv_iload_n hx hb dX9_turnedOf_55 rfl (lv_at hl 0 rfl) ?_
        refine lv_bipush (v := 16) hx hb dX9_turnedOf_56 (by decide) ?_
        refine lv_idiv (x := v0) (y := 16) hx hb dX9_turnedOf_58 (by decide) ?_
        refine lv_iconst (v := 1) hx hb dX9_turnedOf_59 (by decide) ?_
        refine lv_iload_n hx hb dX9_turnedOf_60 rfl (lv_at hl 3 rfl) ?_
        refine lv_isub (x := 1) (y := v3) hx hb dX9_turnedOf_61 ?_
        refine lv_iconst (v := 1) hx hb dX9_turnedOf_62 (by decide) ?_
        refine lv_iload hx hb dX9_turnedOf_63 (lv_at hl 4 rfl) ?_
        refine lv_isub (x := 1) (y := v4) hx hb dX9_turnedOf_65 ?_
        refine lv_iload hx hb dX9_turnedOf_66 (lv_at hl 5 rfl) ?_
        obtain ⟨r_3, er_4⟩ : ∃ y, f_X9_calls (v0 / 16) (1 - v3) (1 - v4) v5 = y := ⟨_, rfl⟩
        have hf := bindv_eq hf r_3 er_4.symm
        refine callSI (As := [.int (v0 / 16), .int (1 - v3), .int (1 - v4), .int v5]) (rest := [.int 1, .int v2]) B w (c_X9_calls l _ (v0 / 16) (1 - v3) (1 - v4) v5 er_4) (gS kt4_175 kt4_176 kt1_11 kt4_177) hdS_X9_calls rfl rfl ⟨Nat.le_of_ble_eq_true rfl, Nat.le_of_ble_eq_true rfl⟩ rfl hl.1 rfl (Nat.le_of_ble_eq_true rfl) dX9_turnedOf_68 ⟨Nat.le_of_ble_eq_true rfl, Nat.le_of_ble_eq_true rfl⟩ (fun H locs w => ?_)
        refine lv_isub (x := 1) (y := r_3) hx hb dX9_turnedOf_71 ?_
        refine lv_iconst (v := 4) hx hb dX9_turnedOf_72 (by decide) ?_
        refine lv_iload_n hx hb dX9_turnedOf_73 rfl (lv_at hl 3 rfl) ?_
        refine lv_imul (x := 4) (y := v3) hx hb dX9_turnedOf_74 ?_
        refine lv_iconst (v := 2) hx hb dX9_turnedOf_75 (by decide) ?_
        refine lv_iload hx hb dX9_turnedOf_76 (lv_at hl 4 rfl) ?_
        refine lv_imul (x := 2) (y := v4) hx hb dX9_turnedOf_78 ?_
        refine lv_iadd (x := (4 * v3)) (y := (2 * v4)) hx hb dX9_turnedOf_79 ?_
        refine lv_iload hx hb dX9_turnedOf_80 (lv_at hl 5 rfl) ?_
        refine lv_iadd (x := ((4 * v3) + (2 * v4))) (y := v5) hx hb dX9_turnedOf_82 ?_
        refine lv_ishl (x := (1 - r_3)) (y := (((4 * v3) + (2 * v4)) + v5)) hx hb dX9_turnedOf_83 ?_
        refine lv_ior (x := v2) (y := ((1 - r_3) <<< ((((4 * v3) + (2 * v4)) + v5) &&& 31))) hx hb dX9_turnedOf_84 ?_
        refine lv_topi (fun x_5 ex_5 => ?_)
        have hf := bindv_eq hf x_5 ex_5
        refine lv_istore_n (lv' := [(2, .int x_5), (0, .int v0), (1, .int v1), (3, .int v3), (4, .int v4), (5, .int v5)]) hx hb dX9_turnedOf_85 rfl hl (by decide) rfl (fun ls hl => ?_)
        obtain ⟨x_6, ex_6⟩ : ∃ y : Int32, y = v5 + 1 := ⟨_, rfl⟩
        have hf := bindv_eq hf x_6 ex_6
        refine lv_iinc (v := x_6) (lv' := [(5, .int x_6), (2, .int x_5), (0, .int v0), (1, .int v1), (3, .int v3), (4, .int v4)]) hx hb dX9_turnedOf_86 hl (k := 5) rfl (by rw [ex_6]; rfl) (by decide) rfl (fun ls hl => ?_)
        refine lv_goto (tgt := 47) hx hb dX9_turnedOf_89 (by decide) ?_
        exact ih v0 v1 x_5 v3 v4 x_6 H locs ls w (lv_sub hl [2, 3, 1, 4, 5, 0] rfl) hf
  have J14 : ∀ (k6 : Int32 → Int32 → Int32 → Int32 → Option (Int32)) (hk6 : ∀ (v0 : Int32) (v1 : Int32) (v2 : Int32) (v3 : Int32) (H : Heap) (locs : List Loc) (ls : Array Slot), Wd E A s [] H locs → lv_has ls 6 [(0, .int v0), (1, .int v1), (2, .int v2), (3, .int v3)] → k6 v0 v1 v2 v3 = some r0 → W p l e ({ frames := 1, cells := 0, slots := 0, locals := 23 } : Room) s m args below meth c H locs 0 0 (MQ below (Qi E A [] r0) args s 0 0 A) (F0 m 6 ls [])) (n : Nat) (v0 : Int32) (v1 : Int32) (v2 : Int32) (v3 : Int32) (v4 : Int32) (H : Heap) (locs : List Loc) (ls : Array Slot), Wd E A s [] H locs → lv_has ls 6 [(0, .int v0), (1, .int v1), (2, .int v2), (3, .int v3), (4, .int v4)] → f_X9_turnedOf_14 k6 n v0 v1 v2 v3 v4 = some r0 → W p l e ({ frames := 1, cells := 0, slots := 0, locals := 23 } : Room) s m args below meth c H locs 0 0 (MQ below (Qi E A [] r0) args s 0 0 A) (F0 m 14 ls []) := by
    intro k6 hk6 n
    induction n with
    | zero =>
      intro v0 v1 v2 v3 v4 H locs ls w hl hf
      cases hf
    | succ n ih =>
      intro v0 v1 v2 v3 v4 H locs ls w hl hf
      rw [f_X9_turnedOf_14] at hf
      refine lv_iload hx hb dX9_turnedOf_14 (lv_at hl 4 rfl) ?_
      refine lv_iconst (v := 2) hx hb dX9_turnedOf_16 (by decide) ?_
      refine lv_icmp_ge (x := v4) (y := 2) (tgt := 98) hx hb dX9_turnedOf_17 (by decide) (fun c_7 => ?_) (fun c_7 => ?_)
      · have hf := if_t hf c_7
        obtain ⟨x_8, ex_8⟩ : ∃ y : Int32, y = v3 + 1 := ⟨_, rfl⟩
        have hf := bindv_eq hf x_8 ex_8
        refine lv_iinc (v := x_8) (lv' := [(3, .int x_8), (0, .int v0), (1, .int v1), (2, .int v2), (4, .int v4)]) hx hb dX9_turnedOf_98 hl (k := 3) rfl (by rw [ex_8]; rfl) (by decide) rfl (fun ls hl => ?_)
        refine lv_goto (tgt := 6) hx hb dX9_turnedOf_101 (by decide) ?_
        exact hk6 v0 v1 v2 x_8 H locs ls w (lv_sub hl [1, 2, 3, 0] rfl) hf
      · have hf := if_f hf c_7
        refine lv_iload_n hx hb dX9_turnedOf_20 rfl (lv_at hl 1 rfl) ?_
        refine lv_iload_n hx hb dX9_turnedOf_21 rfl (lv_at hl 0 rfl) ?_
        refine lv_bipush (v := 16) hx hb dX9_turnedOf_22 (by decide) ?_
        refine lv_irem (x := v0) (y := 16) hx hb dX9_turnedOf_24 (by decide) ?_
        refine lv_iconst (v := 1) hx hb dX9_turnedOf_25 (by decide) ?_
        refine lv_iload_n hx hb dX9_turnedOf_26 rfl (lv_at hl 3 rfl) ?_
        refine lv_isub (x := 1) (y := v3) hx hb dX9_turnedOf_27 ?_
        refine lv_iconst (v := 1) hx hb dX9_turnedOf_28 (by decide) ?_
        refine lv_iload hx hb dX9_turnedOf_29 (lv_at hl 4 rfl) ?_
        refine lv_isub (x := 1) (y := v4) hx hb dX9_turnedOf_31 ?_
        obtain ⟨r_9, er_10⟩ : ∃ y, f_X9_means (v0 - v0 / 16 * 16) (1 - v3) (1 - v4) = y := ⟨_, rfl⟩
        have hf := bindv_eq hf r_9 er_10.symm
        refine callSI (As := [.int (v0 - v0 / 16 * 16), .int (1 - v3), .int (1 - v4)]) (rest := [.int v1]) B w (c_X9_means l _ (v0 - v0 / 16 * 16) (1 - v3) (1 - v4) er_10) (gS kt4_172 kt4_173 kt1_11 kt4_174) hdS_X9_means rfl rfl ⟨Nat.le_of_ble_eq_true rfl, Nat.le_of_ble_eq_true rfl⟩ rfl hl.1 rfl (Nat.le_of_ble_eq_true rfl) dX9_turnedOf_32 ⟨Nat.le_of_ble_eq_true rfl, Nat.le_of_ble_eq_true rfl⟩ (fun H locs w => ?_)
        refine lv_iconst (v := 2) hx hb dX9_turnedOf_35 (by decide) ?_
        refine lv_iload_n hx hb dX9_turnedOf_36 rfl (lv_at hl 3 rfl) ?_
        refine lv_imul (x := 2) (y := v3) hx hb dX9_turnedOf_37 ?_
        refine lv_iload hx hb dX9_turnedOf_38 (lv_at hl 4 rfl) ?_
        refine lv_iadd (x := (2 * v3)) (y := v4) hx hb dX9_turnedOf_40 ?_
        refine lv_ishl (x := r_9) (y := ((2 * v3) + v4)) hx hb dX9_turnedOf_41 ?_
        refine lv_ior (x := v1) (y := (r_9 <<< (((2 * v3) + v4) &&& 31))) hx hb dX9_turnedOf_42 ?_
        refine lv_topi (fun x_11 ex_11 => ?_)
        have hf := bindv_eq hf x_11 ex_11
        refine lv_istore_n (lv' := [(1, .int x_11), (0, .int v0), (2, .int v2), (3, .int v3), (4, .int v4)]) hx hb dX9_turnedOf_43 rfl hl (by decide) rfl (fun ls hl => ?_)
        refine lv_iconst (v := 0) hx hb dX9_turnedOf_44 (by decide) ?_
        refine lv_istore (lv' := [(5, .int 0), (1, .int x_11), (0, .int v0), (2, .int v2), (3, .int v3), (4, .int v4)]) hx hb dX9_turnedOf_45 hl (by decide) rfl (fun ls hl => ?_)
        exact J47 _ ih 5000 v0 x_11 v2 v3 v4 0 H locs ls w (lv_sub hl [2, 1, 3, 4, 5, 0] rfl) hf
  have J6 : ∀ (n : Nat) (v0 : Int32) (v1 : Int32) (v2 : Int32) (v3 : Int32) (H : Heap) (locs : List Loc) (ls : Array Slot), Wd E A s [] H locs → lv_has ls 6 [(0, .int v0), (1, .int v1), (2, .int v2), (3, .int v3)] → f_X9_turnedOf_6  n v0 v1 v2 v3 = some r0 → W p l e ({ frames := 1, cells := 0, slots := 0, locals := 23 } : Room) s m args below meth c H locs 0 0 (MQ below (Qi E A [] r0) args s 0 0 A) (F0 m 6 ls []) := by
    intro  n
    induction n with
    | zero =>
      intro v0 v1 v2 v3 H locs ls w hl hf
      cases hf
    | succ n ih =>
      intro v0 v1 v2 v3 H locs ls w hl hf
      rw [f_X9_turnedOf_6] at hf
      refine lv_iload_n hx hb dX9_turnedOf_6 rfl (lv_at hl 3 rfl) ?_
      refine lv_iconst (v := 2) hx hb dX9_turnedOf_7 (by decide) ?_
      refine lv_icmp_ge (x := v3) (y := 2) (tgt := 104) hx hb dX9_turnedOf_8 (by decide) (fun c_12 => ?_) (fun c_12 => ?_)
      · have hf := if_t hf c_12
        refine lv_bipush (v := 16) hx hb dX9_turnedOf_104 (by decide) ?_
        refine lv_iload_n hx hb dX9_turnedOf_106 rfl (lv_at hl 2 rfl) ?_
        refine lv_imul (x := 16) (y := v2) hx hb dX9_turnedOf_107 ?_
        refine lv_iload_n hx hb dX9_turnedOf_108 rfl (lv_at hl 1 rfl) ?_
        refine lv_iadd (x := (16 * v2)) (y := v1) hx hb dX9_turnedOf_109 ?_
        have hf : some ((16 * v2) + v1) = some r0 := hf
        have q0 := so1 hf
        subst q0
        exact retI B hr hk w dX9_turnedOf_110
      · have hf := if_f hf c_12
        refine lv_iconst (v := 0) hx hb dX9_turnedOf_11 (by decide) ?_
        refine lv_istore (lv' := [(4, .int 0), (0, .int v0), (1, .int v1), (2, .int v2), (3, .int v3)]) hx hb dX9_turnedOf_12 hl (by decide) rfl (fun ls hl => ?_)
        exact J14 _ ih 5000 v0 v1 v2 v3 0 H locs ls w (lv_sub hl [1, 2, 3, 4, 0] rfl) hf
  unfold f_X9_turnedOf at hf
  refine (show ∀ (H : Heap) (locs : List Loc), Wd E A s [] H locs → W p l e ({ frames := 1, cells := 0, slots := 0, locals := 23 } : Room) s m args below meth c H locs 0 0 (MQ below (Qi E A [] r0) args s 0 0 A) (F0 m 0 ls []) from ?_) s.heap [] w
  intro H locs w
  refine lv_iconst (v := 0) hx hb dX9_turnedOf_0 (by decide) ?_
  refine lv_istore_n (lv' := [(1, .int 0), (0, .int v0)]) hx hb dX9_turnedOf_1 rfl hl (by decide) rfl (fun ls hl => ?_)
  refine lv_iconst (v := 0) hx hb dX9_turnedOf_2 (by decide) ?_
  refine lv_istore_n (lv' := [(2, .int 0), (1, .int 0), (0, .int v0)]) hx hb dX9_turnedOf_3 rfl hl (by decide) rfl (fun ls hl => ?_)
  refine lv_iconst (v := 0) hx hb dX9_turnedOf_4 (by decide) ?_
  refine lv_istore_n (lv' := [(3, .int 0), (2, .int 0), (1, .int 0), (0, .int v0)]) hx hb dX9_turnedOf_5 rfl hl (by decide) rfl (fun ls hl => ?_)
  exact J6  5000 v0 0 0 0 H locs ls w (lv_sub hl [3, 2, 1, 0] rfl) hf
def f_X9_turned (v1 : Int32) : Option (Int32) := bindv (f_X9_isRule v1) (fun r_1 => if (r_1 = 0 : Prop) then (some (-1002)) else (bind1 (f_X9_turnedOf v1) (fun r_4 => some r_4)))
set_option maxHeartbeats 4000000 in
set_option maxRecDepth 100000 in
theorem c_X9_turned (l : Launch) (D : va_G) (ca : Nat → ClassId) (ak av ad : Nat → Nat) (fi : Nat → Int32) (fl : Nat → Int64) (ar : Nat → Nat → Int32) (v1 : Int32) {r0 : Int32} (hf : f_X9_turned v1 = some r0) : MtI l yX9_turned cX9_turned 2 { frames := 2, cells := 0, slots := 0, locals := 48 } (EM D ca ak av) [.ref (ad 0), .int v1] (wM ad ca fi fl ar) (wM ad ca fi fl ar) r0 := by
  refine MtI.of (own := RX9) (by decide +kernel) rfl (Nat.le_of_ble_eq_true rfl) ?_
  intro p e s m args below meth c A B hr hk w ls hl
  have hx := B.1.1
  have hb := B.1.2.1
  have hown := B.1.2.2.2.1
  have hts := B.1.2.2.2.2
  have hl : lv_has ls 2 [(0, .ref (ad 0)), (1, .int v1)] := hl
  unfold f_X9_turned at hf
  refine (show ∀ (H : Heap) (locs : List Loc), Wd (EM D ca ak av) A s (wM ad ca fi fl ar) H locs → W p l e ({ frames := 2, cells := 0, slots := 0, locals := 48 } : Room) s m args below meth c H locs 0 0 (MQ below (Qi (EM D ca ak av) A (wM ad ca fi fl ar) r0) args s 0 0 A) (F0 m 0 ls []) from ?_) s.heap [] w
  intro H locs w
  refine lv_iload_n hx hb dX9_turned_0 rfl (lv_at hl 1 rfl) ?_
  obtain ⟨r_1, er_2⟩ : ∃ y, f_X9_isRule v1 = y := ⟨_, rfl⟩
  have hf := bindv_eq hf r_1 er_2.symm
  refine callSZ (As := [.int v1]) (rest := []) B w (c_X9_isRule l _ v1 er_2) (gS kt4_164 kt4_165 kt1_11 kt4_166) hdS_X9_isRule rfl rfl ⟨Nat.le_of_ble_eq_true rfl, Nat.le_of_ble_eq_true rfl⟩ rfl hl.1 rfl (Nat.le_of_ble_eq_true rfl) dX9_turned_1 ⟨Nat.le_of_ble_eq_true rfl, Nat.le_of_ble_eq_true rfl⟩ (fun H locs w hzr_1 => ?_)
  refine lv_if_eq (x := r_1) (tgt := 14) hx hb dX9_turned_4 (by decide) (fun c_3 => ?_) (fun c_3 => ?_)
  · have hf := if_t hf c_3
    refine lv_sipush (v := (-1002)) hx hb dX9_turned_14 (by decide) ?_
    have hf : some (-1002) = some r0 := hf
    have q0 := so1 hf
    subst q0
    exact retI B hr hk w dX9_turned_17
  · have hf := if_f hf c_3
    refine lv_iload_n hx hb dX9_turned_7 rfl (lv_at hl 1 rfl) ?_
    obtain ⟨r_4, er_5, hf⟩ := bind1_eq hf
    refine callSI (As := [.int v1]) (rest := []) B w (c_X9_turnedOf l _ v1 er_5) (gS kt5_58 kt5_59 kt1_11 kt5_60) hdS_X9_turnedOf rfl rfl ⟨Nat.le_of_ble_eq_true rfl, Nat.le_of_ble_eq_true rfl⟩ rfl hl.1 rfl (Nat.le_of_ble_eq_true rfl) dX9_turned_8 ⟨Nat.le_of_ble_eq_true rfl, Nat.le_of_ble_eq_true rfl⟩ (fun H locs w => ?_)
    refine lv_goto (tgt := 17) hx hb dX9_turned_11 (by decide) ?_
    have hf : some r_4 = some r0 := hf
    have q0 := so1 hf
    subst q0
    exact retI B hr hk w dX9_turned_17
def f_X9_kinds_48  (k4 : Int32 → Int32 → (Nat → Int32) → (Nat → Int64) → (Nat → Nat → Int32) → Option (Int32 × (Nat → Int32) × (Nat → Int64) × (Nat → Nat → Int32))) (v1 : Int32) (v2 : Int32) (fi : Nat → Int32) (fl : Nat → Int64) (ar : Nat → Nat → Int32) : Option (Int32 × (Nat → Int32) × (Nat → Int64) × (Nat → Nat → Int32)) := bindv (v2 + 1 : Int32) (fun x_1 => k4 v1 x_1 fi fl ar)
def f_X9_kinds_43  (k4 : Int32 → Int32 → (Nat → Int32) → (Nat → Int64) → (Nat → Nat → Int32) → Option (Int32 × (Nat → Int32) × (Nat → Int64) × (Nat → Nat → Int32))) (v2 : Int32) (t0 : Int32) (t1 : Int32) (fi : Nat → Int32) (fl : Nat → Int64) (ar : Nat → Nat → Int32) : Option (Int32 × (Nat → Int32) × (Nat → Int64) × (Nat → Nat → Int32)) := bindv (f_X9_one t1) (fun r_2 => bindv ((t0 + r_2) : Int32) (fun x_4 => f_X9_kinds_48 k4 x_4 v2 fi fl ar))
def f_X9_kinds_38  (k4 : Int32 → Int32 → (Nat → Int32) → (Nat → Int64) → (Nat → Nat → Int32) → Option (Int32 × (Nat → Int32) × (Nat → Int64) × (Nat → Nat → Int32))) (v2 : Int32) (t0 : Int32) (fi : Nat → Int32) (fl : Nat → Int64) (ar : Nat → Nat → Int32) : Option (Int32 × (Nat → Int32) × (Nat → Int64) × (Nat → Nat → Int32)) := f_X9_kinds_43 k4 v2 t0 1 fi fl ar
def f_X9_kinds_4   : Nat → (Int32) → (Int32) → (Nat → Int32) → (Nat → Int64) → (Nat → Nat → Int32) → Option (Int32 × (Nat → Int32) × (Nat → Int64) × (Nat → Nat → Int32))
  | 0, _, _, _, _, _ => none
  | n + 1, v1, v2, fi, fl, ar => if (4096 ≤ v2 : Prop) then (some (v1, fi, fl, ar)) else (bind4 (f_X9_isHolding fi fl ar v2) (fun r_6 fi_7 fl_8 ar_9 => if (r_6 = 0 : Prop) then (f_X9_kinds_48 (f_X9_kinds_4 n) v1 v2 fi_7 fl_8 ar_9) else (bind1 (f_X9_turnedOf v2) (fun r_12 => if (v2 ≤ r_12 : Prop) then (f_X9_kinds_38 (f_X9_kinds_4 n) v2 v1 fi_7 fl_8 ar_9) else (bind4 (f_X9_isHolding fi_7 fl_8 ar_9 r_12) (fun r_15 fi_16 fl_17 ar_18 => if (r_15 = 0 : Prop) then (f_X9_kinds_38 (f_X9_kinds_4 n) v2 v1 fi_16 fl_17 ar_18) else (f_X9_kinds_43 (f_X9_kinds_4 n) v2 v1 0 fi_16 fl_17 ar_18)))))))
def f_X9_kinds (fi : Nat → Int32) (fl : Nat → Int64) (ar : Nat → Nat → Int32) : Option (Int32 × (Nat → Int32) × (Nat → Int64) × (Nat → Nat → Int32)) := f_X9_kinds_4  5000 0 0 fi fl ar
set_option maxHeartbeats 4000000 in
set_option maxRecDepth 100000 in
theorem c_X9_kinds (l : Launch) (D : va_G) (ca : Nat → ClassId) (ak av ad : Nat → Nat) (fi : Nat → Int32) (fl : Nat → Int64) (ar : Nat → Nat → Int32) {r0 : Int32} {fi0 : Nat → Int32} {fl0 : Nat → Int64} {ar0 : Nat → Nat → Int32} (hf : f_X9_kinds fi fl ar = some (r0, fi0, fl0, ar0)) : MtI l yX9_kinds cX9_kinds 4 { frames := 6, cells := 0, slots := 0, locals := 162 } (EM D ca ak av) [.ref (ad 0)] (wM ad ca fi fl ar) (wM ad ca fi0 fl0 ar0) r0 := by
  refine MtI.of (own := RX9) (by decide +kernel) rfl (Nat.le_of_ble_eq_true rfl) ?_
  intro p e s m args below meth c A B hr hk w ls hl
  have hx := B.1.1
  have hb := B.1.2.1
  have hown := B.1.2.2.2.1
  have hts := B.1.2.2.2.2
  have hl : lv_has ls 4 [(0, .ref (ad 0))] := hl
  have J48 : ∀ (k4 : Int32 → Int32 → (Nat → Int32) → (Nat → Int64) → (Nat → Nat → Int32) → Option (Int32 × (Nat → Int32) × (Nat → Int64) × (Nat → Nat → Int32))) (hk4 : ∀ (v1 : Int32) (v2 : Int32) (fi : Nat → Int32) (fl : Nat → Int64) (ar : Nat → Nat → Int32) (H : Heap) (locs : List Loc) (ls : Array Slot), Wd (EM D ca ak av) A s (wM ad ca fi fl ar) H locs → lv_has ls 4 [(0, .ref (ad 0)), (1, .int v1), (2, .int v2)] → k4 v1 v2 fi fl ar = some (r0, fi0, fl0, ar0) → W p l e ({ frames := 6, cells := 0, slots := 0, locals := 162 } : Room) s m args below meth c H locs 0 0 (MQ below (Qi (EM D ca ak av) A (wM ad ca fi0 fl0 ar0) r0) args s 0 0 A) (F0 m 4 ls [])) (v1 : Int32) (v2 : Int32) (fi : Nat → Int32) (fl : Nat → Int64) (ar : Nat → Nat → Int32) (H : Heap) (locs : List Loc) (ls : Array Slot), Wd (EM D ca ak av) A s (wM ad ca fi fl ar) H locs → lv_has ls 4 [(0, .ref (ad 0)), (1, .int v1), (2, .int v2)] → f_X9_kinds_48 k4 v1 v2 fi fl ar = some (r0, fi0, fl0, ar0) → W p l e ({ frames := 6, cells := 0, slots := 0, locals := 162 } : Room) s m args below meth c H locs 0 0 (MQ below (Qi (EM D ca ak av) A (wM ad ca fi0 fl0 ar0) r0) args s 0 0 A) (F0 m 48 ls []) := by
    intro k4 hk4 v1 v2 fi fl ar H locs ls w hl hf
    unfold f_X9_kinds_48 at hf
    obtain ⟨x_1, ex_1⟩ : ∃ y : Int32, y = v2 + 1 := ⟨_, rfl⟩
    have hf := bindv_eq hf x_1 ex_1
    refine lv_iinc (v := x_1) (lv' := [(2, .int x_1), (0, .ref (ad 0)), (1, .int v1)]) hx hb dX9_kinds_48 hl (k := 2) rfl (by rw [ex_1]; rfl) (by decide) rfl (fun ls hl => ?_)
    refine lv_goto (tgt := 4) hx hb dX9_kinds_51 (by decide) ?_
    exact hk4 v1 x_1 fi fl ar H locs ls w (lv_sub hl [1, 2, 0] rfl) hf
  have J43 : ∀ (k4 : Int32 → Int32 → (Nat → Int32) → (Nat → Int64) → (Nat → Nat → Int32) → Option (Int32 × (Nat → Int32) × (Nat → Int64) × (Nat → Nat → Int32))) (hk4 : ∀ (v1 : Int32) (v2 : Int32) (fi : Nat → Int32) (fl : Nat → Int64) (ar : Nat → Nat → Int32) (H : Heap) (locs : List Loc) (ls : Array Slot), Wd (EM D ca ak av) A s (wM ad ca fi fl ar) H locs → lv_has ls 4 [(0, .ref (ad 0)), (1, .int v1), (2, .int v2)] → k4 v1 v2 fi fl ar = some (r0, fi0, fl0, ar0) → W p l e ({ frames := 6, cells := 0, slots := 0, locals := 162 } : Room) s m args below meth c H locs 0 0 (MQ below (Qi (EM D ca ak av) A (wM ad ca fi0 fl0 ar0) r0) args s 0 0 A) (F0 m 4 ls [])) (v2 : Int32) (t0 : Int32) (t1 : Int32) (fi : Nat → Int32) (fl : Nat → Int64) (ar : Nat → Nat → Int32) (H : Heap) (locs : List Loc) (ls : Array Slot), Wd (EM D ca ak av) A s (wM ad ca fi fl ar) H locs → lv_has ls 4 [(0, .ref (ad 0)), (2, .int v2)] → f_X9_kinds_43 k4 v2 t0 t1 fi fl ar = some (r0, fi0, fl0, ar0) → W p l e ({ frames := 6, cells := 0, slots := 0, locals := 162 } : Room) s m args below meth c H locs 0 0 (MQ below (Qi (EM D ca ak av) A (wM ad ca fi0 fl0 ar0) r0) args s 0 0 A) (F0 m 43 ls [.int t1, .int t0]) := by
    intro k4 hk4 v2 t0 t1 fi fl ar H locs ls w hl hf
    unfold f_X9_kinds_43 at hf
    obtain ⟨r_2, er_3⟩ : ∃ y, f_X9_one t1 = y := ⟨_, rfl⟩
    have hf := bindv_eq hf r_2 er_3.symm
    refine callSI (As := [.int t1]) (rest := [.int t0]) B w (c_X9_one l _ t1 er_3) (gS kt4_133 kt4_134 kt1_11 kt4_135) hdS_X9_one rfl rfl ⟨Nat.le_of_ble_eq_true rfl, Nat.le_of_ble_eq_true rfl⟩ rfl hl.1 rfl (Nat.le_of_ble_eq_true rfl) dX9_kinds_43 ⟨Nat.le_of_ble_eq_true rfl, Nat.le_of_ble_eq_true rfl⟩ (fun H locs w => ?_)
    refine lv_iadd (x := t0) (y := r_2) hx hb dX9_kinds_46 ?_
    refine lv_topi (fun x_4 ex_4 => ?_)
    have hf := bindv_eq hf x_4 ex_4
    refine lv_istore_n (lv' := [(1, .int x_4), (0, .ref (ad 0)), (2, .int v2)]) hx hb dX9_kinds_47 rfl hl (by decide) rfl (fun ls hl => ?_)
    exact J48 _ hk4 x_4 v2 fi fl ar H locs ls w (lv_sub hl [1, 0, 2] rfl) hf
  have J38 : ∀ (k4 : Int32 → Int32 → (Nat → Int32) → (Nat → Int64) → (Nat → Nat → Int32) → Option (Int32 × (Nat → Int32) × (Nat → Int64) × (Nat → Nat → Int32))) (hk4 : ∀ (v1 : Int32) (v2 : Int32) (fi : Nat → Int32) (fl : Nat → Int64) (ar : Nat → Nat → Int32) (H : Heap) (locs : List Loc) (ls : Array Slot), Wd (EM D ca ak av) A s (wM ad ca fi fl ar) H locs → lv_has ls 4 [(0, .ref (ad 0)), (1, .int v1), (2, .int v2)] → k4 v1 v2 fi fl ar = some (r0, fi0, fl0, ar0) → W p l e ({ frames := 6, cells := 0, slots := 0, locals := 162 } : Room) s m args below meth c H locs 0 0 (MQ below (Qi (EM D ca ak av) A (wM ad ca fi0 fl0 ar0) r0) args s 0 0 A) (F0 m 4 ls [])) (v2 : Int32) (t0 : Int32) (fi : Nat → Int32) (fl : Nat → Int64) (ar : Nat → Nat → Int32) (H : Heap) (locs : List Loc) (ls : Array Slot), Wd (EM D ca ak av) A s (wM ad ca fi fl ar) H locs → lv_has ls 4 [(0, .ref (ad 0)), (2, .int v2)] → f_X9_kinds_38 k4 v2 t0 fi fl ar = some (r0, fi0, fl0, ar0) → W p l e ({ frames := 6, cells := 0, slots := 0, locals := 162 } : Room) s m args below meth c H locs 0 0 (MQ below (Qi (EM D ca ak av) A (wM ad ca fi0 fl0 ar0) r0) args s 0 0 A) (F0 m 38 ls [.int t0]) := by
    intro k4 hk4 v2 t0 fi fl ar H locs ls w hl hf
    unfold f_X9_kinds_38 at hf
    refine lv_iconst (v := 1) hx hb dX9_kinds_38 (by decide) ?_
    refine lv_goto (tgt := 43) hx hb dX9_kinds_39 (by decide) ?_
    exact J43 _ hk4 v2 t0 1 fi fl ar H locs ls w (lv_sub hl [0, 1] rfl) hf
  have J4 : ∀ (n : Nat) (v1 : Int32) (v2 : Int32) (fi : Nat → Int32) (fl : Nat → Int64) (ar : Nat → Nat → Int32) (H : Heap) (locs : List Loc) (ls : Array Slot), Wd (EM D ca ak av) A s (wM ad ca fi fl ar) H locs → lv_has ls 4 [(0, .ref (ad 0)), (1, .int v1), (2, .int v2)] → f_X9_kinds_4  n v1 v2 fi fl ar = some (r0, fi0, fl0, ar0) → W p l e ({ frames := 6, cells := 0, slots := 0, locals := 162 } : Room) s m args below meth c H locs 0 0 (MQ below (Qi (EM D ca ak av) A (wM ad ca fi0 fl0 ar0) r0) args s 0 0 A) (F0 m 4 ls []) := by
    intro  n
    induction n with
    | zero =>
      intro v1 v2 fi fl ar H locs ls w hl hf
      cases hf
    | succ n ih =>
      intro v1 v2 fi fl ar H locs ls w hl hf
      rw [f_X9_kinds_4] at hf
      refine lv_iload_n hx hb dX9_kinds_4 rfl (lv_at hl 2 rfl) ?_
      refine lv_sipush (v := 4096) hx hb dX9_kinds_5 (by decide) ?_
      refine lv_icmp_ge (x := v2) (y := 4096) (tgt := 54) hx hb dX9_kinds_8 (by decide) (fun c_5 => ?_) (fun c_5 => ?_)
      · have hf := if_t hf c_5
        refine lv_iload_n hx hb dX9_kinds_54 rfl (lv_at hl 1 rfl) ?_
        have hf : some (v1, fi, fl, ar) = some (r0, fi0, fl0, ar0) := hf
        obtain ⟨q0, q1, q2, q3⟩ := so4 hf
        subst q0
        subst q1
        subst q2
        subst q3
        exact retI B hr hk w dX9_kinds_55
      · have hf := if_f hf c_5
        refine lv_aload_n hx hb dX9_kinds_11 rfl (lv_at hl 0 rfl) ?_
        refine lv_iload_n hx hb dX9_kinds_12 rfl (lv_at hl 2 rfl) ?_
        obtain ⟨r_6, fi_7, fl_8, ar_9, er_10, hf⟩ := bind4_eq hf
        refine callVZ (As := [.int v2]) (rest := []) B w (c_X9_isHolding l D ca ak av ad fi fl ar v2 er_10) (gV kt5_20 kt5_22 kp2_10 kt1_11 kt5_23) hdV_X9_isHolding 0 rfl rfl rfl rfl ⟨Nat.le_of_ble_eq_true rfl, Nat.le_of_ble_eq_true rfl⟩ rfl hl.1 rfl (Nat.le_of_ble_eq_true rfl) dX9_kinds_13 ⟨Nat.le_of_ble_eq_true rfl, Nat.le_of_ble_eq_true rfl⟩ (fun H locs w hzr_6 => ?_)
        refine lv_if_eq (x := r_6) (tgt := 48) hx hb dX9_kinds_16 (by decide) (fun c_11 => ?_) (fun c_11 => ?_)
        · have hf := if_t hf c_11
          exact J48 _ ih v1 v2 fi_7 fl_8 ar_9 H locs ls w (lv_sub hl [0, 1, 2] rfl) hf
        · have hf := if_f hf c_11
          refine lv_iload_n hx hb dX9_kinds_19 rfl (lv_at hl 2 rfl) ?_
          obtain ⟨r_12, er_13, hf⟩ := bind1_eq hf
          refine callSI (As := [.int v2]) (rest := []) B w (c_X9_turnedOf l _ v2 er_13) (gS kt5_58 kt5_59 kt1_11 kt5_60) hdS_X9_turnedOf rfl rfl ⟨Nat.le_of_ble_eq_true rfl, Nat.le_of_ble_eq_true rfl⟩ rfl hl.1 rfl (Nat.le_of_ble_eq_true rfl) dX9_kinds_20 ⟨Nat.le_of_ble_eq_true rfl, Nat.le_of_ble_eq_true rfl⟩ (fun H locs w => ?_)
          refine lv_istore_n (lv' := [(3, .int r_12), (0, .ref (ad 0)), (1, .int v1), (2, .int v2)]) hx hb dX9_kinds_23 rfl hl (by decide) rfl (fun ls hl => ?_)
          refine lv_iload_n hx hb dX9_kinds_24 rfl (lv_at hl 2 rfl) ?_
          refine lv_iload_n hx hb dX9_kinds_25 rfl (lv_at hl 0 rfl) ?_
          refine lv_iload_n hx hb dX9_kinds_26 rfl (lv_at hl 3 rfl) ?_
          refine lv_icmp_ge (x := r_12) (y := v2) (tgt := 38) hx hb dX9_kinds_27 (by decide) (fun c_14 => ?_) (fun c_14 => ?_)
          · have hf := if_t hf c_14
            exact J38 _ ih v2 v1 fi_7 fl_8 ar_9 H locs ls w (lv_sub hl [1, 3] rfl) hf
          · have hf := if_f hf c_14
            refine lv_aload_n hx hb dX9_kinds_30 rfl (lv_at hl 1 rfl) ?_
            refine lv_iload_n hx hb dX9_kinds_31 rfl (lv_at hl 0 rfl) ?_
            obtain ⟨r_15, fi_16, fl_17, ar_18, er_19, hf⟩ := bind4_eq hf
            refine callVZ (As := [.int r_12]) (rest := [.int v1]) B w (c_X9_isHolding l D ca ak av ad fi_7 fl_8 ar_9 r_12 er_19) (gV kt5_20 kt5_22 kp2_10 kt1_11 kt5_23) hdV_X9_isHolding 0 rfl rfl rfl rfl ⟨Nat.le_of_ble_eq_true rfl, Nat.le_of_ble_eq_true rfl⟩ rfl hl.1 rfl (Nat.le_of_ble_eq_true rfl) dX9_kinds_32 ⟨Nat.le_of_ble_eq_true rfl, Nat.le_of_ble_eq_true rfl⟩ (fun H locs w hzr_15 => ?_)
            refine lv_if_ne (x := r_15) (tgt := 42) hx hb dX9_kinds_35 (by decide) (fun c_20 => ?_) (fun c_20 => ?_)
            · have hf := if_f hf c_20
              refine lv_iconst (v := 0) hx hb dX9_kinds_42 (by decide) ?_
              exact J43 _ ih v2 v1 0 fi_16 fl_17 ar_18 H locs ls w (lv_sub hl [1, 3] rfl) hf
            · have hf := if_t hf c_20
              exact J38 _ ih v2 v1 fi_16 fl_17 ar_18 H locs ls w (lv_sub hl [1, 3] rfl) hf
  unfold f_X9_kinds at hf
  refine (show ∀ (H : Heap) (locs : List Loc), Wd (EM D ca ak av) A s (wM ad ca fi fl ar) H locs → W p l e ({ frames := 6, cells := 0, slots := 0, locals := 162 } : Room) s m args below meth c H locs 0 0 (MQ below (Qi (EM D ca ak av) A (wM ad ca fi0 fl0 ar0) r0) args s 0 0 A) (F0 m 0 ls []) from ?_) s.heap [] w
  intro H locs w
  refine lv_iconst (v := 0) hx hb dX9_kinds_0 (by decide) ?_
  refine lv_istore_n (lv' := [(1, .int 0), (0, .ref (ad 0))]) hx hb dX9_kinds_1 rfl hl (by decide) rfl (fun ls hl => ?_)
  refine lv_iconst (v := 0) hx hb dX9_kinds_2 (by decide) ?_
  refine lv_istore_n (lv' := [(2, .int 0), (1, .int 0), (0, .ref (ad 0))]) hx hb dX9_kinds_3 rfl hl (by decide) rfl (fun ls hl => ?_)
  exact J4  5000 0 0 fi fl ar H locs ls w (lv_sub hl [2, 1, 0] rfl) hf
def f_X9_isPerson (v0 : Int32) : Int32 := bindv (f_X9_in (Int32.toInt64 v0) 0 5) (fun r_1 => r_1)
set_option maxHeartbeats 4000000 in
set_option maxRecDepth 100000 in
theorem c_X9_isPerson (l : Launch) (E : VE) (v0 : Int32) {r0 : Int32} (hf : f_X9_isPerson v0 = r0) : MtZ l yX9_isPerson cX9_isPerson 1 { frames := 1, cells := 0, slots := 0, locals := 25 } E [.int v0] [] [] r0 := by
  refine MtZ.of (own := RX9) (by decide +kernel) rfl (Nat.le_of_ble_eq_true rfl) ?_
  intro p e s m args below meth c A B hr hk w ls hl
  have hx := B.1.1
  have hb := B.1.2.1
  have hown := B.1.2.2.2.1
  have hts := B.1.2.2.2.2
  have hl : lv_has ls 1 [(0, .int v0)] := hl
  unfold f_X9_isPerson at hf
  refine (show ∀ (H : Heap) (locs : List Loc), Wd E A s [] H locs → W p l e ({ frames := 1, cells := 0, slots := 0, locals := 25 } : Room) s m args below meth c H locs 0 0 (MQ below (Qz E A [] r0) args s 0 0 A) (F0 m 0 ls []) from ?_) s.heap [] w
  intro H locs w
  refine lv_iload_n hx hb dX9_isPerson_0 rfl (lv_at hl 0 rfl) ?_
  refine lv_i2l hx hb dX9_isPerson_1 rfl ?_
  refine lv_lconst (v := 0) hx hb dX9_isPerson_2 (by decide) ?_
  refine lv_ldc2 (own := RX9) (v := 5) hx hb hown (hts _ kt5_72) dX9_isPerson_3 ?_
  obtain ⟨r_1, er_2⟩ : ∃ y, f_X9_in (Int32.toInt64 v0) 0 5 = y := ⟨_, rfl⟩
  have hf := bindv_eq hf r_1 er_2.symm
  refine callSZ (As := [.long (Int32.toInt64 v0), .long 0, .long 5]) (rest := []) B w (c_X9_in l _ (Int32.toInt64 v0) 0 5 er_2) (gS kt4_95 kt4_96 kt1_11 kt4_97) hdS_X9_in rfl rfl ⟨Nat.le_of_ble_eq_true rfl, Nat.le_of_ble_eq_true rfl⟩ rfl hl.1 rfl (Nat.le_of_ble_eq_true rfl) dX9_isPerson_6 ⟨Nat.le_of_ble_eq_true rfl, Nat.le_of_ble_eq_true rfl⟩ (fun H locs w hzr_1 => ?_)
  have hf : r_1 = r0 := hf
  subst hf
  exact retZ B hr hk w hzr_1 dX9_isPerson_9
def f_X9_nameOf (ar : Nat → Nat → Int32) (v1 : Int32) (v2 : Int32) : Option (Int32) := gd ((6 * v1) + v2) 36 (bindv (f_X9_one (ar 5 (Int32.toNatClampNeg ((6 * v1) + v2)))) (fun r_2 => some r_2))
set_option maxHeartbeats 4000000 in
set_option maxRecDepth 100000 in
theorem c_X9_nameOf (l : Launch) (D : va_G) (ca : Nat → ClassId) (ak av ad : Nat → Nat) (fi : Nat → Int32) (fl : Nat → Int64) (ar : Nat → Nat → Int32) (v1 : Int32) (v2 : Int32) {r0 : Int32} (hf : f_X9_nameOf ar v1 v2 = some r0) : MtI l yX9_nameOf cX9_nameOf 3 { frames := 1, cells := 0, slots := 0, locals := 20 } (EM D ca ak av) [.ref (ad 0), .int v1, .int v2] (wM ad ca fi fl ar) (wM ad ca fi fl ar) r0 := by
  refine MtI.of (own := RX9) (by decide +kernel) rfl (Nat.le_of_ble_eq_true rfl) ?_
  intro p e s m args below meth c A B hr hk w ls hl
  have hx := B.1.1
  have hb := B.1.2.1
  have hown := B.1.2.2.2.1
  have hts := B.1.2.2.2.2
  have hl : lv_has ls 3 [(0, .ref (ad 0)), (1, .int v1), (2, .int v2)] := hl
  unfold f_X9_nameOf at hf
  refine (show ∀ (H : Heap) (locs : List Loc), Wd (EM D ca ak av) A s (wM ad ca fi fl ar) H locs → W p l e ({ frames := 1, cells := 0, slots := 0, locals := 20 } : Room) s m args below meth c H locs 0 0 (MQ below (Qi (EM D ca ak av) A (wM ad ca fi fl ar) r0) args s 0 0 A) (F0 m 0 ls []) from ?_) s.heap [] w
  intro H locs w
  refine lv_aload_n hx hb dX9_nameOf_0 rfl (lv_at hl 0 rfl) ?_
  refine gfM_0_19 B w kt4_44 dX9_nameOf_1 ?_
  refine lv_bipush (v := 6) hx hb dX9_nameOf_4 (by decide) ?_
  refine lv_iload_n hx hb dX9_nameOf_6 rfl (lv_at hl 1 rfl) ?_
  refine lv_imul (x := 6) (y := v1) hx hb dX9_nameOf_7 ?_
  refine lv_iload_n hx hb dX9_nameOf_8 rfl (lv_at hl 2 rfl) ?_
  refine lv_iadd (x := (6 * v1)) (y := v2) hx hb dX9_nameOf_9 ?_
  obtain ⟨hi_1, hf⟩ := gd_eq hf
  refine alM_5 B w hi_1 dX9_nameOf_10 ?_
  obtain ⟨r_2, er_3⟩ : ∃ y, f_X9_one (ar 5 (Int32.toNatClampNeg ((6 * v1) + v2))) = y := ⟨_, rfl⟩
  have hf := bindv_eq hf r_2 er_3.symm
  refine callSI (As := [.int (ar 5 (Int32.toNatClampNeg ((6 * v1) + v2)))]) (rest := []) B w (c_X9_one l _ (ar 5 (Int32.toNatClampNeg ((6 * v1) + v2))) er_3) (gS kt4_133 kt4_134 kt1_11 kt4_135) hdS_X9_one rfl rfl ⟨Nat.le_of_ble_eq_true rfl, Nat.le_of_ble_eq_true rfl⟩ rfl hl.1 rfl (Nat.le_of_ble_eq_true rfl) dX9_nameOf_11 ⟨Nat.le_of_ble_eq_true rfl, Nat.le_of_ble_eq_true rfl⟩ (fun H locs w => ?_)
  have hf : some r_2 = some r0 := hf
  have q0 := so1 hf
  subst q0
  exact retI B hr hk w dX9_nameOf_14
def f_X9_view (ar : Nat → Nat → Int32) (v1 : Int32) (v2 : Int32) : Option (Int32) := bindv (f_X9_isPerson v1) (fun r_1 => if (r_1 = 0 : Prop) then (some (-1001)) else (bindv (f_X9_isPerson v2) (fun r_4 => if (r_4 = 0 : Prop) then (some (-1001)) else (bind1 (f_X9_nameOf ar v1 v2) (fun r_7 => some r_7)))))
set_option maxHeartbeats 4000000 in
set_option maxRecDepth 100000 in
theorem c_X9_view (l : Launch) (D : va_G) (ca : Nat → ClassId) (ak av ad : Nat → Nat) (fi : Nat → Int32) (fl : Nat → Int64) (ar : Nat → Nat → Int32) (v1 : Int32) (v2 : Int32) {r0 : Int32} (hf : f_X9_view ar v1 v2 = some r0) : MtI l yX9_view cX9_view 3 { frames := 2, cells := 0, slots := 0, locals := 45 } (EM D ca ak av) [.ref (ad 0), .int v1, .int v2] (wM ad ca fi fl ar) (wM ad ca fi fl ar) r0 := by
  refine MtI.of (own := RX9) (by decide +kernel) rfl (Nat.le_of_ble_eq_true rfl) ?_
  intro p e s m args below meth c A B hr hk w ls hl
  have hx := B.1.1
  have hb := B.1.2.1
  have hown := B.1.2.2.2.1
  have hts := B.1.2.2.2.2
  have hl : lv_has ls 3 [(0, .ref (ad 0)), (1, .int v1), (2, .int v2)] := hl
  unfold f_X9_view at hf
  refine (show ∀ (H : Heap) (locs : List Loc), Wd (EM D ca ak av) A s (wM ad ca fi fl ar) H locs → W p l e ({ frames := 2, cells := 0, slots := 0, locals := 45 } : Room) s m args below meth c H locs 0 0 (MQ below (Qi (EM D ca ak av) A (wM ad ca fi fl ar) r0) args s 0 0 A) (F0 m 0 ls []) from ?_) s.heap [] w
  intro H locs w
  refine lv_iload_n hx hb dX9_view_0 rfl (lv_at hl 1 rfl) ?_
  obtain ⟨r_1, er_2⟩ : ∃ y, f_X9_isPerson v1 = y := ⟨_, rfl⟩
  have hf := bindv_eq hf r_1 er_2.symm
  refine callSZ (As := [.int v1]) (rest := []) B w (c_X9_isPerson l _ v1 er_2) (gS kt5_69 kt5_70 kt1_11 kt5_71) hdS_X9_isPerson rfl rfl ⟨Nat.le_of_ble_eq_true rfl, Nat.le_of_ble_eq_true rfl⟩ rfl hl.1 rfl (Nat.le_of_ble_eq_true rfl) dX9_view_1 ⟨Nat.le_of_ble_eq_true rfl, Nat.le_of_ble_eq_true rfl⟩ (fun H locs w hzr_1 => ?_)
  refine lv_if_eq (x := r_1) (tgt := 23) hx hb dX9_view_4 (by decide) (fun c_3 => ?_) (fun c_3 => ?_)
  · have hf := if_t hf c_3
    refine lv_sipush (v := (-1001)) hx hb dX9_view_23 (by decide) ?_
    have hf : some (-1001) = some r0 := hf
    have q0 := so1 hf
    subst q0
    exact retI B hr hk w dX9_view_26
  · have hf := if_f hf c_3
    refine lv_iload_n hx hb dX9_view_7 rfl (lv_at hl 2 rfl) ?_
    obtain ⟨r_4, er_5⟩ : ∃ y, f_X9_isPerson v2 = y := ⟨_, rfl⟩
    have hf := bindv_eq hf r_4 er_5.symm
    refine callSZ (As := [.int v2]) (rest := []) B w (c_X9_isPerson l _ v2 er_5) (gS kt5_69 kt5_70 kt1_11 kt5_71) hdS_X9_isPerson rfl rfl ⟨Nat.le_of_ble_eq_true rfl, Nat.le_of_ble_eq_true rfl⟩ rfl hl.1 rfl (Nat.le_of_ble_eq_true rfl) dX9_view_8 ⟨Nat.le_of_ble_eq_true rfl, Nat.le_of_ble_eq_true rfl⟩ (fun H locs w hzr_4 => ?_)
    refine lv_if_eq (x := r_4) (tgt := 23) hx hb dX9_view_11 (by decide) (fun c_6 => ?_) (fun c_6 => ?_)
    · have hf := if_t hf c_6
      refine lv_sipush (v := (-1001)) hx hb dX9_view_23 (by decide) ?_
      have hf : some (-1001) = some r0 := hf
      have q0 := so1 hf
      subst q0
      exact retI B hr hk w dX9_view_26
    · have hf := if_f hf c_6
      refine lv_aload_n hx hb dX9_view_14 rfl (lv_at hl 0 rfl) ?_
      refine lv_iload_n hx hb dX9_view_15 rfl (lv_at hl 1 rfl) ?_
      refine lv_iload_n hx hb dX9_view_16 rfl (lv_at hl 2 rfl) ?_
      obtain ⟨r_7, er_8, hf⟩ := bind1_eq hf
      refine callVI (As := [.int v1, .int v2]) (rest := []) B w (c_X9_nameOf l D ca ak av ad fi fl ar v1 v2 er_8) (gV kt5_73 kt5_75 kp2_14 kt1_11 kt5_76) hdV_X9_nameOf 0 rfl rfl rfl rfl ⟨Nat.le_of_ble_eq_true rfl, Nat.le_of_ble_eq_true rfl⟩ rfl hl.1 rfl (Nat.le_of_ble_eq_true rfl) dX9_view_17 ⟨Nat.le_of_ble_eq_true rfl, Nat.le_of_ble_eq_true rfl⟩ (fun H locs w => ?_)
      refine lv_goto (tgt := 26) hx hb dX9_view_20 (by decide) ?_
      have hf : some r_7 = some r0 := hf
      have q0 := so1 hf
      subst q0
      exact retI B hr hk w dX9_view_26
def f_X9_call (ar : Nat → Nat → Int32) (v1 : Int32) (v2 : Int32) (v3 : Int32) : Option (Int32 × (Nat → Nat → Int32)) := bindv (f_X9_isPerson v1) (fun r_1 => if (r_1 = 0 : Prop) then (some ((-1001), ar)) else (bindv (f_X9_isPerson v2) (fun r_4 => if (r_4 = 0 : Prop) then (some ((-1001), ar)) else (bindv (f_X9_isName v3) (fun r_7 => if (r_7 = 0 : Prop) then (some ((-1002), ar)) else (bind1 (f_X9_nameOf ar v1 v2) (fun r_10 => if (v3 = 1 : Prop) then (gd ((6 * v1) + v2) 36 (bindv (updA ar 5 (upd (ar 5) (Int32.toNatClampNeg ((6 * v1) + v2)) (vp_nar .boolean 1))) (fun ar_16 => some (r_10, ar_16)))) else (gd ((6 * v1) + v2) 36 (bindv (updA ar 5 (upd (ar 5) (Int32.toNatClampNeg ((6 * v1) + v2)) (vp_nar .boolean 0))) (fun ar_14 => some (r_10, ar_14)))))))))))
set_option maxHeartbeats 4000000 in
set_option maxRecDepth 100000 in
theorem c_X9_call (l : Launch) (D : va_G) (ca : Nat → ClassId) (ak av ad : Nat → Nat) (fi : Nat → Int32) (fl : Nat → Int64) (ar : Nat → Nat → Int32) (v1 : Int32) (v2 : Int32) (v3 : Int32) {r0 : Int32} {ar0 : Nat → Nat → Int32} (hf : f_X9_call ar v1 v2 v3 = some (r0, ar0)) : MtI l yX9_call cX9_call 5 { frames := 2, cells := 0, slots := 0, locals := 45 } (EM D ca ak av) [.ref (ad 0), .int v1, .int v2, .int v3] (wM ad ca fi fl ar) (wM ad ca fi fl ar0) r0 := by
  refine MtI.of (own := RX9) (by decide +kernel) rfl (Nat.le_of_ble_eq_true rfl) ?_
  intro p e s m args below meth c A B hr hk w ls hl
  have hx := B.1.1
  have hb := B.1.2.1
  have hown := B.1.2.2.2.1
  have hts := B.1.2.2.2.2
  have hl : lv_has ls 5 [(0, .ref (ad 0)), (1, .int v1), (2, .int v2), (3, .int v3)] := hl
  unfold f_X9_call at hf
  refine (show ∀ (H : Heap) (locs : List Loc), Wd (EM D ca ak av) A s (wM ad ca fi fl ar) H locs → W p l e ({ frames := 2, cells := 0, slots := 0, locals := 45 } : Room) s m args below meth c H locs 0 0 (MQ below (Qi (EM D ca ak av) A (wM ad ca fi fl ar0) r0) args s 0 0 A) (F0 m 0 ls []) from ?_) s.heap [] w
  intro H locs w
  refine lv_iload_n hx hb dX9_call_0 rfl (lv_at hl 1 rfl) ?_
  obtain ⟨r_1, er_2⟩ : ∃ y, f_X9_isPerson v1 = y := ⟨_, rfl⟩
  have hf := bindv_eq hf r_1 er_2.symm
  refine callSZ (As := [.int v1]) (rest := []) B w (c_X9_isPerson l _ v1 er_2) (gS kt5_69 kt5_70 kt1_11 kt5_71) hdS_X9_isPerson rfl rfl ⟨Nat.le_of_ble_eq_true rfl, Nat.le_of_ble_eq_true rfl⟩ rfl hl.1 rfl (Nat.le_of_ble_eq_true rfl) dX9_call_1 ⟨Nat.le_of_ble_eq_true rfl, Nat.le_of_ble_eq_true rfl⟩ (fun H locs w hzr_1 => ?_)
  refine lv_if_eq (x := r_1) (tgt := 14) hx hb dX9_call_4 (by decide) (fun c_3 => ?_) (fun c_3 => ?_)
  · have hf := if_t hf c_3
    refine lv_sipush (v := (-1001)) hx hb dX9_call_14 (by decide) ?_
    have hf : some ((-1001), ar) = some (r0, ar0) := hf
    obtain ⟨q0, q1⟩ := so2 hf
    subst q0
    subst q1
    exact retI B hr hk w dX9_call_17
  · have hf := if_f hf c_3
    refine lv_iload_n hx hb dX9_call_7 rfl (lv_at hl 2 rfl) ?_
    obtain ⟨r_4, er_5⟩ : ∃ y, f_X9_isPerson v2 = y := ⟨_, rfl⟩
    have hf := bindv_eq hf r_4 er_5.symm
    refine callSZ (As := [.int v2]) (rest := []) B w (c_X9_isPerson l _ v2 er_5) (gS kt5_69 kt5_70 kt1_11 kt5_71) hdS_X9_isPerson rfl rfl ⟨Nat.le_of_ble_eq_true rfl, Nat.le_of_ble_eq_true rfl⟩ rfl hl.1 rfl (Nat.le_of_ble_eq_true rfl) dX9_call_8 ⟨Nat.le_of_ble_eq_true rfl, Nat.le_of_ble_eq_true rfl⟩ (fun H locs w hzr_4 => ?_)
    refine lv_if_ne (x := r_4) (tgt := 18) hx hb dX9_call_11 (by decide) (fun c_6 => ?_) (fun c_6 => ?_)
    · have hf := if_f hf c_6
      refine lv_iload_n hx hb dX9_call_18 rfl (lv_at hl 3 rfl) ?_
      obtain ⟨r_7, er_8⟩ : ∃ y, f_X9_isName v3 = y := ⟨_, rfl⟩
      have hf := bindv_eq hf r_7 er_8.symm
      refine callSZ (As := [.int v3]) (rest := []) B w (c_X9_isName l _ v3 er_8) (gS kt4_168 kt4_169 kt1_11 kt4_170) hdS_X9_isName rfl rfl ⟨Nat.le_of_ble_eq_true rfl, Nat.le_of_ble_eq_true rfl⟩ rfl hl.1 rfl (Nat.le_of_ble_eq_true rfl) dX9_call_19 ⟨Nat.le_of_ble_eq_true rfl, Nat.le_of_ble_eq_true rfl⟩ (fun H locs w hzr_7 => ?_)
      refine lv_if_ne (x := r_7) (tgt := 29) hx hb dX9_call_22 (by decide) (fun c_9 => ?_) (fun c_9 => ?_)
      · have hf := if_f hf c_9
        refine lv_aload_n hx hb dX9_call_29 rfl (lv_at hl 0 rfl) ?_
        refine lv_iload_n hx hb dX9_call_30 rfl (lv_at hl 1 rfl) ?_
        refine lv_iload_n hx hb dX9_call_31 rfl (lv_at hl 2 rfl) ?_
        obtain ⟨r_10, er_11, hf⟩ := bind1_eq hf
        refine callVI (As := [.int v1, .int v2]) (rest := []) B w (c_X9_nameOf l D ca ak av ad fi fl ar v1 v2 er_11) (gV kt5_73 kt5_75 kp2_14 kt1_11 kt5_76) hdV_X9_nameOf 0 rfl rfl rfl rfl ⟨Nat.le_of_ble_eq_true rfl, Nat.le_of_ble_eq_true rfl⟩ rfl hl.1 rfl (Nat.le_of_ble_eq_true rfl) dX9_call_32 ⟨Nat.le_of_ble_eq_true rfl, Nat.le_of_ble_eq_true rfl⟩ (fun H locs w => ?_)
        refine lv_istore (lv' := [(4, .int r_10), (0, .ref (ad 0)), (1, .int v1), (2, .int v2), (3, .int v3)]) hx hb dX9_call_35 hl (by decide) rfl (fun ls hl => ?_)
        refine lv_aload_n hx hb dX9_call_37 rfl (lv_at hl 1 rfl) ?_
        refine gfM_0_19 B w kt4_44 dX9_call_38 ?_
        refine lv_bipush (v := 6) hx hb dX9_call_41 (by decide) ?_
        refine lv_iload_n hx hb dX9_call_43 rfl (lv_at hl 2 rfl) ?_
        refine lv_imul (x := 6) (y := v1) hx hb dX9_call_44 ?_
        refine lv_iload_n hx hb dX9_call_45 rfl (lv_at hl 3 rfl) ?_
        refine lv_iadd (x := (6 * v1)) (y := v2) hx hb dX9_call_46 ?_
        refine lv_iload_n hx hb dX9_call_47 rfl (lv_at hl 4 rfl) ?_
        refine lv_iconst (v := 1) hx hb dX9_call_48 (by decide) ?_
        refine lv_icmp_ne (x := v3) (y := 1) (tgt := 56) hx hb dX9_call_49 (by decide) (fun c_12 => ?_) (fun c_12 => ?_)
        · have hf := if_f hf c_12
          refine lv_iconst (v := 0) hx hb dX9_call_56 (by decide) ?_
          obtain ⟨hi_13, hf⟩ := gd_eq hf
          refine asM_5 (x := 0) B w hi_13 dX9_call_57 (fun H locs ar_14 ear_14 w => ?_)
          have hf := bindv_eq hf ar_14 ear_14
          refine lv_iload hx hb dX9_call_58 (lv_at hl 0 rfl) ?_
          have hf : some (r_10, ar_14) = some (r0, ar0) := hf
          obtain ⟨q0, q1⟩ := so2 hf
          subst q0
          subst q1
          exact retI B hr hk w dX9_call_60
        · have hf := if_t hf c_12
          refine lv_iconst (v := 1) hx hb dX9_call_52 (by decide) ?_
          refine lv_goto (tgt := 57) hx hb dX9_call_53 (by decide) ?_
          obtain ⟨hi_15, hf⟩ := gd_eq hf
          refine asM_5 (x := 1) B w hi_15 dX9_call_57 (fun H locs ar_16 ear_16 w => ?_)
          have hf := bindv_eq hf ar_16 ear_16
          refine lv_iload hx hb dX9_call_58 (lv_at hl 0 rfl) ?_
          have hf : some (r_10, ar_16) = some (r0, ar0) := hf
          obtain ⟨q0, q1⟩ := so2 hf
          subst q0
          subst q1
          exact retI B hr hk w dX9_call_60
      · have hf := if_t hf c_9
        refine lv_sipush (v := (-1002)) hx hb dX9_call_25 (by decide) ?_
        have hf : some ((-1002), ar) = some (r0, ar0) := hf
        obtain ⟨q0, q1⟩ := so2 hf
        subst q0
        subst q1
        exact retI B hr hk w dX9_call_28
    · have hf := if_t hf c_6
      refine lv_sipush (v := (-1001)) hx hb dX9_call_14 (by decide) ?_
      have hf : some ((-1001), ar) = some (r0, ar0) := hf
      obtain ⟨q0, q1⟩ := so2 hf
      subst q0
      subst q1
      exact retI B hr hk w dX9_call_17
def f_X9_meet_126  (k62 : Int32 → Int32 → Int32 → Int32 → Int32 → (Nat → Nat → Int32) → Option (Int32 × (Nat → Nat → Int32))) (v1 : Int32) (v2 : Int32) (v3 : Int32) (v4 : Int32) (v5 : Int32) (t1 : Int32) (t2 : Int32) (ar : Nat → Nat → Int32) : Option (Int32 × (Nat → Nat → Int32)) := gd t1 36 (bindv (updA ar 5 (upd (ar 5) (Int32.toNatClampNeg t1) (vp_nar .boolean t2))) (fun ar_2 => bindv (v5 + 1 : Int32) (fun x_3 => k62 v1 v2 v3 v4 x_3 ar_2)))
def f_X9_meet_62   : Nat → (Int32) → (Int32) → (Int32) → (Int32) → (Int32) → (Nat → Nat → Int32) → Option (Int32 × (Nat → Nat → Int32))
  | 0, _, _, _, _, _, _ => none
  | n + 1, v1, v2, v3, v4, v5, ar => if (6 ≤ v5 : Prop) then (some (v4, ar)) else (bindv ((v4 ^^^ ((v3 >>> (v5 &&& 31)) &&& 1)) : Int32) (fun x_5 => bind1 (f_X9_nameOf ar v5 v1) (fun r_6 => bind1 (f_X9_nameOf ar v5 v2) (fun r_8 => bindv (f_X9_calls (ar 1 (Int32.toNatClampNeg 7)) r_6 r_8 x_5) (fun r_10 => if (r_10 = 1 : Prop) then (f_X9_meet_126 (f_X9_meet_62 n) v1 v2 v3 v4 v5 ((6 * v5) + v1) 1 ar) else (f_X9_meet_126 (f_X9_meet_62 n) v1 v2 v3 v4 v5 ((6 * v5) + v1) 0 ar))))))
def f_X9_meet (ar : Nat → Nat → Int32) (v1 : Int32) (v2 : Int32) (v3 : Int32) : Option (Int32 × (Nat → Nat → Int32)) := bindv (f_X9_isPerson v1) (fun r_13 => if (r_13 = 0 : Prop) then (some ((-1001), ar)) else (bindv (f_X9_isPerson v2) (fun r_16 => if (r_16 = 0 : Prop) then (some ((-1001), ar)) else (if (v1 = v2 : Prop) then (some ((-1001), ar)) else (bindv (f_X9_in (Int32.toInt64 v3) 0 63) (fun r_20 => if (r_20 = 0 : Prop) then (some ((-1001), ar)) else (bind1 (f_X9_nameOf ar v1 v1) (fun r_23 => bind1 (f_X9_nameOf ar v1 v2) (fun r_25 => bindv (f_X9_means (ar 1 (Int32.toNatClampNeg 6)) r_23 r_25) (fun r_27 => f_X9_meet_62  5000 v1 v2 v3 r_27 0 ar))))))))))
set_option maxHeartbeats 4000000 in
set_option maxRecDepth 100000 in
theorem c_X9_meet (l : Launch) (D : va_G) (ca : Nat → ClassId) (ak av ad : Nat → Nat) (fi : Nat → Int32) (fl : Nat → Int64) (ar : Nat → Nat → Int32) (v1 : Int32) (v2 : Int32) (v3 : Int32) {r0 : Int32} {ar0 : Nat → Nat → Int32} (hf : f_X9_meet ar v1 v2 v3 = some (r0, ar0)) : MtI l yX9_meet cX9_meet 7 { frames := 2, cells := 0, slots := 0, locals := 45 } (EM D ca ak av) [.ref (ad 0), .int v1, .int v2, .int v3] (wM ad ca fi fl ar) (wM ad ca fi fl ar0) r0 := by
  refine MtI.of (own := RX9) (by decide +kernel) rfl (Nat.le_of_ble_eq_true rfl) ?_
  intro p e s m args below meth c A B hr hk w ls hl
  have hx := B.1.1
  have hb := B.1.2.1
  have hown := B.1.2.2.2.1
  have hts := B.1.2.2.2.2
  have hl : lv_has ls 7 [(0, .ref (ad 0)), (1, .int v1), (2, .int v2), (3, .int v3)] := hl
  have J126 : ∀ (k62 : Int32 → Int32 → Int32 → Int32 → Int32 → (Nat → Nat → Int32) → Option (Int32 × (Nat → Nat → Int32))) (hk62 : ∀ (v1 : Int32) (v2 : Int32) (v3 : Int32) (v4 : Int32) (v5 : Int32) (ar : Nat → Nat → Int32) (H : Heap) (locs : List Loc) (ls : Array Slot), Wd (EM D ca ak av) A s (wM ad ca fi fl ar) H locs → lv_has ls 7 [(0, .ref (ad 0)), (1, .int v1), (2, .int v2), (3, .int v3), (4, .int v4), (5, .int v5)] → k62 v1 v2 v3 v4 v5 ar = some (r0, ar0) → W p l e ({ frames := 2, cells := 0, slots := 0, locals := 45 } : Room) s m args below meth c H locs 0 0 (MQ below (Qi (EM D ca ak av) A (wM ad ca fi fl ar0) r0) args s 0 0 A) (F0 m 62 ls [])) (v1 : Int32) (v2 : Int32) (v3 : Int32) (v4 : Int32) (v5 : Int32) (t1 : Int32) (t2 : Int32) (ar : Nat → Nat → Int32) (H : Heap) (locs : List Loc) (ls : Array Slot), Wd (EM D ca ak av) A s (wM ad ca fi fl ar) H locs → lv_has ls 7 [(0, .ref (ad 0)), (1, .int v1), (2, .int v2), (3, .int v3), (4, .int v4), (5, .int v5)] → f_X9_meet_126 k62 v1 v2 v3 v4 v5 t1 t2 ar = some (r0, ar0) → W p l e ({ frames := 2, cells := 0, slots := 0, locals := 45 } : Room) s m args below meth c H locs 0 0 (MQ below (Qi (EM D ca ak av) A (wM ad ca fi fl ar0) r0) args s 0 0 A) (F0 m 126 ls [.int t2, .int t1, .ref (ad 5)]) := by
    intro k62 hk62 v1 v2 v3 v4 v5 t1 t2 ar H locs ls w hl hf
    unfold f_X9_meet_126 at hf
    obtain ⟨hi_1, hf⟩ := gd_eq hf
    refine asM_5 (x := t2) B w hi_1 dX9_meet_126 (fun H locs ar_2 ear_2 w => ?_)
    have hf := bindv_eq hf ar_2 ear_2
    obtain ⟨x_3, ex_3⟩ : ∃ y : Int32, y = v5 + 1 := ⟨_, rfl⟩
    have hf := bindv_eq hf x_3 ex_3
    refine lv_iinc (v := x_3) (lv' := [(5, .int x_3), (0, .ref (ad 0)), (1, .int v1), (2, .int v2), (3, .int v3), (4, .int v4)]) hx hb dX9_meet_127 hl (k := 5) rfl (by rw [ex_3]; rfl) (by decide) rfl (fun ls hl => ?_)
    refine lv_goto (tgt := 62) hx hb dX9_meet_130 (by decide) ?_
    exact hk62 v1 v2 v3 v4 x_3 ar_2 H locs ls w (lv_sub hl [1, 2, 3, 4, 5, 0] rfl) hf
  have J62 : ∀ (n : Nat) (v1 : Int32) (v2 : Int32) (v3 : Int32) (v4 : Int32) (v5 : Int32) (ar : Nat → Nat → Int32) (H : Heap) (locs : List Loc) (ls : Array Slot), Wd (EM D ca ak av) A s (wM ad ca fi fl ar) H locs → lv_has ls 7 [(0, .ref (ad 0)), (1, .int v1), (2, .int v2), (3, .int v3), (4, .int v4), (5, .int v5)] → f_X9_meet_62  n v1 v2 v3 v4 v5 ar = some (r0, ar0) → W p l e ({ frames := 2, cells := 0, slots := 0, locals := 45 } : Room) s m args below meth c H locs 0 0 (MQ below (Qi (EM D ca ak av) A (wM ad ca fi fl ar0) r0) args s 0 0 A) (F0 m 62 ls []) := by
    intro  n
    induction n with
    | zero =>
      intro v1 v2 v3 v4 v5 ar H locs ls w hl hf
      cases hf
    | succ n ih =>
      intro v1 v2 v3 v4 v5 ar H locs ls w hl hf
      rw [f_X9_meet_62] at hf
      refine lv_iload hx hb dX9_meet_62 (lv_at hl 5 rfl) ?_
      refine lv_bipush (v := 6) hx hb dX9_meet_64 (by decide) ?_
      refine lv_icmp_ge (x := v5) (y := 6) (tgt := 133) hx hb dX9_meet_66 (by decide) (fun c_4 => ?_) (fun c_4 => ?_)
      · have hf := if_t hf c_4
        refine lv_iload hx hb dX9_meet_133 (lv_at hl 4 rfl) ?_
        have hf : some (v4, ar) = some (r0, ar0) := hf
        obtain ⟨q0, q1⟩ := so2 hf
        subst q0
        subst q1
        exact retI B hr hk w dX9_meet_135
      · have hf := if_f hf c_4
        refine lv_iload hx hb dX9_meet_69 (lv_at hl 4 rfl) ?_
        refine lv_iload_n hx hb dX9_meet_71 rfl (lv_at hl 3 rfl) ?_
        refine lv_iload hx hb dX9_meet_72 (lv_at hl 5 rfl) ?_
        refine lv_ishr (x := v3) (y := v5) hx hb dX9_meet_74 ?_
        refine lv_iconst (v := 1) hx hb dX9_meet_75 (by decide) ?_
        refine lv_iand (x := (v3 >>> (v5 &&& 31))) (y := 1) hx hb dX9_meet_76 ?_
        refine lv_ixor (x := v4) (y := ((v3 >>> (v5 &&& 31)) &&& 1)) hx hb dX9_meet_77 ?_
        refine lv_topi (fun x_5 ex_5 => ?_)
        have hf := bindv_eq hf x_5 ex_5
        refine lv_istore (lv' := [(6, .int x_5), (0, .ref (ad 0)), (1, .int v1), (2, .int v2), (3, .int v3), (4, .int v4), (5, .int v5)]) hx hb dX9_meet_78 hl (by decide) rfl (fun ls hl => ?_)
        refine lv_aload_n hx hb dX9_meet_80 rfl (lv_at hl 1 rfl) ?_
        refine gfM_0_19 B w kt4_44 dX9_meet_81 ?_
        refine lv_bipush (v := 6) hx hb dX9_meet_84 (by decide) ?_
        refine lv_iload hx hb dX9_meet_86 (lv_at hl 6 rfl) ?_
        refine lv_imul (x := 6) (y := v5) hx hb dX9_meet_88 ?_
        refine lv_iload_n hx hb dX9_meet_89 rfl (lv_at hl 2 rfl) ?_
        refine lv_iadd (x := (6 * v5)) (y := v1) hx hb dX9_meet_90 ?_
        refine lv_aload_n hx hb dX9_meet_91 rfl (lv_at hl 1 rfl) ?_
        refine gfM_0_0 B w kt4_25 dX9_meet_92 ?_
        refine lv_bipush (v := 7) hx hb dX9_meet_95 (by decide) ?_
        refine alM_1 B w (vp_in_iff.mpr (by decide)) dX9_meet_97 ?_
        refine lv_aload_n hx hb dX9_meet_98 rfl (lv_at hl 1 rfl) ?_
        refine lv_iload hx hb dX9_meet_99 (lv_at hl 6 rfl) ?_
        refine lv_iload_n hx hb dX9_meet_101 rfl (lv_at hl 2 rfl) ?_
        obtain ⟨r_6, er_7, hf⟩ := bind1_eq hf
        refine callVI (As := [.int v5, .int v1]) (rest := [.int (ar 1 (Int32.toNatClampNeg 7)), .int ((6 * v5) + v1), .ref (ad 5)]) B w (c_X9_nameOf l D ca ak av ad fi fl ar v5 v1 er_7) (gV kt5_73 kt5_75 kp2_14 kt1_11 kt5_76) hdV_X9_nameOf 0 rfl rfl rfl rfl ⟨Nat.le_of_ble_eq_true rfl, Nat.le_of_ble_eq_true rfl⟩ rfl hl.1 rfl (Nat.le_of_ble_eq_true rfl) dX9_meet_102 ⟨Nat.le_of_ble_eq_true rfl, Nat.le_of_ble_eq_true rfl⟩ (fun H locs w => ?_)
        refine lv_aload_n hx hb dX9_meet_105 rfl (lv_at hl 1 rfl) ?_
        refine lv_iload hx hb dX9_meet_106 (lv_at hl 6 rfl) ?_
        refine lv_iload_n hx hb dX9_meet_108 rfl (lv_at hl 3 rfl) ?_
        obtain ⟨r_8, er_9, hf⟩ := bind1_eq hf
        refine callVI (As := [.int v5, .int v2]) (rest := [.int r_6, .int (ar 1 (Int32.toNatClampNeg 7)), .int ((6 * v5) + v1), .ref (ad 5)]) B w (c_X9_nameOf l D ca ak av ad fi fl ar v5 v2 er_9) (gV kt5_73 kt5_75 kp2_14 kt1_11 kt5_76) hdV_X9_nameOf 0 rfl rfl rfl rfl ⟨Nat.le_of_ble_eq_true rfl, Nat.le_of_ble_eq_true rfl⟩ rfl hl.1 rfl (Nat.le_of_ble_eq_true rfl) dX9_meet_109 ⟨Nat.le_of_ble_eq_true rfl, Nat.le_of_ble_eq_true rfl⟩ (fun H locs w => ?_)
        refine lv_iload hx hb dX9_meet_112 (lv_at hl 0 rfl) ?_
        obtain ⟨r_10, er_11⟩ : ∃ y, f_X9_calls (ar 1 (Int32.toNatClampNeg 7)) r_6 r_8 x_5 = y := ⟨_, rfl⟩
        have hf := bindv_eq hf r_10 er_11.symm
        refine callSI (As := [.int (ar 1 (Int32.toNatClampNeg 7)), .int r_6, .int r_8, .int x_5]) (rest := [.int ((6 * v5) + v1), .ref (ad 5)]) B w (c_X9_calls l _ (ar 1 (Int32.toNatClampNeg 7)) r_6 r_8 x_5 er_11) (gS kt4_175 kt4_176 kt1_11 kt4_177) hdS_X9_calls rfl rfl ⟨Nat.le_of_ble_eq_true rfl, Nat.le_of_ble_eq_true rfl⟩ rfl hl.1 rfl (Nat.le_of_ble_eq_true rfl) dX9_meet_114 ⟨Nat.le_of_ble_eq_true rfl, Nat.le_of_ble_eq_true rfl⟩ (fun H locs w => ?_)
        refine lv_iconst (v := 1) hx hb dX9_meet_117 (by decide) ?_
        refine lv_icmp_ne (x := r_10) (y := 1) (tgt := 125) hx hb dX9_meet_118 (by decide) (fun c_12 => ?_) (fun c_12 => ?_)
        · have hf := if_f hf c_12
          refine lv_iconst (v := 0) hx hb dX9_meet_125 (by decide) ?_
          exact J126 _ ih v1 v2 v3 v4 v5 ((6 * v5) + v1) 0 ar H locs ls w (lv_sub hl [1, 2, 3, 4, 5, 6] rfl) hf
        · have hf := if_t hf c_12
          refine lv_iconst (v := 1) hx hb dX9_meet_121 (by decide) ?_
          refine lv_goto (tgt := 126) hx hb dX9_meet_122 (by decide) ?_
          exact J126 _ ih v1 v2 v3 v4 v5 ((6 * v5) + v1) 1 ar H locs ls w (lv_sub hl [1, 2, 3, 4, 5, 6] rfl) hf
  unfold f_X9_meet at hf
  refine (show ∀ (H : Heap) (locs : List Loc), Wd (EM D ca ak av) A s (wM ad ca fi fl ar) H locs → W p l e ({ frames := 2, cells := 0, slots := 0, locals := 45 } : Room) s m args below meth c H locs 0 0 (MQ below (Qi (EM D ca ak av) A (wM ad ca fi fl ar0) r0) args s 0 0 A) (F0 m 0 ls []) from ?_) s.heap [] w
  intro H locs w
  refine lv_iload_n hx hb dX9_meet_0 rfl (lv_at hl 1 rfl) ?_
  obtain ⟨r_13, er_14⟩ : ∃ y, f_X9_isPerson v1 = y := ⟨_, rfl⟩
  have hf := bindv_eq hf r_13 er_14.symm
  refine callSZ (As := [.int v1]) (rest := []) B w (c_X9_isPerson l _ v1 er_14) (gS kt5_69 kt5_70 kt1_11 kt5_71) hdS_X9_isPerson rfl rfl ⟨Nat.le_of_ble_eq_true rfl, Nat.le_of_ble_eq_true rfl⟩ rfl hl.1 rfl (Nat.le_of_ble_eq_true rfl) dX9_meet_1 ⟨Nat.le_of_ble_eq_true rfl, Nat.le_of_ble_eq_true rfl⟩ (fun H locs w hzr_13 => ?_)
  refine lv_if_eq (x := r_13) (tgt := 31) hx hb dX9_meet_4 (by decide) (fun c_15 => ?_) (fun c_15 => ?_)
  · have hf := if_t hf c_15
    refine lv_sipush (v := (-1001)) hx hb dX9_meet_31 (by decide) ?_
    have hf : some ((-1001), ar) = some (r0, ar0) := hf
    obtain ⟨q0, q1⟩ := so2 hf
    subst q0
    subst q1
    exact retI B hr hk w dX9_meet_34
  · have hf := if_f hf c_15
    refine lv_iload_n hx hb dX9_meet_7 rfl (lv_at hl 2 rfl) ?_
    obtain ⟨r_16, er_17⟩ : ∃ y, f_X9_isPerson v2 = y := ⟨_, rfl⟩
    have hf := bindv_eq hf r_16 er_17.symm
    refine callSZ (As := [.int v2]) (rest := []) B w (c_X9_isPerson l _ v2 er_17) (gS kt5_69 kt5_70 kt1_11 kt5_71) hdS_X9_isPerson rfl rfl ⟨Nat.le_of_ble_eq_true rfl, Nat.le_of_ble_eq_true rfl⟩ rfl hl.1 rfl (Nat.le_of_ble_eq_true rfl) dX9_meet_8 ⟨Nat.le_of_ble_eq_true rfl, Nat.le_of_ble_eq_true rfl⟩ (fun H locs w hzr_16 => ?_)
    refine lv_if_eq (x := r_16) (tgt := 31) hx hb dX9_meet_11 (by decide) (fun c_18 => ?_) (fun c_18 => ?_)
    · have hf := if_t hf c_18
      refine lv_sipush (v := (-1001)) hx hb dX9_meet_31 (by decide) ?_
      have hf : some ((-1001), ar) = some (r0, ar0) := hf
      obtain ⟨q0, q1⟩ := so2 hf
      subst q0
      subst q1
      exact retI B hr hk w dX9_meet_34
    · have hf := if_f hf c_18
      refine lv_iload_n hx hb dX9_meet_14 rfl (lv_at hl 1 rfl) ?_
      refine lv_iload_n hx hb dX9_meet_15 rfl (lv_at hl 2 rfl) ?_
      refine lv_icmp_eq (x := v1) (y := v2) (tgt := 31) hx hb dX9_meet_16 (by decide) (fun c_19 => ?_) (fun c_19 => ?_)
      · have hf := if_t hf c_19
        refine lv_sipush (v := (-1001)) hx hb dX9_meet_31 (by decide) ?_
        have hf : some ((-1001), ar) = some (r0, ar0) := hf
        obtain ⟨q0, q1⟩ := so2 hf
        subst q0
        subst q1
        exact retI B hr hk w dX9_meet_34
      · have hf := if_f hf c_19
        refine lv_iload_n hx hb dX9_meet_19 rfl (lv_at hl 3 rfl) ?_
        refine lv_i2l hx hb dX9_meet_20 rfl ?_
        refine lv_lconst (v := 0) hx hb dX9_meet_21 (by decide) ?_
        refine lv_ldc2 (own := RX9) (v := 63) hx hb hown (hts _ kt5_85) dX9_meet_22 ?_
        obtain ⟨r_20, er_21⟩ : ∃ y, f_X9_in (Int32.toInt64 v3) 0 63 = y := ⟨_, rfl⟩
        have hf := bindv_eq hf r_20 er_21.symm
        refine callSZ (As := [.long (Int32.toInt64 v3), .long 0, .long 63]) (rest := []) B w (c_X9_in l _ (Int32.toInt64 v3) 0 63 er_21) (gS kt4_95 kt4_96 kt1_11 kt4_97) hdS_X9_in rfl rfl ⟨Nat.le_of_ble_eq_true rfl, Nat.le_of_ble_eq_true rfl⟩ rfl hl.1 rfl (Nat.le_of_ble_eq_true rfl) dX9_meet_25 ⟨Nat.le_of_ble_eq_true rfl, Nat.le_of_ble_eq_true rfl⟩ (fun H locs w hzr_20 => ?_)
        refine lv_if_ne (x := r_20) (tgt := 35) hx hb dX9_meet_28 (by decide) (fun c_22 => ?_) (fun c_22 => ?_)
        · have hf := if_f hf c_22
          refine lv_aload_n hx hb dX9_meet_35 rfl (lv_at hl 0 rfl) ?_
          refine gfM_0_0 B w kt4_25 dX9_meet_36 ?_
          refine lv_bipush (v := 6) hx hb dX9_meet_39 (by decide) ?_
          refine alM_1 B w (vp_in_iff.mpr (by decide)) dX9_meet_41 ?_
          refine lv_aload_n hx hb dX9_meet_42 rfl (lv_at hl 0 rfl) ?_
          refine lv_iload_n hx hb dX9_meet_43 rfl (lv_at hl 1 rfl) ?_
          refine lv_iload_n hx hb dX9_meet_44 rfl (lv_at hl 1 rfl) ?_
          obtain ⟨r_23, er_24, hf⟩ := bind1_eq hf
          refine callVI (As := [.int v1, .int v1]) (rest := [.int (ar 1 (Int32.toNatClampNeg 6))]) B w (c_X9_nameOf l D ca ak av ad fi fl ar v1 v1 er_24) (gV kt5_73 kt5_75 kp2_14 kt1_11 kt5_76) hdV_X9_nameOf 0 rfl rfl rfl rfl ⟨Nat.le_of_ble_eq_true rfl, Nat.le_of_ble_eq_true rfl⟩ rfl hl.1 rfl (Nat.le_of_ble_eq_true rfl) dX9_meet_45 ⟨Nat.le_of_ble_eq_true rfl, Nat.le_of_ble_eq_true rfl⟩ (fun H locs w => ?_)
          refine lv_aload_n hx hb dX9_meet_48 rfl (lv_at hl 0 rfl) ?_
          refine lv_iload_n hx hb dX9_meet_49 rfl (lv_at hl 1 rfl) ?_
          refine lv_iload_n hx hb dX9_meet_50 rfl (lv_at hl 2 rfl) ?_
          obtain ⟨r_25, er_26, hf⟩ := bind1_eq hf
          refine callVI (As := [.int v1, .int v2]) (rest := [.int r_23, .int (ar 1 (Int32.toNatClampNeg 6))]) B w (c_X9_nameOf l D ca ak av ad fi fl ar v1 v2 er_26) (gV kt5_73 kt5_75 kp2_14 kt1_11 kt5_76) hdV_X9_nameOf 0 rfl rfl rfl rfl ⟨Nat.le_of_ble_eq_true rfl, Nat.le_of_ble_eq_true rfl⟩ rfl hl.1 rfl (Nat.le_of_ble_eq_true rfl) dX9_meet_51 ⟨Nat.le_of_ble_eq_true rfl, Nat.le_of_ble_eq_true rfl⟩ (fun H locs w => ?_)
          obtain ⟨r_27, er_28⟩ : ∃ y, f_X9_means (ar 1 (Int32.toNatClampNeg 6)) r_23 r_25 = y := ⟨_, rfl⟩
          have hf := bindv_eq hf r_27 er_28.symm
          refine callSI (As := [.int (ar 1 (Int32.toNatClampNeg 6)), .int r_23, .int r_25]) (rest := []) B w (c_X9_means l _ (ar 1 (Int32.toNatClampNeg 6)) r_23 r_25 er_28) (gS kt4_172 kt4_173 kt1_11 kt4_174) hdS_X9_means rfl rfl ⟨Nat.le_of_ble_eq_true rfl, Nat.le_of_ble_eq_true rfl⟩ rfl hl.1 rfl (Nat.le_of_ble_eq_true rfl) dX9_meet_54 ⟨Nat.le_of_ble_eq_true rfl, Nat.le_of_ble_eq_true rfl⟩ (fun H locs w => ?_)
          refine lv_istore (lv' := [(4, .int r_27), (0, .ref (ad 0)), (1, .int v1), (2, .int v2), (3, .int v3)]) hx hb dX9_meet_57 hl (by decide) rfl (fun ls hl => ?_)
          refine lv_iconst (v := 0) hx hb dX9_meet_59 (by decide) ?_
          refine lv_istore (lv' := [(5, .int 0), (4, .int r_27), (0, .ref (ad 0)), (1, .int v1), (2, .int v2), (3, .int v3)]) hx hb dX9_meet_60 hl (by decide) rfl (fun ls hl => ?_)
          exact J62  5000 v1 v2 v3 r_27 0 ar H locs ls w (lv_sub hl [2, 3, 4, 5, 1, 0] rfl) hf
        · have hf := if_t hf c_22
          refine lv_sipush (v := (-1001)) hx hb dX9_meet_31 (by decide) ?_
          have hf : some ((-1001), ar) = some (r0, ar0) := hf
          obtain ⟨q0, q1⟩ := so2 hf
          subst q0
          subst q1
          exact retI B hr hk w dX9_meet_34
def f_X9_kin (ar : Nat → Nat → Int32) (v1 : Int32) (v2 : Int32) : Option (Int32 × (Nat → Nat → Int32)) := bindv (f_X9_isPerson v1) (fun r_1 => if (r_1 = 0 : Prop) then (some ((-1001), ar)) else (bindv (f_X9_in (Int32.toInt64 v2) 0 63) (fun r_4 => if (r_4 = 0 : Prop) then (some ((-1001), ar)) else (if (((v2 >>> (v1 &&& 31)) &&& 1) = 1 : Prop) then (some ((-1001), ar)) else (gd v1 6 (bindv ((ar 6 (Int32.toNatClampNeg v1)) : Int32) (fun x_9 => gd v1 6 (bindv (updA ar 6 (upd (ar 6) (Int32.toNatClampNeg v1) v2)) (fun ar_11 => some (x_9, ar_11))))))))))
set_option maxHeartbeats 4000000 in
set_option maxRecDepth 100000 in
theorem c_X9_kin (l : Launch) (D : va_G) (ca : Nat → ClassId) (ak av ad : Nat → Nat) (fi : Nat → Int32) (fl : Nat → Int64) (ar : Nat → Nat → Int32) (v1 : Int32) (v2 : Int32) {r0 : Int32} {ar0 : Nat → Nat → Int32} (hf : f_X9_kin ar v1 v2 = some (r0, ar0)) : MtI l yX9_kin cX9_kin 4 { frames := 2, cells := 0, slots := 0, locals := 45 } (EM D ca ak av) [.ref (ad 0), .int v1, .int v2] (wM ad ca fi fl ar) (wM ad ca fi fl ar0) r0 := by
  refine MtI.of (own := RX9) (by decide +kernel) rfl (Nat.le_of_ble_eq_true rfl) ?_
  intro p e s m args below meth c A B hr hk w ls hl
  have hx := B.1.1
  have hb := B.1.2.1
  have hown := B.1.2.2.2.1
  have hts := B.1.2.2.2.2
  have hl : lv_has ls 4 [(0, .ref (ad 0)), (1, .int v1), (2, .int v2)] := hl
  unfold f_X9_kin at hf
  refine (show ∀ (H : Heap) (locs : List Loc), Wd (EM D ca ak av) A s (wM ad ca fi fl ar) H locs → W p l e ({ frames := 2, cells := 0, slots := 0, locals := 45 } : Room) s m args below meth c H locs 0 0 (MQ below (Qi (EM D ca ak av) A (wM ad ca fi fl ar0) r0) args s 0 0 A) (F0 m 0 ls []) from ?_) s.heap [] w
  intro H locs w
  refine lv_iload_n hx hb dX9_kin_0 rfl (lv_at hl 1 rfl) ?_
  obtain ⟨r_1, er_2⟩ : ∃ y, f_X9_isPerson v1 = y := ⟨_, rfl⟩
  have hf := bindv_eq hf r_1 er_2.symm
  refine callSZ (As := [.int v1]) (rest := []) B w (c_X9_isPerson l _ v1 er_2) (gS kt5_69 kt5_70 kt1_11 kt5_71) hdS_X9_isPerson rfl rfl ⟨Nat.le_of_ble_eq_true rfl, Nat.le_of_ble_eq_true rfl⟩ rfl hl.1 rfl (Nat.le_of_ble_eq_true rfl) dX9_kin_1 ⟨Nat.le_of_ble_eq_true rfl, Nat.le_of_ble_eq_true rfl⟩ (fun H locs w hzr_1 => ?_)
  refine lv_if_eq (x := r_1) (tgt := 28) hx hb dX9_kin_4 (by decide) (fun c_3 => ?_) (fun c_3 => ?_)
  · have hf := if_t hf c_3
    refine lv_sipush (v := (-1001)) hx hb dX9_kin_28 (by decide) ?_
    have hf : some ((-1001), ar) = some (r0, ar0) := hf
    obtain ⟨q0, q1⟩ := so2 hf
    subst q0
    subst q1
    exact retI B hr hk w dX9_kin_31
  · have hf := if_f hf c_3
    refine lv_iload_n hx hb dX9_kin_7 rfl (lv_at hl 2 rfl) ?_
    refine lv_i2l hx hb dX9_kin_8 rfl ?_
    refine lv_lconst (v := 0) hx hb dX9_kin_9 (by decide) ?_
    refine lv_ldc2 (own := RX9) (v := 63) hx hb hown (hts _ kt5_85) dX9_kin_10 ?_
    obtain ⟨r_4, er_5⟩ : ∃ y, f_X9_in (Int32.toInt64 v2) 0 63 = y := ⟨_, rfl⟩
    have hf := bindv_eq hf r_4 er_5.symm
    refine callSZ (As := [.long (Int32.toInt64 v2), .long 0, .long 63]) (rest := []) B w (c_X9_in l _ (Int32.toInt64 v2) 0 63 er_5) (gS kt4_95 kt4_96 kt1_11 kt4_97) hdS_X9_in rfl rfl ⟨Nat.le_of_ble_eq_true rfl, Nat.le_of_ble_eq_true rfl⟩ rfl hl.1 rfl (Nat.le_of_ble_eq_true rfl) dX9_kin_13 ⟨Nat.le_of_ble_eq_true rfl, Nat.le_of_ble_eq_true rfl⟩ (fun H locs w hzr_4 => ?_)
    refine lv_if_eq (x := r_4) (tgt := 28) hx hb dX9_kin_16 (by decide) (fun c_6 => ?_) (fun c_6 => ?_)
    · have hf := if_t hf c_6
      refine lv_sipush (v := (-1001)) hx hb dX9_kin_28 (by decide) ?_
      have hf : some ((-1001), ar) = some (r0, ar0) := hf
      obtain ⟨q0, q1⟩ := so2 hf
      subst q0
      subst q1
      exact retI B hr hk w dX9_kin_31
    · have hf := if_f hf c_6
      refine lv_iload_n hx hb dX9_kin_19 rfl (lv_at hl 2 rfl) ?_
      refine lv_iload_n hx hb dX9_kin_20 rfl (lv_at hl 1 rfl) ?_
      refine lv_ishr (x := v2) (y := v1) hx hb dX9_kin_21 ?_
      refine lv_iconst (v := 1) hx hb dX9_kin_22 (by decide) ?_
      refine lv_iand (x := (v2 >>> (v1 &&& 31))) (y := 1) hx hb dX9_kin_23 ?_
      refine lv_iconst (v := 1) hx hb dX9_kin_24 (by decide) ?_
      refine lv_icmp_ne (x := ((v2 >>> (v1 &&& 31)) &&& 1)) (y := 1) (tgt := 32) hx hb dX9_kin_25 (by decide) (fun c_7 => ?_) (fun c_7 => ?_)
      · have hf := if_f hf c_7
        refine lv_aload_n hx hb dX9_kin_32 rfl (lv_at hl 0 rfl) ?_
        refine gfM_0_20 B w kt4_45 dX9_kin_33 ?_
        refine lv_iload_n hx hb dX9_kin_36 rfl (lv_at hl 1 rfl) ?_
        obtain ⟨hi_8, hf⟩ := gd_eq hf
        refine alM_6 B w hi_8 dX9_kin_37 ?_
        refine lv_topi (fun x_9 ex_9 => ?_)
        have hf := bindv_eq hf x_9 ex_9
        refine lv_istore_n (lv' := [(3, .int x_9), (0, .ref (ad 0)), (1, .int v1), (2, .int v2)]) hx hb dX9_kin_38 rfl hl (by decide) rfl (fun ls hl => ?_)
        refine lv_aload_n hx hb dX9_kin_39 rfl (lv_at hl 1 rfl) ?_
        refine gfM_0_20 B w kt4_45 dX9_kin_40 ?_
        refine lv_iload_n hx hb dX9_kin_43 rfl (lv_at hl 2 rfl) ?_
        refine lv_iload_n hx hb dX9_kin_44 rfl (lv_at hl 3 rfl) ?_
        obtain ⟨hi_10, hf⟩ := gd_eq hf
        refine asM_6 (x := v2) B w hi_10 dX9_kin_45 (fun H locs ar_11 ear_11 w => ?_)
        have hf := bindv_eq hf ar_11 ear_11
        refine lv_iload_n hx hb dX9_kin_46 rfl (lv_at hl 0 rfl) ?_
        have hf : some (x_9, ar_11) = some (r0, ar0) := hf
        obtain ⟨q0, q1⟩ := so2 hf
        subst q0
        subst q1
        exact retI B hr hk w dX9_kin_47
      · have hf := if_t hf c_7
        refine lv_sipush (v := (-1001)) hx hb dX9_kin_28 (by decide) ?_
        have hf : some ((-1001), ar) = some (r0, ar0) := hf
        obtain ⟨q0, q1⟩ := so2 hf
        subst q0
        subst q1
        exact retI B hr hk w dX9_kin_31
def f_X9_talk_118  (k28 : Int32 → Int32 → Int32 → Int32 → (Nat → Nat → Int32) → Option (Int32 × (Nat → Nat → Int32))) (v1 : Int32) (v2 : Int32) (v3 : Int32) (v4 : Int32) (ar : Nat → Nat → Int32) : Option (Int32 × (Nat → Nat → Int32)) := bindv (v4 + 1 : Int32) (fun x_1 => k28 v1 v2 v3 x_1 ar)
def f_X9_talk_70  (k28 : Int32 → Int32 → Int32 → Int32 → (Nat → Nat → Int32) → Option (Int32 × (Nat → Nat → Int32))) (v1 : Int32) (v2 : Int32) (v3 : Int32) (v4 : Int32) (t0 : Int32) (ar : Nat → Nat → Int32) : Option (Int32 × (Nat → Nat → Int32)) := if (v4 = v1 : Prop) then (f_X9_talk_118 k28 v1 v2 v3 v4 ar) else (if (v4 = v2 : Prop) then (f_X9_talk_118 k28 v1 v2 v3 v4 ar) else (gd ((6 * v2) + v4) 36 (if (t0 = (ar 5 (Int32.toNatClampNeg ((6 * v2) + v4))) : Prop) then (f_X9_talk_118 k28 v1 v2 v3 v4 ar) else (gd ((6 * v2) + v4) 36 (bindv (updA ar 5 (upd (ar 5) (Int32.toNatClampNeg ((6 * v2) + v4)) (vp_nar .boolean t0))) (fun ar_7 => bindv (v3 + 1 : Int32) (fun x_8 => f_X9_talk_118 k28 v1 v2 x_8 v4 ar_7)))))))
def f_X9_talk_65  (k28 : Int32 → Int32 → Int32 → Int32 → (Nat → Nat → Int32) → Option (Int32 × (Nat → Nat → Int32))) (v1 : Int32) (v2 : Int32) (v3 : Int32) (v4 : Int32) (ar : Nat → Nat → Int32) : Option (Int32 × (Nat → Nat → Int32)) := f_X9_talk_70 k28 v1 v2 v3 v4 1 ar
def f_X9_talk_28   : Nat → (Int32) → (Int32) → (Int32) → (Int32) → (Nat → Nat → Int32) → Option (Int32 × (Nat → Nat → Int32))
  | 0, _, _, _, _, _ => none
  | n + 1, v1, v2, v3, v4, ar => if (6 ≤ v4 : Prop) then (some (v3, ar)) else (gd v1 6 (if ((((ar 6 (Int32.toNatClampNeg v1)) >>> (v4 &&& 31)) &&& 1) = 1 : Prop) then (f_X9_talk_65 (f_X9_talk_28 n) v1 v2 v3 v4 ar) else (gd ((6 * v1) + v4) 36 (if ((ar 5 (Int32.toNatClampNeg ((6 * v1) + v4))) = 0 : Prop) then (f_X9_talk_70 (f_X9_talk_28 n) v1 v2 v3 v4 0 ar) else (f_X9_talk_65 (f_X9_talk_28 n) v1 v2 v3 v4 ar)))))
def f_X9_talk (ar : Nat → Nat → Int32) (v1 : Int32) (v2 : Int32) : Option (Int32 × (Nat → Nat → Int32)) := bindv (f_X9_isPerson v1) (fun r_14 => if (r_14 = 0 : Prop) then (some ((-1001), ar)) else (bindv (f_X9_isPerson v2) (fun r_17 => if (r_17 = 0 : Prop) then (some ((-1001), ar)) else (if (v1 = v2 : Prop) then (some ((-1001), ar)) else (f_X9_talk_28  5000 v1 v2 0 0 ar)))))
set_option maxHeartbeats 4000000 in
set_option maxRecDepth 100000 in
theorem c_X9_talk (l : Launch) (D : va_G) (ca : Nat → ClassId) (ak av ad : Nat → Nat) (fi : Nat → Int32) (fl : Nat → Int64) (ar : Nat → Nat → Int32) (v1 : Int32) (v2 : Int32) {r0 : Int32} {ar0 : Nat → Nat → Int32} (hf : f_X9_talk ar v1 v2 = some (r0, ar0)) : MtI l yX9_talk cX9_talk 6 { frames := 2, cells := 0, slots := 0, locals := 45 } (EM D ca ak av) [.ref (ad 0), .int v1, .int v2] (wM ad ca fi fl ar) (wM ad ca fi fl ar0) r0 := by
  refine MtI.of (own := RX9) (by decide +kernel) rfl (Nat.le_of_ble_eq_true rfl) ?_
  intro p e s m args below meth c A B hr hk w ls hl
  have hx := B.1.1
  have hb := B.1.2.1
  have hown := B.1.2.2.2.1
  have hts := B.1.2.2.2.2
  have hl : lv_has ls 6 [(0, .ref (ad 0)), (1, .int v1), (2, .int v2)] := hl
  have J118 : ∀ (k28 : Int32 → Int32 → Int32 → Int32 → (Nat → Nat → Int32) → Option (Int32 × (Nat → Nat → Int32))) (hk28 : ∀ (v1 : Int32) (v2 : Int32) (v3 : Int32) (v4 : Int32) (ar : Nat → Nat → Int32) (H : Heap) (locs : List Loc) (ls : Array Slot), Wd (EM D ca ak av) A s (wM ad ca fi fl ar) H locs → lv_has ls 6 [(0, .ref (ad 0)), (1, .int v1), (2, .int v2), (3, .int v3), (4, .int v4)] → k28 v1 v2 v3 v4 ar = some (r0, ar0) → W p l e ({ frames := 2, cells := 0, slots := 0, locals := 45 } : Room) s m args below meth c H locs 0 0 (MQ below (Qi (EM D ca ak av) A (wM ad ca fi fl ar0) r0) args s 0 0 A) (F0 m 28 ls [])) (v1 : Int32) (v2 : Int32) (v3 : Int32) (v4 : Int32) (ar : Nat → Nat → Int32) (H : Heap) (locs : List Loc) (ls : Array Slot), Wd (EM D ca ak av) A s (wM ad ca fi fl ar) H locs → lv_has ls 6 [(0, .ref (ad 0)), (1, .int v1), (2, .int v2), (3, .int v3), (4, .int v4)] → f_X9_talk_118 k28 v1 v2 v3 v4 ar = some (r0, ar0) → W p l e ({ frames := 2, cells := 0, slots := 0, locals := 45 } : Room) s m args below meth c H locs 0 0 (MQ below (Qi (EM D ca ak av) A (wM ad ca fi fl ar0) r0) args s 0 0 A) (F0 m 118 ls []) := by
    intro k28 hk28 v1 v2 v3 v4 ar H locs ls w hl hf
    unfold f_X9_talk_118 at hf
    obtain ⟨x_1, ex_1⟩ : ∃ y : Int32, y = v4 + 1 := ⟨_, rfl⟩
    have hf := bindv_eq hf x_1 ex_1
    refine lv_iinc (v := x_1) (lv' := [(4, .int x_1), (0, .ref (ad 0)), (1, .int v1), (2, .int v2), (3, .int v3)]) hx hb dX9_talk_118 hl (k := 4) rfl (by rw [ex_1]; rfl) (by decide) rfl (fun ls hl => ?_)
    refine lv_goto (tgt := 28) hx hb dX9_talk_121 (by decide) ?_
    exact hk28 v1 v2 v3 x_1 ar H locs ls w (lv_sub hl [1, 2, 3, 4, 0] rfl) hf
  have J70 : ∀ (k28 : Int32 → Int32 → Int32 → Int32 → (Nat → Nat → Int32) → Option (Int32 × (Nat → Nat → Int32))) (hk28 : ∀ (v1 : Int32) (v2 : Int32) (v3 : Int32) (v4 : Int32) (ar : Nat → Nat → Int32) (H : Heap) (locs : List Loc) (ls : Array Slot), Wd (EM D ca ak av) A s (wM ad ca fi fl ar) H locs → lv_has ls 6 [(0, .ref (ad 0)), (1, .int v1), (2, .int v2), (3, .int v3), (4, .int v4)] → k28 v1 v2 v3 v4 ar = some (r0, ar0) → W p l e ({ frames := 2, cells := 0, slots := 0, locals := 45 } : Room) s m args below meth c H locs 0 0 (MQ below (Qi (EM D ca ak av) A (wM ad ca fi fl ar0) r0) args s 0 0 A) (F0 m 28 ls [])) (v1 : Int32) (v2 : Int32) (v3 : Int32) (v4 : Int32) (t0 : Int32) (ar : Nat → Nat → Int32) (H : Heap) (locs : List Loc) (ls : Array Slot), Wd (EM D ca ak av) A s (wM ad ca fi fl ar) H locs → lv_has ls 6 [(0, .ref (ad 0)), (1, .int v1), (2, .int v2), (3, .int v3), (4, .int v4)] → f_X9_talk_70 k28 v1 v2 v3 v4 t0 ar = some (r0, ar0) → W p l e ({ frames := 2, cells := 0, slots := 0, locals := 45 } : Room) s m args below meth c H locs 0 0 (MQ below (Qi (EM D ca ak av) A (wM ad ca fi fl ar0) r0) args s 0 0 A) (F0 m 70 ls [.int t0]) := by
    intro k28 hk28 v1 v2 v3 v4 t0 ar H locs ls w hl hf
    unfold f_X9_talk_70 at hf
    refine lv_istore (lv' := [(5, .int t0), (0, .ref (ad 0)), (1, .int v1), (2, .int v2), (3, .int v3), (4, .int v4)]) hx hb dX9_talk_70 hl (by decide) rfl (fun ls hl => ?_)
    refine lv_iload hx hb dX9_talk_72 (lv_at hl 5 rfl) ?_
    refine lv_iload_n hx hb dX9_talk_74 rfl (lv_at hl 2 rfl) ?_
    refine lv_icmp_eq (x := v4) (y := v1) (tgt := 118) hx hb dX9_talk_75 (by decide) (fun c_2 => ?_) (fun c_2 => ?_)
    · have hf := if_t hf c_2
      exact J118 _ hk28 v1 v2 v3 v4 ar H locs ls w (lv_sub hl [1, 2, 3, 4, 5] rfl) hf
    · have hf := if_f hf c_2
      refine lv_iload hx hb dX9_talk_78 (lv_at hl 5 rfl) ?_
      refine lv_iload_n hx hb dX9_talk_80 rfl (lv_at hl 3 rfl) ?_
      refine lv_icmp_eq (x := v4) (y := v2) (tgt := 118) hx hb dX9_talk_81 (by decide) (fun c_3 => ?_) (fun c_3 => ?_)
      · have hf := if_t hf c_3
        exact J118 _ hk28 v1 v2 v3 v4 ar H locs ls w (lv_sub hl [1, 2, 3, 4, 5] rfl) hf
      · have hf := if_f hf c_3
        refine lv_iload hx hb dX9_talk_84 (lv_at hl 0 rfl) ?_
        refine lv_aload_n hx hb dX9_talk_86 rfl (lv_at hl 1 rfl) ?_
        refine gfM_0_19 B w kt4_44 dX9_talk_87 ?_
        refine lv_bipush (v := 6) hx hb dX9_talk_90 (by decide) ?_
        refine lv_iload_n hx hb dX9_talk_92 rfl (lv_at hl 3 rfl) ?_
        refine lv_imul (x := 6) (y := v2) hx hb dX9_talk_93 ?_
        refine lv_iload hx hb dX9_talk_94 (lv_at hl 5 rfl) ?_
        refine lv_iadd (x := (6 * v2)) (y := v4) hx hb dX9_talk_96 ?_
        obtain ⟨hi_4, hf⟩ := gd_eq hf
        refine alM_5 B w hi_4 dX9_talk_97 ?_
        refine lv_icmp_eq (x := t0) (y := (ar 5 (Int32.toNatClampNeg ((6 * v2) + v4)))) (tgt := 118) hx hb dX9_talk_98 (by decide) (fun c_5 => ?_) (fun c_5 => ?_)
        · have hf := if_t hf c_5
          exact J118 _ hk28 v1 v2 v3 v4 ar H locs ls w (lv_sub hl [1, 2, 3, 4, 5] rfl) hf
        · have hf := if_f hf c_5
          refine lv_aload_n hx hb dX9_talk_101 rfl (lv_at hl 1 rfl) ?_
          refine gfM_0_19 B w kt4_44 dX9_talk_102 ?_
          refine lv_bipush (v := 6) hx hb dX9_talk_105 (by decide) ?_
          refine lv_iload_n hx hb dX9_talk_107 rfl (lv_at hl 3 rfl) ?_
          refine lv_imul (x := 6) (y := v2) hx hb dX9_talk_108 ?_
          refine lv_iload hx hb dX9_talk_109 (lv_at hl 5 rfl) ?_
          refine lv_iadd (x := (6 * v2)) (y := v4) hx hb dX9_talk_111 ?_
          refine lv_iload hx hb dX9_talk_112 (lv_at hl 0 rfl) ?_
          obtain ⟨hi_6, hf⟩ := gd_eq hf
          refine asM_5 (x := t0) B w hi_6 dX9_talk_114 (fun H locs ar_7 ear_7 w => ?_)
          have hf := bindv_eq hf ar_7 ear_7
          obtain ⟨x_8, ex_8⟩ : ∃ y : Int32, y = v3 + 1 := ⟨_, rfl⟩
          have hf := bindv_eq hf x_8 ex_8
          refine lv_iinc (v := x_8) (lv' := [(3, .int x_8), (5, .int t0), (0, .ref (ad 0)), (1, .int v1), (2, .int v2), (4, .int v4)]) hx hb dX9_talk_115 hl (k := 4) rfl (by rw [ex_8]; rfl) (by decide) rfl (fun ls hl => ?_)
          exact J118 _ hk28 v1 v2 x_8 v4 ar_7 H locs ls w (lv_sub hl [2, 3, 4, 0, 5] rfl) hf
  have J65 : ∀ (k28 : Int32 → Int32 → Int32 → Int32 → (Nat → Nat → Int32) → Option (Int32 × (Nat → Nat → Int32))) (hk28 : ∀ (v1 : Int32) (v2 : Int32) (v3 : Int32) (v4 : Int32) (ar : Nat → Nat → Int32) (H : Heap) (locs : List Loc) (ls : Array Slot), Wd (EM D ca ak av) A s (wM ad ca fi fl ar) H locs → lv_has ls 6 [(0, .ref (ad 0)), (1, .int v1), (2, .int v2), (3, .int v3), (4, .int v4)] → k28 v1 v2 v3 v4 ar = some (r0, ar0) → W p l e ({ frames := 2, cells := 0, slots := 0, locals := 45 } : Room) s m args below meth c H locs 0 0 (MQ below (Qi (EM D ca ak av) A (wM ad ca fi fl ar0) r0) args s 0 0 A) (F0 m 28 ls [])) (v1 : Int32) (v2 : Int32) (v3 : Int32) (v4 : Int32) (ar : Nat → Nat → Int32) (H : Heap) (locs : List Loc) (ls : Array Slot), Wd (EM D ca ak av) A s (wM ad ca fi fl ar) H locs → lv_has ls 6 [(0, .ref (ad 0)), (1, .int v1), (2, .int v2), (3, .int v3), (4, .int v4)] → f_X9_talk_65 k28 v1 v2 v3 v4 ar = some (r0, ar0) → W p l e ({ frames := 2, cells := 0, slots := 0, locals := 45 } : Room) s m args below meth c H locs 0 0 (MQ below (Qi (EM D ca ak av) A (wM ad ca fi fl ar0) r0) args s 0 0 A) (F0 m 65 ls []) := by
    intro k28 hk28 v1 v2 v3 v4 ar H locs ls w hl hf
    unfold f_X9_talk_65 at hf
    refine lv_iconst (v := 1) hx hb dX9_talk_65 (by decide) ?_
    refine lv_goto (tgt := 70) hx hb dX9_talk_66 (by decide) ?_
    exact J70 _ hk28 v1 v2 v3 v4 1 ar H locs ls w (lv_sub hl [0, 1, 2, 3, 4] rfl) hf
  have J28 : ∀ (n : Nat) (v1 : Int32) (v2 : Int32) (v3 : Int32) (v4 : Int32) (ar : Nat → Nat → Int32) (H : Heap) (locs : List Loc) (ls : Array Slot), Wd (EM D ca ak av) A s (wM ad ca fi fl ar) H locs → lv_has ls 6 [(0, .ref (ad 0)), (1, .int v1), (2, .int v2), (3, .int v3), (4, .int v4)] → f_X9_talk_28  n v1 v2 v3 v4 ar = some (r0, ar0) → W p l e ({ frames := 2, cells := 0, slots := 0, locals := 45 } : Room) s m args below meth c H locs 0 0 (MQ below (Qi (EM D ca ak av) A (wM ad ca fi fl ar0) r0) args s 0 0 A) (F0 m 28 ls []) := by
    intro  n
    induction n with
    | zero =>
      intro v1 v2 v3 v4 ar H locs ls w hl hf
      cases hf
    | succ n ih =>
      intro v1 v2 v3 v4 ar H locs ls w hl hf
      rw [f_X9_talk_28] at hf
      refine lv_iload hx hb dX9_talk_28 (lv_at hl 4 rfl) ?_
      refine lv_bipush (v := 6) hx hb dX9_talk_30 (by decide) ?_
      refine lv_icmp_ge (x := v4) (y := 6) (tgt := 124) hx hb dX9_talk_32 (by decide) (fun c_9 => ?_) (fun c_9 => ?_)
      · have hf := if_t hf c_9
        refine lv_iload_n hx hb dX9_talk_124 rfl (lv_at hl 3 rfl) ?_
        have hf : some (v3, ar) = some (r0, ar0) := hf
        obtain ⟨q0, q1⟩ := so2 hf
        subst q0
        subst q1
        exact retI B hr hk w dX9_talk_125
      · have hf := if_f hf c_9
        refine lv_aload_n hx hb dX9_talk_35 rfl (lv_at hl 0 rfl) ?_
        refine gfM_0_20 B w kt4_45 dX9_talk_36 ?_
        refine lv_iload_n hx hb dX9_talk_39 rfl (lv_at hl 1 rfl) ?_
        obtain ⟨hi_10, hf⟩ := gd_eq hf
        refine alM_6 B w hi_10 dX9_talk_40 ?_
        refine lv_iload hx hb dX9_talk_41 (lv_at hl 4 rfl) ?_
        refine lv_ishr (x := (ar 6 (Int32.toNatClampNeg v1))) (y := v4) hx hb dX9_talk_43 ?_
        refine lv_iconst (v := 1) hx hb dX9_talk_44 (by decide) ?_
        refine lv_iand (x := ((ar 6 (Int32.toNatClampNeg v1)) >>> (v4 &&& 31))) (y := 1) hx hb dX9_talk_45 ?_
        refine lv_iconst (v := 1) hx hb dX9_talk_46 (by decide) ?_
        refine lv_icmp_eq (x := (((ar 6 (Int32.toNatClampNeg v1)) >>> (v4 &&& 31)) &&& 1)) (y := 1) (tgt := 65) hx hb dX9_talk_47 (by decide) (fun c_11 => ?_) (fun c_11 => ?_)
        · have hf := if_t hf c_11
          exact J65 _ ih v1 v2 v3 v4 ar H locs ls w (lv_sub hl [0, 1, 2, 3, 4] rfl) hf
        · have hf := if_f hf c_11
          refine lv_aload_n hx hb dX9_talk_50 rfl (lv_at hl 0 rfl) ?_
          refine gfM_0_19 B w kt4_44 dX9_talk_51 ?_
          refine lv_bipush (v := 6) hx hb dX9_talk_54 (by decide) ?_
          refine lv_iload_n hx hb dX9_talk_56 rfl (lv_at hl 1 rfl) ?_
          refine lv_imul (x := 6) (y := v1) hx hb dX9_talk_57 ?_
          refine lv_iload hx hb dX9_talk_58 (lv_at hl 4 rfl) ?_
          refine lv_iadd (x := (6 * v1)) (y := v4) hx hb dX9_talk_60 ?_
          obtain ⟨hi_12, hf⟩ := gd_eq hf
          refine alM_5 B w hi_12 dX9_talk_61 ?_
          refine lv_if_eq (x := (ar 5 (Int32.toNatClampNeg ((6 * v1) + v4)))) (tgt := 69) hx hb dX9_talk_62 (by decide) (fun c_13 => ?_) (fun c_13 => ?_)
          · have hf := if_t hf c_13
            refine lv_iconst (v := 0) hx hb dX9_talk_69 (by decide) ?_
            exact J70 _ ih v1 v2 v3 v4 0 ar H locs ls w (lv_sub hl [0, 1, 2, 3, 4] rfl) hf
          · have hf := if_f hf c_13
            exact J65 _ ih v1 v2 v3 v4 ar H locs ls w (lv_sub hl [0, 1, 2, 3, 4] rfl) hf
  unfold f_X9_talk at hf
  refine (show ∀ (H : Heap) (locs : List Loc), Wd (EM D ca ak av) A s (wM ad ca fi fl ar) H locs → W p l e ({ frames := 2, cells := 0, slots := 0, locals := 45 } : Room) s m args below meth c H locs 0 0 (MQ below (Qi (EM D ca ak av) A (wM ad ca fi fl ar0) r0) args s 0 0 A) (F0 m 0 ls []) from ?_) s.heap [] w
  intro H locs w
  refine lv_iload_n hx hb dX9_talk_0 rfl (lv_at hl 1 rfl) ?_
  obtain ⟨r_14, er_15⟩ : ∃ y, f_X9_isPerson v1 = y := ⟨_, rfl⟩
  have hf := bindv_eq hf r_14 er_15.symm
  refine callSZ (As := [.int v1]) (rest := []) B w (c_X9_isPerson l _ v1 er_15) (gS kt5_69 kt5_70 kt1_11 kt5_71) hdS_X9_isPerson rfl rfl ⟨Nat.le_of_ble_eq_true rfl, Nat.le_of_ble_eq_true rfl⟩ rfl hl.1 rfl (Nat.le_of_ble_eq_true rfl) dX9_talk_1 ⟨Nat.le_of_ble_eq_true rfl, Nat.le_of_ble_eq_true rfl⟩ (fun H locs w hzr_14 => ?_)
  refine lv_if_eq (x := r_14) (tgt := 19) hx hb dX9_talk_4 (by decide) (fun c_16 => ?_) (fun c_16 => ?_)
  · have hf := if_t hf c_16
    refine lv_sipush (v := (-1001)) hx hb dX9_talk_19 (by decide) ?_
    have hf : some ((-1001), ar) = some (r0, ar0) := hf
    obtain ⟨q0, q1⟩ := so2 hf
    subst q0
    subst q1
    exact retI B hr hk w dX9_talk_22
  · have hf := if_f hf c_16
    refine lv_iload_n hx hb dX9_talk_7 rfl (lv_at hl 2 rfl) ?_
    obtain ⟨r_17, er_18⟩ : ∃ y, f_X9_isPerson v2 = y := ⟨_, rfl⟩
    have hf := bindv_eq hf r_17 er_18.symm
    refine callSZ (As := [.int v2]) (rest := []) B w (c_X9_isPerson l _ v2 er_18) (gS kt5_69 kt5_70 kt1_11 kt5_71) hdS_X9_isPerson rfl rfl ⟨Nat.le_of_ble_eq_true rfl, Nat.le_of_ble_eq_true rfl⟩ rfl hl.1 rfl (Nat.le_of_ble_eq_true rfl) dX9_talk_8 ⟨Nat.le_of_ble_eq_true rfl, Nat.le_of_ble_eq_true rfl⟩ (fun H locs w hzr_17 => ?_)
    refine lv_if_eq (x := r_17) (tgt := 19) hx hb dX9_talk_11 (by decide) (fun c_19 => ?_) (fun c_19 => ?_)
    · have hf := if_t hf c_19
      refine lv_sipush (v := (-1001)) hx hb dX9_talk_19 (by decide) ?_
      have hf : some ((-1001), ar) = some (r0, ar0) := hf
      obtain ⟨q0, q1⟩ := so2 hf
      subst q0
      subst q1
      exact retI B hr hk w dX9_talk_22
    · have hf := if_f hf c_19
      refine lv_iload_n hx hb dX9_talk_14 rfl (lv_at hl 1 rfl) ?_
      refine lv_iload_n hx hb dX9_talk_15 rfl (lv_at hl 2 rfl) ?_
      refine lv_icmp_ne (x := v1) (y := v2) (tgt := 23) hx hb dX9_talk_16 (by decide) (fun c_20 => ?_) (fun c_20 => ?_)
      · have hf := if_f hf c_20
        refine lv_iconst (v := 0) hx hb dX9_talk_23 (by decide) ?_
        refine lv_istore_n (lv' := [(3, .int 0), (0, .ref (ad 0)), (1, .int v1), (2, .int v2)]) hx hb dX9_talk_24 rfl hl (by decide) rfl (fun ls hl => ?_)
        refine lv_iconst (v := 0) hx hb dX9_talk_25 (by decide) ?_
        refine lv_istore (lv' := [(4, .int 0), (3, .int 0), (0, .ref (ad 0)), (1, .int v1), (2, .int v2)]) hx hb dX9_talk_26 hl (by decide) rfl (fun ls hl => ?_)
        exact J28  5000 v1 v2 0 0 ar H locs ls w (lv_sub hl [2, 3, 4, 1, 0] rfl) hf
      · have hf := if_t hf c_20
        refine lv_sipush (v := (-1001)) hx hb dX9_talk_19 (by decide) ?_
        have hf : some ((-1001), ar) = some (r0, ar0) := hf
        obtain ⟨q0, q1⟩ := so2 hf
        subst q0
        subst q1
        exact retI B hr hk w dX9_talk_22
def f_X9_agreed_151 (ar : Nat → Nat → Int32) (k26 : Int32 → Int32 → Int32 → Int32 → Int32 → Option (Int32)) (v1 : Int32) (v2 : Int32) (v3 : Int32) (v5 : Int32) (t0 : Int32) (t1 : Int32) : Option (Int32) := bindv (f_X9_one t1) (fun r_1 => bindv ((t0 + r_1) : Int32) (fun x_3 => bindv (v5 + 1 : Int32) (fun x_4 => k26 v1 v2 v3 x_3 x_4)))
def f_X9_agreed_132 (ar : Nat → Nat → Int32) (k26 : Int32 → Int32 → Int32 → Int32 → Int32 → Option (Int32)) (v1 : Int32) (v2 : Int32) (v4 : Int32) (v5 : Int32) (v6 : Int32) (t0 : Int32) (t1 : Int32) : Option (Int32) := bindv (f_X9_one t1) (fun r_5 => bindv ((t0 + r_5) : Int32) (fun x_7 => if (v6 = 6 : Prop) then (f_X9_agreed_151 ar k26 v1 v2 x_7 v5 v4 1) else (f_X9_agreed_151 ar k26 v1 v2 x_7 v5 v4 0)))
def f_X9_agreed_127 (ar : Nat → Nat → Int32) (k26 : Int32 → Int32 → Int32 → Int32 → Int32 → Option (Int32)) (v1 : Int32) (v2 : Int32) (v4 : Int32) (v5 : Int32) (v6 : Int32) (t0 : Int32) : Option (Int32) := f_X9_agreed_132 ar k26 v1 v2 v4 v5 v6 t0 1
def f_X9_agreed_97 (ar : Nat → Nat → Int32) (k65 : Int32 → Int32 → Int32 → Int32 → Int32 → Int32 → Int32 → Int32 → Option (Int32)) (v1 : Int32) (v3 : Int32) (v4 : Int32) (v5 : Int32) (v6 : Int32) (v7 : Int32) (v8 : Int32) (t0 : Int32) (t1 : Int32) : Option (Int32) := bindv (f_X9_one t1) (fun r_9 => bindv ((t0 + r_9) : Int32) (fun x_11 => bindv (v8 + 1 : Int32) (fun x_12 => k65 v1 x_11 v3 v4 v5 v6 v7 x_12)))
def f_X9_agreed_65 (ar : Nat → Nat → Int32) (k39 : Int32 → Int32 → Int32 → Int32 → Int32 → Int32 → Int32 → Option (Int32)) : Nat → (Int32) → (Int32) → (Int32) → (Int32) → (Int32) → (Int32) → (Int32) → (Int32) → Option (Int32)
  | 0, _, _, _, _, _, _, _, _ => none
  | n + 1, v1, v2, v3, v4, v5, v6, v7, v8 => if (6 ≤ v8 : Prop) then (bindv (v7 + 1 : Int32) (fun x_14 => k39 v1 v2 v3 v4 v5 v6 x_14)) else (bind1 (f_X9_nameOf ar v7 v5) (fun r_15 => bind1 (f_X9_nameOf ar v8 v5) (fun r_17 => if (r_15 = r_17 : Prop) then (f_X9_agreed_97 ar (f_X9_agreed_65 ar k39 n) v1 v3 v4 v5 v6 v7 v8 v2 1) else (f_X9_agreed_97 ar (f_X9_agreed_65 ar k39 n) v1 v3 v4 v5 v6 v7 v8 v2 0))))
def f_X9_agreed_39 (ar : Nat → Nat → Int32) (k26 : Int32 → Int32 → Int32 → Int32 → Int32 → Option (Int32)) : Nat → (Int32) → (Int32) → (Int32) → (Int32) → (Int32) → (Int32) → (Int32) → Option (Int32)
  | 0, _, _, _, _, _, _, _ => none
  | n + 1, v1, v2, v3, v4, v5, v6, v7 => if (6 ≤ v7 : Prop) then (if (v6 = 0 : Prop) then (f_X9_agreed_127 ar k26 v1 v2 v4 v5 v6 v3) else (if (v6 = 6 : Prop) then (f_X9_agreed_127 ar k26 v1 v2 v4 v5 v6 v3) else (f_X9_agreed_132 ar k26 v1 v2 v4 v5 v6 v3 0))) else (bind1 (f_X9_nameOf ar v7 v5) (fun r_23 => bindv ((v6 + r_23) : Int32) (fun x_25 => bindv ((v7 + 1) : Int32) (fun x_26 => f_X9_agreed_65 ar (f_X9_agreed_39 ar k26 n) 5000 v1 v2 v3 v4 v5 x_25 v7 x_26))))
def f_X9_agreed_26 (ar : Nat → Nat → Int32)  : Nat → (Int32) → (Int32) → (Int32) → (Int32) → (Int32) → Option (Int32)
  | 0, _, _, _, _, _ => none
  | n + 1, v1, v2, v3, v4, v5 => if (6 ≤ v5 : Prop) then (if (v1 = 0 : Prop) then (some v2) else (if (v1 = 1 : Prop) then (some v3) else (some v4))) else (f_X9_agreed_39 ar (f_X9_agreed_26 ar n) 5000 v1 v2 v3 v4 v5 0 0)
def f_X9_agreed (ar : Nat → Nat → Int32) (v1 : Int32) : Option (Int32) := bindv (f_X9_in (Int32.toInt64 v1) 0 2) (fun r_30 => if (r_30 = 0 : Prop) then (some (-1002)) else (f_X9_agreed_26 ar 5000 v1 0 0 0 0))
set_option maxHeartbeats 4000000 in
set_option maxRecDepth 100000 in
theorem c_X9_agreed (l : Launch) (D : va_G) (ca : Nat → ClassId) (ak av ad : Nat → Nat) (fi : Nat → Int32) (fl : Nat → Int64) (ar : Nat → Nat → Int32) (v1 : Int32) {r0 : Int32} (hf : f_X9_agreed ar v1 = some r0) : MtI l yX9_agreed cX9_agreed 9 { frames := 2, cells := 0, slots := 0, locals := 42 } (EM D ca ak av) [.ref (ad 0), .int v1] (wM ad ca fi fl ar) (wM ad ca fi fl ar) r0 := by
  refine MtI.of (own := RX9) (by decide +kernel) rfl (Nat.le_of_ble_eq_true rfl) ?_
  intro p e s m args below meth c A B hr hk w ls hl
  have hx := B.1.1
  have hb := B.1.2.1
  have hown := B.1.2.2.2.1
  have hts := B.1.2.2.2.2
  have hl : lv_has ls 9 [(0, .ref (ad 0)), (1, .int v1)] := hl
  have J151 : ∀ (k26 : Int32 → Int32 → Int32 → Int32 → Int32 → Option (Int32)) (hk26 : ∀ (v1 : Int32) (v2 : Int32) (v3 : Int32) (v4 : Int32) (v5 : Int32) (H : Heap) (locs : List Loc) (ls : Array Slot), Wd (EM D ca ak av) A s (wM ad ca fi fl ar) H locs → lv_has ls 9 [(0, .ref (ad 0)), (1, .int v1), (2, .int v2), (3, .int v3), (4, .int v4), (5, .int v5)] → k26 v1 v2 v3 v4 v5 = some r0 → W p l e ({ frames := 2, cells := 0, slots := 0, locals := 42 } : Room) s m args below meth c H locs 0 0 (MQ below (Qi (EM D ca ak av) A (wM ad ca fi fl ar) r0) args s 0 0 A) (F0 m 26 ls [])) (v1 : Int32) (v2 : Int32) (v3 : Int32) (v5 : Int32) (t0 : Int32) (t1 : Int32) (H : Heap) (locs : List Loc) (ls : Array Slot), Wd (EM D ca ak av) A s (wM ad ca fi fl ar) H locs → lv_has ls 9 [(0, .ref (ad 0)), (1, .int v1), (2, .int v2), (3, .int v3), (5, .int v5)] → f_X9_agreed_151 ar k26 v1 v2 v3 v5 t0 t1 = some r0 → W p l e ({ frames := 2, cells := 0, slots := 0, locals := 42 } : Room) s m args below meth c H locs 0 0 (MQ below (Qi (EM D ca ak av) A (wM ad ca fi fl ar) r0) args s 0 0 A) (F0 m 151 ls [.int t1, .int t0]) := by
    intro k26 hk26 v1 v2 v3 v5 t0 t1 H locs ls w hl hf
    unfold f_X9_agreed_151 at hf
    obtain ⟨r_1, er_2⟩ : ∃ y, f_X9_one t1 = y := ⟨_, rfl⟩
    have hf := bindv_eq hf r_1 er_2.symm
    refine callSI (As := [.int t1]) (rest := [.int t0]) B w (c_X9_one l _ t1 er_2) (gS kt4_133 kt4_134 kt1_11 kt4_135) hdS_X9_one rfl rfl ⟨Nat.le_of_ble_eq_true rfl, Nat.le_of_ble_eq_true rfl⟩ rfl hl.1 rfl (Nat.le_of_ble_eq_true rfl) dX9_agreed_151 ⟨Nat.le_of_ble_eq_true rfl, Nat.le_of_ble_eq_true rfl⟩ (fun H locs w => ?_)
    refine lv_iadd (x := t0) (y := r_1) hx hb dX9_agreed_154 ?_
    refine lv_topi (fun x_3 ex_3 => ?_)
    have hf := bindv_eq hf x_3 ex_3
    refine lv_istore (lv' := [(4, .int x_3), (0, .ref (ad 0)), (1, .int v1), (2, .int v2), (3, .int v3), (5, .int v5)]) hx hb dX9_agreed_155 hl (by decide) rfl (fun ls hl => ?_)
    obtain ⟨x_4, ex_4⟩ : ∃ y : Int32, y = v5 + 1 := ⟨_, rfl⟩
    have hf := bindv_eq hf x_4 ex_4
    refine lv_iinc (v := x_4) (lv' := [(5, .int x_4), (4, .int x_3), (0, .ref (ad 0)), (1, .int v1), (2, .int v2), (3, .int v3)]) hx hb dX9_agreed_157 hl (k := 5) rfl (by rw [ex_4]; rfl) (by decide) rfl (fun ls hl => ?_)
    refine lv_goto (tgt := 26) hx hb dX9_agreed_160 (by decide) ?_
    exact hk26 v1 v2 v3 x_3 x_4 H locs ls w (lv_sub hl [2, 3, 4, 5, 1, 0] rfl) hf
  have J132 : ∀ (k26 : Int32 → Int32 → Int32 → Int32 → Int32 → Option (Int32)) (hk26 : ∀ (v1 : Int32) (v2 : Int32) (v3 : Int32) (v4 : Int32) (v5 : Int32) (H : Heap) (locs : List Loc) (ls : Array Slot), Wd (EM D ca ak av) A s (wM ad ca fi fl ar) H locs → lv_has ls 9 [(0, .ref (ad 0)), (1, .int v1), (2, .int v2), (3, .int v3), (4, .int v4), (5, .int v5)] → k26 v1 v2 v3 v4 v5 = some r0 → W p l e ({ frames := 2, cells := 0, slots := 0, locals := 42 } : Room) s m args below meth c H locs 0 0 (MQ below (Qi (EM D ca ak av) A (wM ad ca fi fl ar) r0) args s 0 0 A) (F0 m 26 ls [])) (v1 : Int32) (v2 : Int32) (v4 : Int32) (v5 : Int32) (v6 : Int32) (t0 : Int32) (t1 : Int32) (H : Heap) (locs : List Loc) (ls : Array Slot), Wd (EM D ca ak av) A s (wM ad ca fi fl ar) H locs → lv_has ls 9 [(0, .ref (ad 0)), (1, .int v1), (2, .int v2), (4, .int v4), (5, .int v5), (6, .int v6)] → f_X9_agreed_132 ar k26 v1 v2 v4 v5 v6 t0 t1 = some r0 → W p l e ({ frames := 2, cells := 0, slots := 0, locals := 42 } : Room) s m args below meth c H locs 0 0 (MQ below (Qi (EM D ca ak av) A (wM ad ca fi fl ar) r0) args s 0 0 A) (F0 m 132 ls [.int t1, .int t0]) := by
    intro k26 hk26 v1 v2 v4 v5 v6 t0 t1 H locs ls w hl hf
    unfold f_X9_agreed_132 at hf
    obtain ⟨r_5, er_6⟩ : ∃ y, f_X9_one t1 = y := ⟨_, rfl⟩
    have hf := bindv_eq hf r_5 er_6.symm
    refine callSI (As := [.int t1]) (rest := [.int t0]) B w (c_X9_one l _ t1 er_6) (gS kt4_133 kt4_134 kt1_11 kt4_135) hdS_X9_one rfl rfl ⟨Nat.le_of_ble_eq_true rfl, Nat.le_of_ble_eq_true rfl⟩ rfl hl.1 rfl (Nat.le_of_ble_eq_true rfl) dX9_agreed_132 ⟨Nat.le_of_ble_eq_true rfl, Nat.le_of_ble_eq_true rfl⟩ (fun H locs w => ?_)
    refine lv_iadd (x := t0) (y := r_5) hx hb dX9_agreed_135 ?_
    refine lv_topi (fun x_7 ex_7 => ?_)
    have hf := bindv_eq hf x_7 ex_7
    refine lv_istore_n (lv' := [(3, .int x_7), (0, .ref (ad 0)), (1, .int v1), (2, .int v2), (4, .int v4), (5, .int v5), (6, .int v6)]) hx hb dX9_agreed_136 rfl hl (by decide) rfl (fun ls hl => ?_)
    refine lv_iload hx hb dX9_agreed_137 (lv_at hl 4 rfl) ?_
    refine lv_iload hx hb dX9_agreed_139 (lv_at hl 6 rfl) ?_
    refine lv_bipush (v := 6) hx hb dX9_agreed_141 (by decide) ?_
    refine lv_icmp_ne (x := v6) (y := 6) (tgt := 150) hx hb dX9_agreed_143 (by decide) (fun c_8 => ?_) (fun c_8 => ?_)
    · have hf := if_f hf c_8
      refine lv_iconst (v := 0) hx hb dX9_agreed_150 (by decide) ?_
      exact J151 _ hk26 v1 v2 x_7 v5 v4 0 H locs ls w (lv_sub hl [1, 2, 3, 0, 5] rfl) hf
    · have hf := if_t hf c_8
      refine lv_iconst (v := 1) hx hb dX9_agreed_146 (by decide) ?_
      refine lv_goto (tgt := 151) hx hb dX9_agreed_147 (by decide) ?_
      exact J151 _ hk26 v1 v2 x_7 v5 v4 1 H locs ls w (lv_sub hl [1, 2, 3, 0, 5] rfl) hf
  have J127 : ∀ (k26 : Int32 → Int32 → Int32 → Int32 → Int32 → Option (Int32)) (hk26 : ∀ (v1 : Int32) (v2 : Int32) (v3 : Int32) (v4 : Int32) (v5 : Int32) (H : Heap) (locs : List Loc) (ls : Array Slot), Wd (EM D ca ak av) A s (wM ad ca fi fl ar) H locs → lv_has ls 9 [(0, .ref (ad 0)), (1, .int v1), (2, .int v2), (3, .int v3), (4, .int v4), (5, .int v5)] → k26 v1 v2 v3 v4 v5 = some r0 → W p l e ({ frames := 2, cells := 0, slots := 0, locals := 42 } : Room) s m args below meth c H locs 0 0 (MQ below (Qi (EM D ca ak av) A (wM ad ca fi fl ar) r0) args s 0 0 A) (F0 m 26 ls [])) (v1 : Int32) (v2 : Int32) (v4 : Int32) (v5 : Int32) (v6 : Int32) (t0 : Int32) (H : Heap) (locs : List Loc) (ls : Array Slot), Wd (EM D ca ak av) A s (wM ad ca fi fl ar) H locs → lv_has ls 9 [(0, .ref (ad 0)), (1, .int v1), (2, .int v2), (4, .int v4), (5, .int v5), (6, .int v6)] → f_X9_agreed_127 ar k26 v1 v2 v4 v5 v6 t0 = some r0 → W p l e ({ frames := 2, cells := 0, slots := 0, locals := 42 } : Room) s m args below meth c H locs 0 0 (MQ below (Qi (EM D ca ak av) A (wM ad ca fi fl ar) r0) args s 0 0 A) (F0 m 127 ls [.int t0]) := by
    intro k26 hk26 v1 v2 v4 v5 v6 t0 H locs ls w hl hf
    unfold f_X9_agreed_127 at hf
    refine lv_iconst (v := 1) hx hb dX9_agreed_127 (by decide) ?_
    refine lv_goto (tgt := 132) hx hb dX9_agreed_128 (by decide) ?_
    exact J132 _ hk26 v1 v2 v4 v5 v6 t0 1 H locs ls w (lv_sub hl [0, 1, 2, 3, 4, 5] rfl) hf
  have J97 : ∀ (k65 : Int32 → Int32 → Int32 → Int32 → Int32 → Int32 → Int32 → Int32 → Option (Int32)) (hk65 : ∀ (v1 : Int32) (v2 : Int32) (v3 : Int32) (v4 : Int32) (v5 : Int32) (v6 : Int32) (v7 : Int32) (v8 : Int32) (H : Heap) (locs : List Loc) (ls : Array Slot), Wd (EM D ca ak av) A s (wM ad ca fi fl ar) H locs → lv_has ls 9 [(0, .ref (ad 0)), (1, .int v1), (2, .int v2), (3, .int v3), (4, .int v4), (5, .int v5), (6, .int v6), (7, .int v7), (8, .int v8)] → k65 v1 v2 v3 v4 v5 v6 v7 v8 = some r0 → W p l e ({ frames := 2, cells := 0, slots := 0, locals := 42 } : Room) s m args below meth c H locs 0 0 (MQ below (Qi (EM D ca ak av) A (wM ad ca fi fl ar) r0) args s 0 0 A) (F0 m 65 ls [])) (v1 : Int32) (v3 : Int32) (v4 : Int32) (v5 : Int32) (v6 : Int32) (v7 : Int32) (v8 : Int32) (t0 : Int32) (t1 : Int32) (H : Heap) (locs : List Loc) (ls : Array Slot), Wd (EM D ca ak av) A s (wM ad ca fi fl ar) H locs → lv_has ls 9 [(0, .ref (ad 0)), (1, .int v1), (3, .int v3), (4, .int v4), (5, .int v5), (6, .int v6), (7, .int v7), (8, .int v8)] → f_X9_agreed_97 ar k65 v1 v3 v4 v5 v6 v7 v8 t0 t1 = some r0 → W p l e ({ frames := 2, cells := 0, slots := 0, locals := 42 } : Room) s m args below meth c H locs 0 0 (MQ below (Qi (EM D ca ak av) A (wM ad ca fi fl ar) r0) args s 0 0 A) (F0 m 97 ls [.int t1, .int t0]) := by
    intro k65 hk65 v1 v3 v4 v5 v6 v7 v8 t0 t1 H locs ls w hl hf
    unfold f_X9_agreed_97 at hf
    obtain ⟨r_9, er_10⟩ : ∃ y, f_X9_one t1 = y := ⟨_, rfl⟩
    have hf := bindv_eq hf r_9 er_10.symm
    refine callSI (As := [.int t1]) (rest := [.int t0]) B w (c_X9_one l _ t1 er_10) (gS kt4_133 kt4_134 kt1_11 kt4_135) hdS_X9_one rfl rfl ⟨Nat.le_of_ble_eq_true rfl, Nat.le_of_ble_eq_true rfl⟩ rfl hl.1 rfl (Nat.le_of_ble_eq_true rfl) dX9_agreed_97 ⟨Nat.le_of_ble_eq_true rfl, Nat.le_of_ble_eq_true rfl⟩ (fun H locs w => ?_)
    refine lv_iadd (x := t0) (y := r_9) hx hb dX9_agreed_100 ?_
    refine lv_topi (fun x_11 ex_11 => ?_)
    have hf := bindv_eq hf x_11 ex_11
    refine lv_istore_n (lv' := [(2, .int x_11), (0, .ref (ad 0)), (1, .int v1), (3, .int v3), (4, .int v4), (5, .int v5), (6, .int v6), (7, .int v7), (8, .int v8)]) hx hb dX9_agreed_101 rfl hl (by decide) rfl (fun ls hl => ?_)
    obtain ⟨x_12, ex_12⟩ : ∃ y : Int32, y = v8 + 1 := ⟨_, rfl⟩
    have hf := bindv_eq hf x_12 ex_12
    refine lv_iinc (v := x_12) (lv' := [(8, .int x_12), (2, .int x_11), (0, .ref (ad 0)), (1, .int v1), (3, .int v3), (4, .int v4), (5, .int v5), (6, .int v6), (7, .int v7)]) hx hb dX9_agreed_102 hl (k := 8) rfl (by rw [ex_12]; rfl) (by decide) rfl (fun ls hl => ?_)
    refine lv_goto (tgt := 65) hx hb dX9_agreed_105 (by decide) ?_
    exact hk65 v1 x_11 v3 v4 v5 v6 v7 x_12 H locs ls w (lv_sub hl [2, 3, 1, 4, 5, 6, 7, 8, 0] rfl) hf
  have J65 : ∀ (k39 : Int32 → Int32 → Int32 → Int32 → Int32 → Int32 → Int32 → Option (Int32)) (hk39 : ∀ (v1 : Int32) (v2 : Int32) (v3 : Int32) (v4 : Int32) (v5 : Int32) (v6 : Int32) (v7 : Int32) (H : Heap) (locs : List Loc) (ls : Array Slot), Wd (EM D ca ak av) A s (wM ad ca fi fl ar) H locs → lv_has ls 9 [(0, .ref (ad 0)), (1, .int v1), (2, .int v2), (3, .int v3), (4, .int v4), (5, .int v5), (6, .int v6), (7, .int v7)] → k39 v1 v2 v3 v4 v5 v6 v7 = some r0 → W p l e ({ frames := 2, cells := 0, slots := 0, locals := 42 } : Room) s m args below meth c H locs 0 0 (MQ below (Qi (EM D ca ak av) A (wM ad ca fi fl ar) r0) args s 0 0 A) (F0 m 39 ls [])) (n : Nat) (v1 : Int32) (v2 : Int32) (v3 : Int32) (v4 : Int32) (v5 : Int32) (v6 : Int32) (v7 : Int32) (v8 : Int32) (H : Heap) (locs : List Loc) (ls : Array Slot), Wd (EM D ca ak av) A s (wM ad ca fi fl ar) H locs → lv_has ls 9 [(0, .ref (ad 0)), (1, .int v1), (2, .int v2), (3, .int v3), (4, .int v4), (5, .int v5), (6, .int v6), (7, .int v7), (8, .int v8)] → f_X9_agreed_65 ar k39 n v1 v2 v3 v4 v5 v6 v7 v8 = some r0 → W p l e ({ frames := 2, cells := 0, slots := 0, locals := 42 } : Room) s m args below meth c H locs 0 0 (MQ below (Qi (EM D ca ak av) A (wM ad ca fi fl ar) r0) args s 0 0 A) (F0 m 65 ls []) := by
    intro k39 hk39 n
    induction n with
    | zero =>
      intro v1 v2 v3 v4 v5 v6 v7 v8 H locs ls w hl hf
      cases hf
    | succ n ih =>
      intro v1 v2 v3 v4 v5 v6 v7 v8 H locs ls w hl hf
      rw [f_X9_agreed_65] at hf
      refine lv_iload hx hb dX9_agreed_65 (lv_at hl 8 rfl) ?_
      refine lv_bipush (v := 6) hx hb dX9_agreed_67 (by decide) ?_
      refine lv_icmp_ge (x := v8) (y := 6) (tgt := 108) hx hb dX9_agreed_69 (by decide) (fun c_13 => ?_) (fun c_13 => ?_)
      · have hf := if_t hf c_13
        obtain ⟨x_14, ex_14⟩ : ∃ y : Int32, y = v7 + 1 := ⟨_, rfl⟩
        have hf := bindv_eq hf x_14 ex_14
        refine lv_iinc (v := x_14) (lv' := [(7, .int x_14), (0, .ref (ad 0)), (1, .int v1), (2, .int v2), (3, .int v3), (4, .int v4), (5, .int v5), (6, .int v6), (8, .int v8)]) hx hb dX9_agreed_108 hl (k := 7) rfl (by rw [ex_14]; rfl) (by decide) rfl (fun ls hl => ?_)
        refine lv_goto (tgt := 39) hx hb dX9_agreed_111 (by decide) ?_
        exact hk39 v1 v2 v3 v4 v5 v6 x_14 H locs ls w (lv_sub hl [1, 2, 3, 4, 5, 6, 7, 0] rfl) hf
      · have hf := if_f hf c_13
        refine lv_iload_n hx hb dX9_agreed_72 rfl (lv_at hl 2 rfl) ?_
        refine lv_aload_n hx hb dX9_agreed_73 rfl (lv_at hl 0 rfl) ?_
        refine lv_iload hx hb dX9_agreed_74 (lv_at hl 7 rfl) ?_
        refine lv_iload hx hb dX9_agreed_76 (lv_at hl 5 rfl) ?_
        obtain ⟨r_15, er_16, hf⟩ := bind1_eq hf
        refine callVI (As := [.int v7, .int v5]) (rest := [.int v2]) B w (c_X9_nameOf l D ca ak av ad fi fl ar v7 v5 er_16) (gV kt5_73 kt5_75 kp2_14 kt1_11 kt5_76) hdV_X9_nameOf 0 rfl rfl rfl rfl ⟨Nat.le_of_ble_eq_true rfl, Nat.le_of_ble_eq_true rfl⟩ rfl hl.1 rfl (Nat.le_of_ble_eq_true rfl) dX9_agreed_78 ⟨Nat.le_of_ble_eq_true rfl, Nat.le_of_ble_eq_true rfl⟩ (fun H locs w => ?_)
        refine lv_aload_n hx hb dX9_agreed_81 rfl (lv_at hl 0 rfl) ?_
        refine lv_iload hx hb dX9_agreed_82 (lv_at hl 8 rfl) ?_
        refine lv_iload hx hb dX9_agreed_84 (lv_at hl 5 rfl) ?_
        obtain ⟨r_17, er_18, hf⟩ := bind1_eq hf
        refine callVI (As := [.int v8, .int v5]) (rest := [.int r_15, .int v2]) B w (c_X9_nameOf l D ca ak av ad fi fl ar v8 v5 er_18) (gV kt5_73 kt5_75 kp2_14 kt1_11 kt5_76) hdV_X9_nameOf 0 rfl rfl rfl rfl ⟨Nat.le_of_ble_eq_true rfl, Nat.le_of_ble_eq_true rfl⟩ rfl hl.1 rfl (Nat.le_of_ble_eq_true rfl) dX9_agreed_86 ⟨Nat.le_of_ble_eq_true rfl, Nat.le_of_ble_eq_true rfl⟩ (fun H locs w => ?_)
        refine lv_icmp_ne (x := r_15) (y := r_17) (tgt := 96) hx hb dX9_agreed_89 (by decide) (fun c_19 => ?_) (fun c_19 => ?_)
        · have hf := if_f hf c_19
          refine lv_iconst (v := 0) hx hb dX9_agreed_96 (by decide) ?_
          exact J97 _ ih v1 v3 v4 v5 v6 v7 v8 v2 0 H locs ls w (lv_sub hl [0, 1, 3, 4, 5, 6, 7, 8] rfl) hf
        · have hf := if_t hf c_19
          refine lv_iconst (v := 1) hx hb dX9_agreed_92 (by decide) ?_
          refine lv_goto (tgt := 97) hx hb dX9_agreed_93 (by decide) ?_
          exact J97 _ ih v1 v3 v4 v5 v6 v7 v8 v2 1 H locs ls w (lv_sub hl [0, 1, 3, 4, 5, 6, 7, 8] rfl) hf
  have J39 : ∀ (k26 : Int32 → Int32 → Int32 → Int32 → Int32 → Option (Int32)) (hk26 : ∀ (v1 : Int32) (v2 : Int32) (v3 : Int32) (v4 : Int32) (v5 : Int32) (H : Heap) (locs : List Loc) (ls : Array Slot), Wd (EM D ca ak av) A s (wM ad ca fi fl ar) H locs → lv_has ls 9 [(0, .ref (ad 0)), (1, .int v1), (2, .int v2), (3, .int v3), (4, .int v4), (5, .int v5)] → k26 v1 v2 v3 v4 v5 = some r0 → W p l e ({ frames := 2, cells := 0, slots := 0, locals := 42 } : Room) s m args below meth c H locs 0 0 (MQ below (Qi (EM D ca ak av) A (wM ad ca fi fl ar) r0) args s 0 0 A) (F0 m 26 ls [])) (n : Nat) (v1 : Int32) (v2 : Int32) (v3 : Int32) (v4 : Int32) (v5 : Int32) (v6 : Int32) (v7 : Int32) (H : Heap) (locs : List Loc) (ls : Array Slot), Wd (EM D ca ak av) A s (wM ad ca fi fl ar) H locs → lv_has ls 9 [(0, .ref (ad 0)), (1, .int v1), (2, .int v2), (3, .int v3), (4, .int v4), (5, .int v5), (6, .int v6), (7, .int v7)] → f_X9_agreed_39 ar k26 n v1 v2 v3 v4 v5 v6 v7 = some r0 → W p l e ({ frames := 2, cells := 0, slots := 0, locals := 42 } : Room) s m args below meth c H locs 0 0 (MQ below (Qi (EM D ca ak av) A (wM ad ca fi fl ar) r0) args s 0 0 A) (F0 m 39 ls []) := by
    intro k26 hk26 n
    induction n with
    | zero =>
      intro v1 v2 v3 v4 v5 v6 v7 H locs ls w hl hf
      cases hf
    | succ n ih =>
      intro v1 v2 v3 v4 v5 v6 v7 H locs ls w hl hf
      rw [f_X9_agreed_39] at hf
      refine lv_iload hx hb dX9_agreed_39 (lv_at hl 7 rfl) ?_
      refine lv_bipush (v := 6) hx hb dX9_agreed_41 (by decide) ?_
      refine lv_icmp_ge (x := v7) (y := 6) (tgt := 114) hx hb dX9_agreed_43 (by decide) (fun c_20 => ?_) (fun c_20 => ?_)
      · have hf := if_t hf c_20
        refine lv_iload_n hx hb dX9_agreed_114 rfl (lv_at hl 3 rfl) ?_
        refine lv_iload hx hb dX9_agreed_115 (lv_at hl 6 rfl) ?_
        refine lv_if_eq (x := v6) (tgt := 127) hx hb dX9_agreed_117 (by decide) (fun c_21 => ?_) (fun c_21 => ?_)
        · have hf := if_t hf c_21
          exact J127 _ hk26 v1 v2 v4 v5 v6 v3 H locs ls w (lv_sub hl [0, 1, 2, 4, 5, 6] rfl) hf
        · have hf := if_f hf c_21
          refine lv_iload hx hb dX9_agreed_120 (lv_at hl 6 rfl) ?_
          refine lv_bipush (v := 6) hx hb dX9_agreed_122 (by decide) ?_
          refine lv_icmp_ne (x := v6) (y := 6) (tgt := 131) hx hb dX9_agreed_124 (by decide) (fun c_22 => ?_) (fun c_22 => ?_)
          · have hf := if_f hf c_22
            refine lv_iconst (v := 0) hx hb dX9_agreed_131 (by decide) ?_
            exact J132 _ hk26 v1 v2 v4 v5 v6 v3 0 H locs ls w (lv_sub hl [0, 1, 2, 4, 5, 6] rfl) hf
          · have hf := if_t hf c_22
            exact J127 _ hk26 v1 v2 v4 v5 v6 v3 H locs ls w (lv_sub hl [0, 1, 2, 4, 5, 6] rfl) hf
      · have hf := if_f hf c_20
        refine lv_iload hx hb dX9_agreed_46 (lv_at hl 6 rfl) ?_
        refine lv_aload_n hx hb dX9_agreed_48 rfl (lv_at hl 0 rfl) ?_
        refine lv_iload hx hb dX9_agreed_49 (lv_at hl 7 rfl) ?_
        refine lv_iload hx hb dX9_agreed_51 (lv_at hl 5 rfl) ?_
        obtain ⟨r_23, er_24, hf⟩ := bind1_eq hf
        refine callVI (As := [.int v7, .int v5]) (rest := [.int v6]) B w (c_X9_nameOf l D ca ak av ad fi fl ar v7 v5 er_24) (gV kt5_73 kt5_75 kp2_14 kt1_11 kt5_76) hdV_X9_nameOf 0 rfl rfl rfl rfl ⟨Nat.le_of_ble_eq_true rfl, Nat.le_of_ble_eq_true rfl⟩ rfl hl.1 rfl (Nat.le_of_ble_eq_true rfl) dX9_agreed_53 ⟨Nat.le_of_ble_eq_true rfl, Nat.le_of_ble_eq_true rfl⟩ (fun H locs w => ?_)
        refine lv_iadd (x := v6) (y := r_23) hx hb dX9_agreed_56 ?_
        refine lv_topi (fun x_25 ex_25 => ?_)
        have hf := bindv_eq hf x_25 ex_25
        refine lv_istore (lv' := [(6, .int x_25), (0, .ref (ad 0)), (1, .int v1), (2, .int v2), (3, .int v3), (4, .int v4), (5, .int v5), (7, .int v7)]) hx hb dX9_agreed_57 hl (by decide) rfl (fun ls hl => ?_)
        refine lv_iload hx hb dX9_agreed_59 (lv_at hl 7 rfl) ?_
        refine lv_iconst (v := 1) hx hb dX9_agreed_61 (by decide) ?_
        refine lv_iadd (x := v7) (y := 1) hx hb dX9_agreed_62 ?_
        refine lv_topi (fun x_26 ex_26 => ?_)
        have hf := bindv_eq hf x_26 ex_26
        refine lv_istore (lv' := [(8, .int x_26), (6, .int x_25), (0, .ref (ad 0)), (1, .int v1), (2, .int v2), (3, .int v3), (4, .int v4), (5, .int v5), (7, .int v7)]) hx hb dX9_agreed_63 hl (by decide) rfl (fun ls hl => ?_)
        exact J65 _ ih 5000 v1 v2 v3 v4 v5 x_25 v7 x_26 H locs ls w (lv_sub hl [2, 3, 4, 5, 6, 7, 1, 8, 0] rfl) hf
  have J26 : ∀ (n : Nat) (v1 : Int32) (v2 : Int32) (v3 : Int32) (v4 : Int32) (v5 : Int32) (H : Heap) (locs : List Loc) (ls : Array Slot), Wd (EM D ca ak av) A s (wM ad ca fi fl ar) H locs → lv_has ls 9 [(0, .ref (ad 0)), (1, .int v1), (2, .int v2), (3, .int v3), (4, .int v4), (5, .int v5)] → f_X9_agreed_26 ar n v1 v2 v3 v4 v5 = some r0 → W p l e ({ frames := 2, cells := 0, slots := 0, locals := 42 } : Room) s m args below meth c H locs 0 0 (MQ below (Qi (EM D ca ak av) A (wM ad ca fi fl ar) r0) args s 0 0 A) (F0 m 26 ls []) := by
    intro  n
    induction n with
    | zero =>
      intro v1 v2 v3 v4 v5 H locs ls w hl hf
      cases hf
    | succ n ih =>
      intro v1 v2 v3 v4 v5 H locs ls w hl hf
      rw [f_X9_agreed_26] at hf
      refine lv_iload hx hb dX9_agreed_26 (lv_at hl 5 rfl) ?_
      refine lv_bipush (v := 6) hx hb dX9_agreed_28 (by decide) ?_
      refine lv_icmp_ge (x := v5) (y := 6) (tgt := 163) hx hb dX9_agreed_30 (by decide) (fun c_27 => ?_) (fun c_27 => ?_)
      · have hf := if_t hf c_27
        refine lv_iload_n hx hb dX9_agreed_163 rfl (lv_at hl 1 rfl) ?_
        refine lv_if_ne (x := v1) (tgt := 171) hx hb dX9_agreed_164 (by decide) (fun c_28 => ?_) (fun c_28 => ?_)
        · have hf := if_f hf c_28
          refine lv_iload_n hx hb dX9_agreed_171 rfl (lv_at hl 1 rfl) ?_
          refine lv_iconst (v := 1) hx hb dX9_agreed_172 (by decide) ?_
          refine lv_icmp_ne (x := v1) (y := 1) (tgt := 180) hx hb dX9_agreed_173 (by decide) (fun c_29 => ?_) (fun c_29 => ?_)
          · have hf := if_f hf c_29
            refine lv_iload hx hb dX9_agreed_180 (lv_at hl 4 rfl) ?_
            have hf : some v4 = some r0 := hf
            have q0 := so1 hf
            subst q0
            exact retI B hr hk w dX9_agreed_182
          · have hf := if_t hf c_29
            refine lv_iload_n hx hb dX9_agreed_176 rfl (lv_at hl 3 rfl) ?_
            refine lv_goto (tgt := 182) hx hb dX9_agreed_177 (by decide) ?_
            have hf : some v3 = some r0 := hf
            have q0 := so1 hf
            subst q0
            exact retI B hr hk w dX9_agreed_182
        · have hf := if_t hf c_28
          refine lv_iload_n hx hb dX9_agreed_167 rfl (lv_at hl 2 rfl) ?_
          refine lv_goto (tgt := 182) hx hb dX9_agreed_168 (by decide) ?_
          have hf : some v2 = some r0 := hf
          have q0 := so1 hf
          subst q0
          exact retI B hr hk w dX9_agreed_182
      · have hf := if_f hf c_27
        refine lv_iconst (v := 0) hx hb dX9_agreed_33 (by decide) ?_
        refine lv_istore (lv' := [(6, .int 0), (0, .ref (ad 0)), (1, .int v1), (2, .int v2), (3, .int v3), (4, .int v4), (5, .int v5)]) hx hb dX9_agreed_34 hl (by decide) rfl (fun ls hl => ?_)
        refine lv_iconst (v := 0) hx hb dX9_agreed_36 (by decide) ?_
        refine lv_istore (lv' := [(7, .int 0), (6, .int 0), (0, .ref (ad 0)), (1, .int v1), (2, .int v2), (3, .int v3), (4, .int v4), (5, .int v5)]) hx hb dX9_agreed_37 hl (by decide) rfl (fun ls hl => ?_)
        exact J39 _ ih 5000 v1 v2 v3 v4 v5 0 0 H locs ls w (lv_sub hl [2, 3, 4, 5, 6, 7, 1, 0] rfl) hf
  unfold f_X9_agreed at hf
  refine (show ∀ (H : Heap) (locs : List Loc), Wd (EM D ca ak av) A s (wM ad ca fi fl ar) H locs → W p l e ({ frames := 2, cells := 0, slots := 0, locals := 42 } : Room) s m args below meth c H locs 0 0 (MQ below (Qi (EM D ca ak av) A (wM ad ca fi fl ar) r0) args s 0 0 A) (F0 m 0 ls []) from ?_) s.heap [] w
  intro H locs w
  refine lv_iload_n hx hb dX9_agreed_0 rfl (lv_at hl 1 rfl) ?_
  refine lv_i2l hx hb dX9_agreed_1 rfl ?_
  refine lv_lconst (v := 0) hx hb dX9_agreed_2 (by decide) ?_
  refine lv_ldc2 (own := RX9) (v := 2) hx hb hown (hts _ kt4_202) dX9_agreed_3 ?_
  obtain ⟨r_30, er_31⟩ : ∃ y, f_X9_in (Int32.toInt64 v1) 0 2 = y := ⟨_, rfl⟩
  have hf := bindv_eq hf r_30 er_31.symm
  refine callSZ (As := [.long (Int32.toInt64 v1), .long 0, .long 2]) (rest := []) B w (c_X9_in l _ (Int32.toInt64 v1) 0 2 er_31) (gS kt4_95 kt4_96 kt1_11 kt4_97) hdS_X9_in rfl rfl ⟨Nat.le_of_ble_eq_true rfl, Nat.le_of_ble_eq_true rfl⟩ rfl hl.1 rfl (Nat.le_of_ble_eq_true rfl) dX9_agreed_6 ⟨Nat.le_of_ble_eq_true rfl, Nat.le_of_ble_eq_true rfl⟩ (fun H locs w hzr_30 => ?_)
  refine lv_if_ne (x := r_30) (tgt := 16) hx hb dX9_agreed_9 (by decide) (fun c_32 => ?_) (fun c_32 => ?_)
  · have hf := if_f hf c_32
    refine lv_iconst (v := 0) hx hb dX9_agreed_16 (by decide) ?_
    refine lv_istore_n (lv' := [(2, .int 0), (0, .ref (ad 0)), (1, .int v1)]) hx hb dX9_agreed_17 rfl hl (by decide) rfl (fun ls hl => ?_)
    refine lv_iconst (v := 0) hx hb dX9_agreed_18 (by decide) ?_
    refine lv_istore_n (lv' := [(3, .int 0), (2, .int 0), (0, .ref (ad 0)), (1, .int v1)]) hx hb dX9_agreed_19 rfl hl (by decide) rfl (fun ls hl => ?_)
    refine lv_iconst (v := 0) hx hb dX9_agreed_20 (by decide) ?_
    refine lv_istore (lv' := [(4, .int 0), (3, .int 0), (2, .int 0), (0, .ref (ad 0)), (1, .int v1)]) hx hb dX9_agreed_21 hl (by decide) rfl (fun ls hl => ?_)
    refine lv_iconst (v := 0) hx hb dX9_agreed_23 (by decide) ?_
    refine lv_istore (lv' := [(5, .int 0), (4, .int 0), (3, .int 0), (2, .int 0), (0, .ref (ad 0)), (1, .int v1)]) hx hb dX9_agreed_24 hl (by decide) rfl (fun ls hl => ?_)
    exact J26  5000 v1 0 0 0 0 H locs ls w (lv_sub hl [4, 5, 3, 2, 1, 0] rfl) hf
  · have hf := if_t hf c_32
    refine lv_sipush (v := (-1002)) hx hb dX9_agreed_12 (by decide) ?_
    have hf : some (-1002) = some r0 := hf
    have q0 := so1 hf
    subst q0
    exact retI B hr hk w dX9_agreed_15
def f_X9_forget_45   : Nat → (Int32) → (Int32) → (Nat → Nat → Int32) → Option (Int32 × (Nat → Nat → Int32))
  | 0, _, _, _ => none
  | n + 1, v1, v2, ar => if (6 ≤ v2 : Prop) then (some (v1, ar)) else (gd v2 6 (bindv (updA ar 6 (upd (ar 6) (Int32.toNatClampNeg v2) 0)) (fun ar_3 => bindv (v2 + 1 : Int32) (fun x_4 => (f_X9_forget_45 n) v1 x_4 ar_3))))
def f_X9_forget_25  (k4 : Int32 → Int32 → (Nat → Nat → Int32) → Option (Int32 × (Nat → Nat → Int32))) (v2 : Int32) (t0 : Int32) (t1 : Int32) (ar : Nat → Nat → Int32) : Option (Int32 × (Nat → Nat → Int32)) := bindv (f_X9_one t1) (fun r_5 => bindv ((t0 + r_5) : Int32) (fun x_7 => gd v2 36 (bindv (updA ar 5 (upd (ar 5) (Int32.toNatClampNeg v2) (vp_nar .boolean 1))) (fun ar_9 => bindv (v2 + 1 : Int32) (fun x_10 => k4 x_7 x_10 ar_9)))))
def f_X9_forget_4   : Nat → (Int32) → (Int32) → (Nat → Nat → Int32) → Option (Int32 × (Nat → Nat → Int32))
  | 0, _, _, _ => none
  | n + 1, v1, v2, ar => if (36 ≤ v2 : Prop) then (f_X9_forget_45  5000 v1 0 ar) else (gd v2 36 (if ((ar 5 (Int32.toNatClampNeg v2)) = 0 : Prop) then (f_X9_forget_25 (f_X9_forget_4 n) v2 v1 1 ar) else (f_X9_forget_25 (f_X9_forget_4 n) v2 v1 0 ar)))
def f_X9_forget (ar : Nat → Nat → Int32) : Option (Int32 × (Nat → Nat → Int32)) := f_X9_forget_4  5000 0 0 ar
set_option maxHeartbeats 4000000 in
set_option maxRecDepth 100000 in
theorem c_X9_forget (l : Launch) (D : va_G) (ca : Nat → ClassId) (ak av ad : Nat → Nat) (fi : Nat → Int32) (fl : Nat → Int64) (ar : Nat → Nat → Int32) {r0 : Int32} {ar0 : Nat → Nat → Int32} (hf : f_X9_forget ar = some (r0, ar0)) : MtI l yX9_forget cX9_forget 3 { frames := 1, cells := 0, slots := 0, locals := 20 } (EM D ca ak av) [.ref (ad 0)] (wM ad ca fi fl ar) (wM ad ca fi fl ar0) r0 := by
  refine MtI.of (own := RX9) (by decide +kernel) rfl (Nat.le_of_ble_eq_true rfl) ?_
  intro p e s m args below meth c A B hr hk w ls hl
  have hx := B.1.1
  have hb := B.1.2.1
  have hown := B.1.2.2.2.1
  have hts := B.1.2.2.2.2
  have hl : lv_has ls 3 [(0, .ref (ad 0))] := hl
  have J45 : ∀ (n : Nat) (v1 : Int32) (v2 : Int32) (ar : Nat → Nat → Int32) (H : Heap) (locs : List Loc) (ls : Array Slot), Wd (EM D ca ak av) A s (wM ad ca fi fl ar) H locs → lv_has ls 3 [(0, .ref (ad 0)), (1, .int v1), (2, .int v2)] → f_X9_forget_45  n v1 v2 ar = some (r0, ar0) → W p l e ({ frames := 1, cells := 0, slots := 0, locals := 20 } : Room) s m args below meth c H locs 0 0 (MQ below (Qi (EM D ca ak av) A (wM ad ca fi fl ar0) r0) args s 0 0 A) (F0 m 45 ls []) := by
    intro  n
    induction n with
    | zero =>
      intro v1 v2 ar H locs ls w hl hf
      cases hf
    | succ n ih =>
      intro v1 v2 ar H locs ls w hl hf
      rw [f_X9_forget_45] at hf
      refine lv_iload_n hx hb dX9_forget_45 rfl (lv_at hl 2 rfl) ?_
      refine lv_bipush (v := 6) hx hb dX9_forget_46 (by decide) ?_
      refine lv_icmp_ge (x := v2) (y := 6) (tgt := 64) hx hb dX9_forget_48 (by decide) (fun c_1 => ?_) (fun c_1 => ?_)
      · have hf := if_t hf c_1
        refine lv_iload_n hx hb dX9_forget_64 rfl (lv_at hl 1 rfl) ?_
        have hf : some (v1, ar) = some (r0, ar0) := hf
        obtain ⟨q0, q1⟩ := so2 hf
        subst q0
        subst q1
        exact retI B hr hk w dX9_forget_65
      · have hf := if_f hf c_1
        refine lv_aload_n hx hb dX9_forget_51 rfl (lv_at hl 0 rfl) ?_
        refine gfM_0_20 B w kt4_45 dX9_forget_52 ?_
        refine lv_iload_n hx hb dX9_forget_55 rfl (lv_at hl 2 rfl) ?_
        refine lv_iconst (v := 0) hx hb dX9_forget_56 (by decide) ?_
        obtain ⟨hi_2, hf⟩ := gd_eq hf
        refine asM_6 (x := 0) B w hi_2 dX9_forget_57 (fun H locs ar_3 ear_3 w => ?_)
        have hf := bindv_eq hf ar_3 ear_3
        obtain ⟨x_4, ex_4⟩ : ∃ y : Int32, y = v2 + 1 := ⟨_, rfl⟩
        have hf := bindv_eq hf x_4 ex_4
        refine lv_iinc (v := x_4) (lv' := [(2, .int x_4), (0, .ref (ad 0)), (1, .int v1)]) hx hb dX9_forget_58 hl (k := 2) rfl (by rw [ex_4]; rfl) (by decide) rfl (fun ls hl => ?_)
        refine lv_goto (tgt := 45) hx hb dX9_forget_61 (by decide) ?_
        exact ih v1 x_4 ar_3 H locs ls w (lv_sub hl [1, 2, 0] rfl) hf
  have J25 : ∀ (k4 : Int32 → Int32 → (Nat → Nat → Int32) → Option (Int32 × (Nat → Nat → Int32))) (hk4 : ∀ (v1 : Int32) (v2 : Int32) (ar : Nat → Nat → Int32) (H : Heap) (locs : List Loc) (ls : Array Slot), Wd (EM D ca ak av) A s (wM ad ca fi fl ar) H locs → lv_has ls 3 [(0, .ref (ad 0)), (1, .int v1), (2, .int v2)] → k4 v1 v2 ar = some (r0, ar0) → W p l e ({ frames := 1, cells := 0, slots := 0, locals := 20 } : Room) s m args below meth c H locs 0 0 (MQ below (Qi (EM D ca ak av) A (wM ad ca fi fl ar0) r0) args s 0 0 A) (F0 m 4 ls [])) (v2 : Int32) (t0 : Int32) (t1 : Int32) (ar : Nat → Nat → Int32) (H : Heap) (locs : List Loc) (ls : Array Slot), Wd (EM D ca ak av) A s (wM ad ca fi fl ar) H locs → lv_has ls 3 [(0, .ref (ad 0)), (2, .int v2)] → f_X9_forget_25 k4 v2 t0 t1 ar = some (r0, ar0) → W p l e ({ frames := 1, cells := 0, slots := 0, locals := 20 } : Room) s m args below meth c H locs 0 0 (MQ below (Qi (EM D ca ak av) A (wM ad ca fi fl ar0) r0) args s 0 0 A) (F0 m 25 ls [.int t1, .int t0]) := by
    intro k4 hk4 v2 t0 t1 ar H locs ls w hl hf
    unfold f_X9_forget_25 at hf
    obtain ⟨r_5, er_6⟩ : ∃ y, f_X9_one t1 = y := ⟨_, rfl⟩
    have hf := bindv_eq hf r_5 er_6.symm
    refine callSI (As := [.int t1]) (rest := [.int t0]) B w (c_X9_one l _ t1 er_6) (gS kt4_133 kt4_134 kt1_11 kt4_135) hdS_X9_one rfl rfl ⟨Nat.le_of_ble_eq_true rfl, Nat.le_of_ble_eq_true rfl⟩ rfl hl.1 rfl (Nat.le_of_ble_eq_true rfl) dX9_forget_25 ⟨Nat.le_of_ble_eq_true rfl, Nat.le_of_ble_eq_true rfl⟩ (fun H locs w => ?_)
    refine lv_iadd (x := t0) (y := r_5) hx hb dX9_forget_28 ?_
    refine lv_topi (fun x_7 ex_7 => ?_)
    have hf := bindv_eq hf x_7 ex_7
    refine lv_istore_n (lv' := [(1, .int x_7), (0, .ref (ad 0)), (2, .int v2)]) hx hb dX9_forget_29 rfl hl (by decide) rfl (fun ls hl => ?_)
    refine lv_aload_n hx hb dX9_forget_30 rfl (lv_at hl 1 rfl) ?_
    refine gfM_0_19 B w kt4_44 dX9_forget_31 ?_
    refine lv_iload_n hx hb dX9_forget_34 rfl (lv_at hl 2 rfl) ?_
    refine lv_iconst (v := 1) hx hb dX9_forget_35 (by decide) ?_
    obtain ⟨hi_8, hf⟩ := gd_eq hf
    refine asM_5 (x := 1) B w hi_8 dX9_forget_36 (fun H locs ar_9 ear_9 w => ?_)
    have hf := bindv_eq hf ar_9 ear_9
    obtain ⟨x_10, ex_10⟩ : ∃ y : Int32, y = v2 + 1 := ⟨_, rfl⟩
    have hf := bindv_eq hf x_10 ex_10
    refine lv_iinc (v := x_10) (lv' := [(2, .int x_10), (1, .int x_7), (0, .ref (ad 0))]) hx hb dX9_forget_37 hl (k := 2) rfl (by rw [ex_10]; rfl) (by decide) rfl (fun ls hl => ?_)
    refine lv_goto (tgt := 4) hx hb dX9_forget_40 (by decide) ?_
    exact hk4 x_7 x_10 ar_9 H locs ls w (lv_sub hl [2, 1, 0] rfl) hf
  have J4 : ∀ (n : Nat) (v1 : Int32) (v2 : Int32) (ar : Nat → Nat → Int32) (H : Heap) (locs : List Loc) (ls : Array Slot), Wd (EM D ca ak av) A s (wM ad ca fi fl ar) H locs → lv_has ls 3 [(0, .ref (ad 0)), (1, .int v1), (2, .int v2)] → f_X9_forget_4  n v1 v2 ar = some (r0, ar0) → W p l e ({ frames := 1, cells := 0, slots := 0, locals := 20 } : Room) s m args below meth c H locs 0 0 (MQ below (Qi (EM D ca ak av) A (wM ad ca fi fl ar0) r0) args s 0 0 A) (F0 m 4 ls []) := by
    intro  n
    induction n with
    | zero =>
      intro v1 v2 ar H locs ls w hl hf
      cases hf
    | succ n ih =>
      intro v1 v2 ar H locs ls w hl hf
      rw [f_X9_forget_4] at hf
      refine lv_iload_n hx hb dX9_forget_4 rfl (lv_at hl 2 rfl) ?_
      refine lv_bipush (v := 36) hx hb dX9_forget_5 (by decide) ?_
      refine lv_icmp_ge (x := v2) (y := 36) (tgt := 43) hx hb dX9_forget_7 (by decide) (fun c_11 => ?_) (fun c_11 => ?_)
      · have hf := if_t hf c_11
        refine lv_iconst (v := 0) hx hb dX9_forget_43 (by decide) ?_
        refine lv_istore_n (lv' := [(2, .int 0), (0, .ref (ad 0)), (1, .int v1)]) hx hb dX9_forget_44 rfl hl (by decide) rfl (fun ls hl => ?_)
        exact J45  5000 v1 0 ar H locs ls w (lv_sub hl [1, 2, 0] rfl) hf
      · have hf := if_f hf c_11
        refine lv_iload_n hx hb dX9_forget_10 rfl (lv_at hl 1 rfl) ?_
        refine lv_aload_n hx hb dX9_forget_11 rfl (lv_at hl 0 rfl) ?_
        refine gfM_0_19 B w kt4_44 dX9_forget_12 ?_
        refine lv_iload_n hx hb dX9_forget_15 rfl (lv_at hl 2 rfl) ?_
        obtain ⟨hi_12, hf⟩ := gd_eq hf
        refine alM_5 B w hi_12 dX9_forget_16 ?_
        refine lv_if_ne (x := (ar 5 (Int32.toNatClampNeg v2))) (tgt := 24) hx hb dX9_forget_17 (by decide) (fun c_13 => ?_) (fun c_13 => ?_)
        · have hf := if_f hf c_13
          refine lv_iconst (v := 0) hx hb dX9_forget_24 (by decide) ?_
          exact J25 _ ih v2 v1 0 ar H locs ls w (lv_sub hl [0, 2] rfl) hf
        · have hf := if_t hf c_13
          refine lv_iconst (v := 1) hx hb dX9_forget_20 (by decide) ?_
          refine lv_goto (tgt := 25) hx hb dX9_forget_21 (by decide) ?_
          exact J25 _ ih v2 v1 1 ar H locs ls w (lv_sub hl [0, 2] rfl) hf
  unfold f_X9_forget at hf
  refine (show ∀ (H : Heap) (locs : List Loc), Wd (EM D ca ak av) A s (wM ad ca fi fl ar) H locs → W p l e ({ frames := 1, cells := 0, slots := 0, locals := 20 } : Room) s m args below meth c H locs 0 0 (MQ below (Qi (EM D ca ak av) A (wM ad ca fi fl ar0) r0) args s 0 0 A) (F0 m 0 ls []) from ?_) s.heap [] w
  intro H locs w
  refine lv_iconst (v := 0) hx hb dX9_forget_0 (by decide) ?_
  refine lv_istore_n (lv' := [(1, .int 0), (0, .ref (ad 0))]) hx hb dX9_forget_1 rfl hl (by decide) rfl (fun ls hl => ?_)
  refine lv_iconst (v := 0) hx hb dX9_forget_2 (by decide) ?_
  refine lv_istore_n (lv' := [(2, .int 0), (1, .int 0), (0, .ref (ad 0))]) hx hb dX9_forget_3 rfl hl (by decide) rfl (fun ls hl => ?_)
  exact J4  5000 0 0 ar H locs ls w (lv_sub hl [2, 1, 0] rfl) hf
