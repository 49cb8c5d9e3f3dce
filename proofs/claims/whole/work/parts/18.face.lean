def f_X8_feed (fi : Nat → Int32) (ar : Nat → Nat → Int32) (v1 : Int32) (v2 : Int64) : Option (Int32 × (Nat → Int32) × (Nat → Nat → Int32)) := bindv (f_X8_within v1 1 8) (fun r_1 => if (r_1 = 0 : Prop) then (some ((-1002), fi, ar)) else (bind3 (f_X3_append fi ar v1 v2) (fun r_4 fi_5 ar_6 => some (r_4, fi_5, ar_6))))
set_option maxHeartbeats 4000000 in
set_option maxRecDepth 100000 in
theorem c_X8_feed (l : Launch) (D : va_G) (ca : Nat → ClassId) (ak av ad : Nat → Nat) (fi : Nat → Int32) (fl : Nat → Int64) (ar : Nat → Nat → Int32) (v1 : Int32) (v2 : Int64) {r0 : Int32} {fi0 : Nat → Int32} {ar0 : Nat → Nat → Int32} (hf : f_X8_feed fi ar v1 v2 = some (r0, fi0, ar0)) : MtI l yX8_feed cX8_feed 4 { frames := 1, cells := 0, slots := 0, locals := 24 } (EC D ca ak av) [.ref (ad 0), .int v1, .long v2] (wC ad ca fi fl ar) (wC ad ca fi0 fl ar0) r0 := by
  refine MtI.of (own := RX8) (by decide +kernel) rfl (Nat.le_of_ble_eq_true rfl) ?_
  intro p e s m args below meth c A B hr hk w ls hl
  have hx := B.1.1
  have hb := B.1.2.1
  have hown := B.1.2.2.2.1
  have hts := B.1.2.2.2.2
  have hl : lv_has ls 4 [(0, .ref (ad 0)), (1, .int v1), (2, .long v2)] := hl
  unfold f_X8_feed at hf
  refine (show ∀ (H : Heap) (locs : List Loc), Wd (EC D ca ak av) A s (wC ad ca fi fl ar) H locs → W p l e ({ frames := 1, cells := 0, slots := 0, locals := 24 } : Room) s m args below meth c H locs 0 0 (MQ below (Qi (EC D ca ak av) A (wC ad ca fi0 fl ar0) r0) args s 0 0 A) (F0 m 0 ls []) from ?_) s.heap [] w
  intro H locs w
  refine lv_iload_n hx hb dX8_feed_0 rfl (lv_at hl 1 rfl) ?_
  refine lv_iconst (v := 1) hx hb dX8_feed_1 (by decide) ?_
  refine lv_bipush (v := 8) hx hb dX8_feed_2 (by decide) ?_
  obtain ⟨r_1, er_2⟩ : ∃ y, f_X8_within v1 1 8 = y := ⟨_, rfl⟩
  have hf := bindv_eq hf r_1 er_2.symm
  refine callSZ (As := [.int v1, .int 1, .int 8]) (rest := []) B w (c_X8_within l _ v1 1 8 er_2) (gS kt2_72 kt2_73 kt1_1 kt2_74) hdS_X8_within rfl rfl ⟨Nat.le_of_ble_eq_true rfl, Nat.le_of_ble_eq_true rfl⟩ rfl hl.1 rfl (Nat.le_of_ble_eq_true rfl) dX8_feed_4 ⟨Nat.le_of_ble_eq_true rfl, Nat.le_of_ble_eq_true rfl⟩ (fun H locs w hzr_1 => ?_)
  refine lv_if_ne (x := r_1) (tgt := 14) hx hb dX8_feed_7 (by decide) (fun c_3 => ?_) (fun c_3 => ?_)
  · have hf := if_f hf c_3
    refine lv_aload_n hx hb dX8_feed_14 rfl (lv_at hl 0 rfl) ?_
    refine gfC_0_1 B w kt2_41 dX8_feed_15 ?_
    refine lv_iload_n hx hb dX8_feed_18 rfl (lv_at hl 1 rfl) ?_
    refine lv_lload_n hx hb dX8_feed_19 rfl (lv_at hl 2 rfl) ?_
    obtain ⟨r_4, fi_5, ar_6, er_7, hf⟩ := bind3_eq hf
    refine callVI (As := [.int v1, .long v2]) (rest := []) B w (c_X3_append l D ca ak av ad fi fl ar v1 v2 er_7) (gV kt2_75 kt2_76 kt2_77 kt1_3 kt2_78) hdV_X3_append 2 rfl rfl rfl rfl ⟨Nat.le_of_ble_eq_true rfl, Nat.le_of_ble_eq_true rfl⟩ rfl hl.1 rfl (Nat.le_of_ble_eq_true rfl) dX8_feed_20 ⟨Nat.le_of_ble_eq_true rfl, Nat.le_of_ble_eq_true rfl⟩ (fun H locs w => ?_)
    have hf : some (r_4, fi_5, ar_6) = some (r0, fi0, ar0) := hf
    obtain ⟨q0, q1, q2⟩ := so3 hf
    subst q0
    subst q1
    subst q2
    exact retI B hr hk w dX8_feed_23
  · have hf := if_t hf c_3
    refine lv_sipush (v := (-1002)) hx hb dX8_feed_10 (by decide) ?_
    have hf : some ((-1002), fi, ar) = some (r0, fi0, ar0) := hf
    obtain ⟨q0, q1, q2⟩ := so3 hf
    subst q0
    subst q1
    subst q2
    exact retI B hr hk w dX8_feed_13
def f_X8_read (fi : Nat → Int32) (ar : Nat → Nat → Int32) : Option (Int32 × (Nat → Int32)) := bind2 (f_X3_parse fi ar) (fun r_1 fi_2 => if (r_1 < 0 : Prop) then (some (r_1, fi_2)) else (bind1 (f_X6_become fi_2) (fun fi_5 => bind1 (f_X4_drop fi_5) (fun fi_7 => some (r_1, fi_7)))))
set_option maxHeartbeats 4000000 in
set_option maxRecDepth 100000 in
theorem c_X8_read (l : Launch) (D : va_G) (ca : Nat → ClassId) (ak av ad : Nat → Nat) (fi : Nat → Int32) (fl : Nat → Int64) (ar : Nat → Nat → Int32) {r0 : Int32} {fi0 : Nat → Int32} (hf : f_X8_read fi ar = some (r0, fi0)) : MtI l yX8_read cX8_read 2 { frames := 10, cells := 0, slots := 0, locals := 253 } (EC D ca ak av) [.ref (ad 0)] (wC ad ca fi fl ar) (wC ad ca fi0 fl ar) r0 := by
  refine MtI.of (own := RX8) (by decide +kernel) rfl (Nat.le_of_ble_eq_true rfl) ?_
  intro p e s m args below meth c A B hr hk w ls hl
  have hx := B.1.1
  have hb := B.1.2.1
  have hown := B.1.2.2.2.1
  have hts := B.1.2.2.2.2
  have hl : lv_has ls 2 [(0, .ref (ad 0))] := hl
  unfold f_X8_read at hf
  refine (show ∀ (H : Heap) (locs : List Loc), Wd (EC D ca ak av) A s (wC ad ca fi fl ar) H locs → W p l e ({ frames := 10, cells := 0, slots := 0, locals := 253 } : Room) s m args below meth c H locs 0 0 (MQ below (Qi (EC D ca ak av) A (wC ad ca fi0 fl ar) r0) args s 0 0 A) (F0 m 0 ls []) from ?_) s.heap [] w
  intro H locs w
  refine lv_aload_n hx hb dX8_read_0 rfl (lv_at hl 0 rfl) ?_
  refine gfC_0_1 B w kt2_41 dX8_read_1 ?_
  obtain ⟨r_1, fi_2, er_3, hf⟩ := bind2_eq hf
  refine callVI (As := []) (rest := []) B w (c_X3_parse l D ca ak av ad fi fl ar  er_3) (gV kt2_83 kt2_84 kt2_85 kt1_3 kt2_86) hdV_X3_parse 2 rfl rfl rfl rfl ⟨Nat.le_of_ble_eq_true rfl, Nat.le_of_ble_eq_true rfl⟩ rfl hl.1 rfl (Nat.le_of_ble_eq_true rfl) dX8_read_4 ⟨Nat.le_of_ble_eq_true rfl, Nat.le_of_ble_eq_true rfl⟩ (fun H locs w => ?_)
  refine lv_istore_n (lv' := [(1, .int r_1), (0, .ref (ad 0))]) hx hb dX8_read_7 rfl hl (by decide) rfl (fun ls hl => ?_)
  refine lv_iload_n hx hb dX8_read_8 rfl (lv_at hl 0 rfl) ?_
  refine lv_if_lt (x := r_1) (tgt := 33) hx hb dX8_read_9 (by decide) (fun c_4 => ?_) (fun c_4 => ?_)
  · have hf := if_t hf c_4
    refine lv_iload_n hx hb dX8_read_33 rfl (lv_at hl 0 rfl) ?_
    have hf : some (r_1, fi_2) = some (r0, fi0) := hf
    obtain ⟨q0, q1⟩ := so2 hf
    subst q0
    subst q1
    exact retI B hr hk w dX8_read_34
  · have hf := if_f hf c_4
    refine lv_aload_n hx hb dX8_read_12 rfl (lv_at hl 1 rfl) ?_
    refine gfC_0_0 B w kt2_40 dX8_read_13 ?_
    refine lv_aload_n hx hb dX8_read_16 rfl (lv_at hl 1 rfl) ?_
    refine gfC_0_1 B w kt2_41 dX8_read_17 ?_
    refine gfC_2_1 B w kt1_95 dX8_read_20 ?_
    obtain ⟨fi_5, er_6, hf⟩ := bind1_eq hf
    refine callVV (As := [.ref (ad 4)]) (rest := []) B w (c_X6_become l D ca ak av ad fi_2 fl ar  er_6) (gV kt2_189 kt2_190 kt2_191 kt1_2 kt2_192) hdV_X6_become 1 rfl rfl rfl rfl ⟨Nat.le_of_ble_eq_true rfl, Nat.le_of_ble_eq_true rfl⟩ rfl hl.1 rfl (Nat.le_of_ble_eq_true rfl) dX8_read_23 ⟨Nat.le_of_ble_eq_true rfl, Nat.le_of_ble_eq_true rfl⟩ (fun H locs w => ?_)
    refine lv_aload_n hx hb dX8_read_26 rfl (lv_at hl 1 rfl) ?_
    refine gfC_0_6 B w kt2_46 dX8_read_27 ?_
    obtain ⟨fi_7, er_8, hf⟩ := bind1_eq hf
    refine callVV (As := []) (rest := []) B w (c_X4_drop l D ca ak av ad fi_5 fl ar  er_8) (gV kt2_193 kt2_194 kt2_195 kt1_8 kt2_196) hdV_X4_drop 13 rfl rfl rfl rfl ⟨Nat.le_of_ble_eq_true rfl, Nat.le_of_ble_eq_true rfl⟩ rfl hl.1 rfl (Nat.le_of_ble_eq_true rfl) dX8_read_30 ⟨Nat.le_of_ble_eq_true rfl, Nat.le_of_ble_eq_true rfl⟩ (fun H locs w => ?_)
    refine lv_iload_n hx hb dX8_read_33 rfl (lv_at hl 0 rfl) ?_
    have hf : some (r_1, fi_7) = some (r0, fi0) := hf
    obtain ⟨q0, q1⟩ := so2 hf
    subst q0
    subst q1
    exact retI B hr hk w dX8_read_34
def f_X8_fault (fi : Nat → Int32) : Int32 := (fi 10)
set_option maxHeartbeats 4000000 in
set_option maxRecDepth 100000 in
theorem c_X8_fault (l : Launch) (D : va_G) (ca : Nat → ClassId) (ak av ad : Nat → Nat) (fi : Nat → Int32) (fl : Nat → Int64) (ar : Nat → Nat → Int32) {r0 : Int32} (hf : f_X8_fault fi = r0) : MtI l yX8_fault cX8_fault 1 { frames := 0, cells := 0, slots := 0, locals := 0 } (EC D ca ak av) [.ref (ad 0)] (wC ad ca fi fl ar) (wC ad ca fi fl ar) r0 := by
  refine MtI.of (own := RX8) (by decide +kernel) rfl (Nat.le_of_ble_eq_true rfl) ?_
  intro p e s m args below meth c A B hr hk w ls hl
  have hx := B.1.1
  have hb := B.1.2.1
  have hown := B.1.2.2.2.1
  have hts := B.1.2.2.2.2
  have hl : lv_has ls 1 [(0, .ref (ad 0))] := hl
  unfold f_X8_fault at hf
  refine (show ∀ (H : Heap) (locs : List Loc), Wd (EC D ca ak av) A s (wC ad ca fi fl ar) H locs → W p l e ({ frames := 0, cells := 0, slots := 0, locals := 0 } : Room) s m args below meth c H locs 0 0 (MQ below (Qi (EC D ca ak av) A (wC ad ca fi fl ar) r0) args s 0 0 A) (F0 m 0 ls []) from ?_) s.heap [] w
  intro H locs w
  refine lv_aload_n hx hb dX8_fault_0 rfl (lv_at hl 0 rfl) ?_
  refine gfC_0_1 B w kt2_41 dX8_fault_1 ?_
  refine gfC_2_3 B w kt1_99 dX8_fault_4 ?_
  have hf : (fi 10) = r0 := hf
  subst hf
  exact retI B hr hk w dX8_fault_7
def f_X8_village (fi : Nat → Int32) (v1 : Int32) : Int32 := if (v1 = 0 : Prop) then ((fi 1)) else (if (v1 = 1 : Prop) then ((fi 2)) else (if (v1 = 2 : Prop) then ((fi 3)) else (if (v1 = 3 : Prop) then ((fi 4)) else (if (v1 = 4 : Prop) then ((fi 5)) else (if (v1 = 5 : Prop) then ((fi 6)) else (if (v1 = 6 : Prop) then ((fi 7)) else (if (v1 = 7 : Prop) then ((fi 8)) else (if (v1 = 8 : Prop) then ((fi 0)) else (if (v1 = 9 : Prop) then ((fi 9)) else ((-1002)))))))))))
set_option maxHeartbeats 4000000 in
set_option maxRecDepth 100000 in
theorem c_X8_village (l : Launch) (D : va_G) (ca : Nat → ClassId) (ak av ad : Nat → Nat) (fi : Nat → Int32) (fl : Nat → Int64) (ar : Nat → Nat → Int32) (v1 : Int32) {r0 : Int32} (hf : f_X8_village fi v1 = r0) : MtI l yX8_village cX8_village 2 { frames := 0, cells := 0, slots := 0, locals := 0 } (EC D ca ak av) [.ref (ad 0), .int v1] (wC ad ca fi fl ar) (wC ad ca fi fl ar) r0 := by
  refine MtI.of (own := RX8) (by decide +kernel) rfl (Nat.le_of_ble_eq_true rfl) ?_
  intro p e s m args below meth c A B hr hk w ls hl
  have hx := B.1.1
  have hb := B.1.2.1
  have hown := B.1.2.2.2.1
  have hts := B.1.2.2.2.2
  have hl : lv_has ls 2 [(0, .ref (ad 0)), (1, .int v1)] := hl
  unfold f_X8_village at hf
  refine (show ∀ (H : Heap) (locs : List Loc), Wd (EC D ca ak av) A s (wC ad ca fi fl ar) H locs → W p l e ({ frames := 0, cells := 0, slots := 0, locals := 0 } : Room) s m args below meth c H locs 0 0 (MQ below (Qi (EC D ca ak av) A (wC ad ca fi fl ar) r0) args s 0 0 A) (F0 m 0 ls []) from ?_) s.heap [] w
  intro H locs w
  refine lv_iload_n hx hb dX8_village_0 rfl (lv_at hl 1 rfl) ?_
  by_cases c_1 : v1 = 0
  · have hf := if_t hf c_1
    refine lv_tableIn (tgt := 56) (off := 55) hx hb dX8_village_1 (by rw [c_1]; decide) (by rw [c_1]; decide) (by rw [c_1]; decide) (by decide) ?_
    refine lv_aload_n hx hb dX8_village_56 rfl (lv_at hl 0 rfl) ?_
    refine gfC_0_0 B w kt2_40 dX8_village_57 ?_
    refine gfC_1_0 B w kt1_38 dX8_village_60 ?_
    have hf : (fi 1) = r0 := hf
    subst hf
    exact retI B hr hk w dX8_village_63
  · have hf := if_f hf c_1
    by_cases c_2 : v1 = 1
    · have hf := if_t hf c_2
      refine lv_tableIn (tgt := 64) (off := 63) hx hb dX8_village_1 (by rw [c_2]; decide) (by rw [c_2]; decide) (by rw [c_2]; decide) (by decide) ?_
      refine lv_aload_n hx hb dX8_village_64 rfl (lv_at hl 0 rfl) ?_
      refine gfC_0_0 B w kt2_40 dX8_village_65 ?_
      refine gfC_1_1 B w kt1_42 dX8_village_68 ?_
      have hf : (fi 2) = r0 := hf
      subst hf
      exact retI B hr hk w dX8_village_71
    · have hf := if_f hf c_2
      by_cases c_3 : v1 = 2
      · have hf := if_t hf c_3
        refine lv_tableIn (tgt := 72) (off := 71) hx hb dX8_village_1 (by rw [c_3]; decide) (by rw [c_3]; decide) (by rw [c_3]; decide) (by decide) ?_
        refine lv_aload_n hx hb dX8_village_72 rfl (lv_at hl 0 rfl) ?_
        refine gfC_0_0 B w kt2_40 dX8_village_73 ?_
        refine gfC_1_2 B w kt1_46 dX8_village_76 ?_
        have hf : (fi 3) = r0 := hf
        subst hf
        exact retI B hr hk w dX8_village_79
      · have hf := if_f hf c_3
        by_cases c_4 : v1 = 3
        · have hf := if_t hf c_4
          refine lv_tableIn (tgt := 80) (off := 79) hx hb dX8_village_1 (by rw [c_4]; decide) (by rw [c_4]; decide) (by rw [c_4]; decide) (by decide) ?_
          refine lv_aload_n hx hb dX8_village_80 rfl (lv_at hl 0 rfl) ?_
          refine gfC_0_0 B w kt2_40 dX8_village_81 ?_
          refine gfC_1_3 B w kt1_50 dX8_village_84 ?_
          have hf : (fi 4) = r0 := hf
          subst hf
          exact retI B hr hk w dX8_village_87
        · have hf := if_f hf c_4
          by_cases c_5 : v1 = 4
          · have hf := if_t hf c_5
            refine lv_tableIn (tgt := 88) (off := 87) hx hb dX8_village_1 (by rw [c_5]; decide) (by rw [c_5]; decide) (by rw [c_5]; decide) (by decide) ?_
            refine lv_aload_n hx hb dX8_village_88 rfl (lv_at hl 0 rfl) ?_
            refine gfC_0_0 B w kt2_40 dX8_village_89 ?_
            refine gfC_1_4 B w kt1_54 dX8_village_92 ?_
            have hf : (fi 5) = r0 := hf
            subst hf
            exact retI B hr hk w dX8_village_95
          · have hf := if_f hf c_5
            by_cases c_6 : v1 = 5
            · have hf := if_t hf c_6
              refine lv_tableIn (tgt := 96) (off := 95) hx hb dX8_village_1 (by rw [c_6]; decide) (by rw [c_6]; decide) (by rw [c_6]; decide) (by decide) ?_
              refine lv_aload_n hx hb dX8_village_96 rfl (lv_at hl 0 rfl) ?_
              refine gfC_0_0 B w kt2_40 dX8_village_97 ?_
              refine gfC_1_5 B w kt1_58 dX8_village_100 ?_
              have hf : (fi 6) = r0 := hf
              subst hf
              exact retI B hr hk w dX8_village_103
            · have hf := if_f hf c_6
              by_cases c_7 : v1 = 6
              · have hf := if_t hf c_7
                refine lv_tableIn (tgt := 104) (off := 103) hx hb dX8_village_1 (by rw [c_7]; decide) (by rw [c_7]; decide) (by rw [c_7]; decide) (by decide) ?_
                refine lv_aload_n hx hb dX8_village_104 rfl (lv_at hl 0 rfl) ?_
                refine gfC_0_0 B w kt2_40 dX8_village_105 ?_
                refine gfC_1_6 B w kt1_61 dX8_village_108 ?_
                have hf : (fi 7) = r0 := hf
                subst hf
                exact retI B hr hk w dX8_village_111
              · have hf := if_f hf c_7
                by_cases c_8 : v1 = 7
                · have hf := if_t hf c_8
                  refine lv_tableIn (tgt := 112) (off := 111) hx hb dX8_village_1 (by rw [c_8]; decide) (by rw [c_8]; decide) (by rw [c_8]; decide) (by decide) ?_
                  refine lv_aload_n hx hb dX8_village_112 rfl (lv_at hl 0 rfl) ?_
                  refine gfC_0_0 B w kt2_40 dX8_village_113 ?_
                  refine gfC_1_7 B w kt1_65 dX8_village_116 ?_
                  have hf : (fi 8) = r0 := hf
                  subst hf
                  exact retI B hr hk w dX8_village_119
                · have hf := if_f hf c_8
                  by_cases c_9 : v1 = 8
                  · have hf := if_t hf c_9
                    refine lv_tableIn (tgt := 120) (off := 119) hx hb dX8_village_1 (by rw [c_9]; decide) (by rw [c_9]; decide) (by rw [c_9]; decide) (by decide) ?_
                    refine lv_aload_n hx hb dX8_village_120 rfl (lv_at hl 0 rfl) ?_
                    refine gfC_0_8 B w kt2_48 dX8_village_121 ?_
                    have hf : (fi 0) = r0 := hf
                    subst hf
                    exact retI B hr hk w dX8_village_124
                  · have hf := if_f hf c_9
                    by_cases c_10 : v1 = 9
                    · have hf := if_t hf c_10
                      refine lv_tableIn (tgt := 125) (off := 124) hx hb dX8_village_1 (by rw [c_10]; decide) (by rw [c_10]; decide) (by rw [c_10]; decide) (by decide) ?_
                      refine lv_aload_n hx hb dX8_village_125 rfl (lv_at hl 0 rfl) ?_
                      refine gfC_0_1 B w kt2_41 dX8_village_126 ?_
                      refine gfC_2_2 B w kt1_97 dX8_village_129 ?_
                      have hf : (fi 9) = r0 := hf
                      subst hf
                      exact retI B hr hk w dX8_village_132
                    · have hf := if_f hf c_10
                      have tc_1 := lv_neT c_1 (show (0 : Int32).toInt = 0 by decide)
                      have tc_2 := lv_neT c_2 (show (1 : Int32).toInt = 1 by decide)
                      have tc_3 := lv_neT c_3 (show (2 : Int32).toInt = 2 by decide)
                      have tc_4 := lv_neT c_4 (show (3 : Int32).toInt = 3 by decide)
                      have tc_5 := lv_neT c_5 (show (4 : Int32).toInt = 4 by decide)
                      have tc_6 := lv_neT c_6 (show (5 : Int32).toInt = 5 by decide)
                      have tc_7 := lv_neT c_7 (show (6 : Int32).toInt = 6 by decide)
                      have tc_8 := lv_neT c_8 (show (7 : Int32).toInt = 7 by decide)
                      have tc_9 := lv_neT c_9 (show (8 : Int32).toInt = 8 by decide)
                      have tc_10 := lv_neT c_10 (show (9 : Int32).toInt = 9 by decide)
                      refine lv_tableOut (tgt := 133) hx hb dX8_village_1 (by omega) (by decide) ?_
                      refine lv_sipush (v := (-1002)) hx hb dX8_village_133 (by decide) ?_
                      have hf : (-1002) = r0 := hf
                      subst hf
                      exact retI B hr hk w dX8_village_136
def f_X8_least (fi : Nat → Int32) (v1 : Int32) : Option (Int32 × (Nat → Int32)) := bindv (f_X8_within v1 0 999999) (fun r_1 => if (r_1 = 0 : Prop) then (some ((-1002), fi)) else (bindv ((fi 0) : Int32) (fun x_4 => bindv (upd fi 0 v1) (fun fi_5 => some (x_4, fi_5)))))
set_option maxHeartbeats 4000000 in
set_option maxRecDepth 100000 in
theorem c_X8_least (l : Launch) (D : va_G) (ca : Nat → ClassId) (ak av ad : Nat → Nat) (fi : Nat → Int32) (fl : Nat → Int64) (ar : Nat → Nat → Int32) (v1 : Int32) {r0 : Int32} {fi0 : Nat → Int32} (hf : f_X8_least fi v1 = some (r0, fi0)) : MtI l yX8_least cX8_least 3 { frames := 1, cells := 0, slots := 0, locals := 22 } (EC D ca ak av) [.ref (ad 0), .int v1] (wC ad ca fi fl ar) (wC ad ca fi0 fl ar) r0 := by
  refine MtI.of (own := RX8) (by decide +kernel) rfl (Nat.le_of_ble_eq_true rfl) ?_
  intro p e s m args below meth c A B hr hk w ls hl
  have hx := B.1.1
  have hb := B.1.2.1
  have hown := B.1.2.2.2.1
  have hts := B.1.2.2.2.2
  have hl : lv_has ls 3 [(0, .ref (ad 0)), (1, .int v1)] := hl
  unfold f_X8_least at hf
  refine (show ∀ (H : Heap) (locs : List Loc), Wd (EC D ca ak av) A s (wC ad ca fi fl ar) H locs → W p l e ({ frames := 1, cells := 0, slots := 0, locals := 22 } : Room) s m args below meth c H locs 0 0 (MQ below (Qi (EC D ca ak av) A (wC ad ca fi0 fl ar) r0) args s 0 0 A) (F0 m 0 ls []) from ?_) s.heap [] w
  intro H locs w
  refine lv_iload_n hx hb dX8_least_0 rfl (lv_at hl 1 rfl) ?_
  refine lv_iconst (v := 0) hx hb dX8_least_1 (by decide) ?_
  refine lv_ldc (own := RX8) (v := 999999) hx hb hown (hts _ kt2_210) dX8_least_2 ?_
  obtain ⟨r_1, er_2⟩ : ∃ y, f_X8_within v1 0 999999 = y := ⟨_, rfl⟩
  have hf := bindv_eq hf r_1 er_2.symm
  refine callSZ (As := [.int v1, .int 0, .int 999999]) (rest := []) B w (c_X8_within l _ v1 0 999999 er_2) (gS kt2_72 kt2_73 kt1_1 kt2_74) hdS_X8_within rfl rfl ⟨Nat.le_of_ble_eq_true rfl, Nat.le_of_ble_eq_true rfl⟩ rfl hl.1 rfl (Nat.le_of_ble_eq_true rfl) dX8_least_4 ⟨Nat.le_of_ble_eq_true rfl, Nat.le_of_ble_eq_true rfl⟩ (fun H locs w hzr_1 => ?_)
  refine lv_if_ne (x := r_1) (tgt := 14) hx hb dX8_least_7 (by decide) (fun c_3 => ?_) (fun c_3 => ?_)
  · have hf := if_f hf c_3
    refine lv_aload_n hx hb dX8_least_14 rfl (lv_at hl 0 rfl) ?_
    refine gfC_0_8 B w kt2_48 dX8_least_15 ?_
    refine lv_topi (fun x_4 ex_4 => ?_)
    have hf := bindv_eq hf x_4 ex_4
    refine lv_istore_n (lv' := [(2, .int x_4), (0, .ref (ad 0)), (1, .int v1)]) hx hb dX8_least_18 rfl hl (by decide) rfl (fun ls hl => ?_)
    refine lv_aload_n hx hb dX8_least_19 rfl (lv_at hl 1 rfl) ?_
    refine lv_iload_n hx hb dX8_least_20 rfl (lv_at hl 2 rfl) ?_
    refine pfC_0_8 (v := v1) B w kt2_48 dX8_least_21 (fun H locs fi_5 efi_5 w => ?_)
    have hf := bindv_eq hf fi_5 efi_5
    refine lv_iload_n hx hb dX8_least_24 rfl (lv_at hl 0 rfl) ?_
    have hf : some (x_4, fi_5) = some (r0, fi0) := hf
    obtain ⟨q0, q1⟩ := so2 hf
    subst q0
    subst q1
    exact retI B hr hk w dX8_least_25
  · have hf := if_t hf c_3
    refine lv_sipush (v := (-1002)) hx hb dX8_least_10 (by decide) ?_
    have hf : some ((-1002), fi) = some (r0, fi0) := hf
    obtain ⟨q0, q1⟩ := so2 hf
    subst q0
    subst q1
    exact retI B hr hk w dX8_least_13
def f_X8_does (v1 : Int32) (v2 : Int32) (v3 : Int32) (v4 : Int32) : Int32 := bindv (f_X8_isRule v1) (fun r_1 => if (r_1 = 0 : Prop) then ((-1002)) else (bindv (f_X8_within v2 0 1) (fun r_4 => if (r_4 = 0 : Prop) then ((-1002)) else (bindv (f_X8_within v3 0 1) (fun r_7 => if (r_7 = 0 : Prop) then ((-1002)) else (bindv (f_X8_within v4 (-1) 1) (fun r_10 => if (r_10 = 0 : Prop) then ((-1002)) else (if (v4 = (-1) : Prop) then (bindv (f_X8_wayOf v1) (fun r_18 => bindv (f_X8_bit r_18 ((2 * v2) + v3)) (fun r_20 => r_20))) else (bindv (f_X8_namingOf v1) (fun r_14 => bindv (f_X8_bit r_14 (((4 * v2) + (2 * v3)) + v4)) (fun r_16 => r_16)))))))))))
set_option maxHeartbeats 4000000 in
set_option maxRecDepth 100000 in
theorem c_X8_does (l : Launch) (D : va_G) (ca : Nat → ClassId) (ak av ad : Nat → Nat) (fi : Nat → Int32) (fl : Nat → Int64) (ar : Nat → Nat → Int32) (v1 : Int32) (v2 : Int32) (v3 : Int32) (v4 : Int32) {r0 : Int32} (hf : f_X8_does v1 v2 v3 v4 = r0) : MtI l yX8_does cX8_does 5 { frames := 2, cells := 0, slots := 0, locals := 42 } (EC D ca ak av) [.ref (ad 0), .int v1, .int v2, .int v3, .int v4] (wC ad ca fi fl ar) (wC ad ca fi fl ar) r0 := by
  refine MtI.of (own := RX8) (by decide +kernel) rfl (Nat.le_of_ble_eq_true rfl) ?_
  intro p e s m args below meth c A B hr hk w ls hl
  have hx := B.1.1
  have hb := B.1.2.1
  have hown := B.1.2.2.2.1
  have hts := B.1.2.2.2.2
  have hl : lv_has ls 5 [(0, .ref (ad 0)), (1, .int v1), (2, .int v2), (3, .int v3), (4, .int v4)] := hl
  unfold f_X8_does at hf
  refine (show ∀ (H : Heap) (locs : List Loc), Wd (EC D ca ak av) A s (wC ad ca fi fl ar) H locs → W p l e ({ frames := 2, cells := 0, slots := 0, locals := 42 } : Room) s m args below meth c H locs 0 0 (MQ below (Qi (EC D ca ak av) A (wC ad ca fi fl ar) r0) args s 0 0 A) (F0 m 0 ls []) from ?_) s.heap [] w
  intro H locs w
  refine lv_iload_n hx hb dX8_does_0 rfl (lv_at hl 1 rfl) ?_
  obtain ⟨r_1, er_2⟩ : ∃ y, f_X8_isRule v1 = y := ⟨_, rfl⟩
  have hf := bindv_eq hf r_1 er_2.symm
  refine callSZ (As := [.int v1]) (rest := []) B w (c_X8_isRule l _ v1 er_2) (gS kt2_215 kt2_216 kt1_1 kt2_217) hdS_X8_isRule rfl rfl ⟨Nat.le_of_ble_eq_true rfl, Nat.le_of_ble_eq_true rfl⟩ rfl hl.1 rfl (Nat.le_of_ble_eq_true rfl) dX8_does_1 ⟨Nat.le_of_ble_eq_true rfl, Nat.le_of_ble_eq_true rfl⟩ (fun H locs w hzr_1 => ?_)
  refine lv_if_eq (x := r_1) (tgt := 35) hx hb dX8_does_4 (by decide) (fun c_3 => ?_) (fun c_3 => ?_)
  · have hf := if_t hf c_3
    refine lv_sipush (v := (-1002)) hx hb dX8_does_35 (by decide) ?_
    have hf : (-1002) = r0 := hf
    subst hf
    exact retI B hr hk w dX8_does_38
  · have hf := if_f hf c_3
    refine lv_iload_n hx hb dX8_does_7 rfl (lv_at hl 2 rfl) ?_
    refine lv_iconst (v := 0) hx hb dX8_does_8 (by decide) ?_
    refine lv_iconst (v := 1) hx hb dX8_does_9 (by decide) ?_
    obtain ⟨r_4, er_5⟩ : ∃ y, f_X8_within v2 0 1 = y := ⟨_, rfl⟩
    have hf := bindv_eq hf r_4 er_5.symm
    refine callSZ (As := [.int v2, .int 0, .int 1]) (rest := []) B w (c_X8_within l _ v2 0 1 er_5) (gS kt2_72 kt2_73 kt1_1 kt2_74) hdS_X8_within rfl rfl ⟨Nat.le_of_ble_eq_true rfl, Nat.le_of_ble_eq_true rfl⟩ rfl hl.1 rfl (Nat.le_of_ble_eq_true rfl) dX8_does_10 ⟨Nat.le_of_ble_eq_true rfl, Nat.le_of_ble_eq_true rfl⟩ (fun H locs w hzr_4 => ?_)
    refine lv_if_eq (x := r_4) (tgt := 35) hx hb dX8_does_13 (by decide) (fun c_6 => ?_) (fun c_6 => ?_)
    · have hf := if_t hf c_6
      refine lv_sipush (v := (-1002)) hx hb dX8_does_35 (by decide) ?_
      have hf : (-1002) = r0 := hf
      subst hf
      exact retI B hr hk w dX8_does_38
    · have hf := if_f hf c_6
      refine lv_iload_n hx hb dX8_does_16 rfl (lv_at hl 3 rfl) ?_
      refine lv_iconst (v := 0) hx hb dX8_does_17 (by decide) ?_
      refine lv_iconst (v := 1) hx hb dX8_does_18 (by decide) ?_
      obtain ⟨r_7, er_8⟩ : ∃ y, f_X8_within v3 0 1 = y := ⟨_, rfl⟩
      have hf := bindv_eq hf r_7 er_8.symm
      refine callSZ (As := [.int v3, .int 0, .int 1]) (rest := []) B w (c_X8_within l _ v3 0 1 er_8) (gS kt2_72 kt2_73 kt1_1 kt2_74) hdS_X8_within rfl rfl ⟨Nat.le_of_ble_eq_true rfl, Nat.le_of_ble_eq_true rfl⟩ rfl hl.1 rfl (Nat.le_of_ble_eq_true rfl) dX8_does_19 ⟨Nat.le_of_ble_eq_true rfl, Nat.le_of_ble_eq_true rfl⟩ (fun H locs w hzr_7 => ?_)
      refine lv_if_eq (x := r_7) (tgt := 35) hx hb dX8_does_22 (by decide) (fun c_9 => ?_) (fun c_9 => ?_)
      · have hf := if_t hf c_9
        refine lv_sipush (v := (-1002)) hx hb dX8_does_35 (by decide) ?_
        have hf : (-1002) = r0 := hf
        subst hf
        exact retI B hr hk w dX8_does_38
      · have hf := if_f hf c_9
        refine lv_iload hx hb dX8_does_25 (lv_at hl 4 rfl) ?_
        refine lv_iconst (v := (-1)) hx hb dX8_does_27 (by decide) ?_
        refine lv_iconst (v := 1) hx hb dX8_does_28 (by decide) ?_
        obtain ⟨r_10, er_11⟩ : ∃ y, f_X8_within v4 (-1) 1 = y := ⟨_, rfl⟩
        have hf := bindv_eq hf r_10 er_11.symm
        refine callSZ (As := [.int v4, .int (-1), .int 1]) (rest := []) B w (c_X8_within l _ v4 (-1) 1 er_11) (gS kt2_72 kt2_73 kt1_1 kt2_74) hdS_X8_within rfl rfl ⟨Nat.le_of_ble_eq_true rfl, Nat.le_of_ble_eq_true rfl⟩ rfl hl.1 rfl (Nat.le_of_ble_eq_true rfl) dX8_does_29 ⟨Nat.le_of_ble_eq_true rfl, Nat.le_of_ble_eq_true rfl⟩ (fun H locs w hzr_10 => ?_)
        refine lv_if_ne (x := r_10) (tgt := 39) hx hb dX8_does_32 (by decide) (fun c_12 => ?_) (fun c_12 => ?_)
        · have hf := if_f hf c_12
          refine lv_iload hx hb dX8_does_39 (lv_at hl 4 rfl) ?_
          refine lv_iconst (v := (-1)) hx hb dX8_does_41 (by decide) ?_
          refine lv_icmp_ne (x := v4) (y := (-1)) (tgt := 58) hx hb dX8_does_42 (by decide) (fun c_13 => ?_) (fun c_13 => ?_)
          · have hf := if_f hf c_13
            refine lv_iload_n hx hb dX8_does_58 rfl (lv_at hl 1 rfl) ?_
            obtain ⟨r_14, er_15⟩ : ∃ y, f_X8_namingOf v1 = y := ⟨_, rfl⟩
            have hf := bindv_eq hf r_14 er_15.symm
            refine callSI (As := [.int v1]) (rest := []) B w (c_X8_namingOf l _ v1 er_15) (gS kt2_222 kt2_223 kt1_1 kt2_224) hdS_X8_namingOf rfl rfl ⟨Nat.le_of_ble_eq_true rfl, Nat.le_of_ble_eq_true rfl⟩ rfl hl.1 rfl (Nat.le_of_ble_eq_true rfl) dX8_does_59 ⟨Nat.le_of_ble_eq_true rfl, Nat.le_of_ble_eq_true rfl⟩ (fun H locs w => ?_)
            refine lv_iconst (v := 4) hx hb dX8_does_62 (by decide) ?_
            refine lv_iload_n hx hb dX8_does_63 rfl (lv_at hl 2 rfl) ?_
            refine lv_imul (x := 4) (y := v2) hx hb dX8_does_64 ?_
            refine lv_iconst (v := 2) hx hb dX8_does_65 (by decide) ?_
            refine lv_iload_n hx hb dX8_does_66 rfl (lv_at hl 3 rfl) ?_
            refine lv_imul (x := 2) (y := v3) hx hb dX8_does_67 ?_
            refine lv_iadd (x := (4 * v2)) (y := (2 * v3)) hx hb dX8_does_68 ?_
            refine lv_iload hx hb dX8_does_69 (lv_at hl 4 rfl) ?_
            refine lv_iadd (x := ((4 * v2) + (2 * v3))) (y := v4) hx hb dX8_does_71 ?_
            obtain ⟨r_16, er_17⟩ : ∃ y, f_X8_bit r_14 (((4 * v2) + (2 * v3)) + v4) = y := ⟨_, rfl⟩
            have hf := bindv_eq hf r_16 er_17.symm
            refine callSI (As := [.int r_14, .int (((4 * v2) + (2 * v3)) + v4)]) (rest := []) B w (c_X8_bit l _ r_14 (((4 * v2) + (2 * v3)) + v4) er_17) (gS kt2_221 kt2_165 kt1_1 kt2_166) hdS_X8_bit rfl rfl ⟨Nat.le_of_ble_eq_true rfl, Nat.le_of_ble_eq_true rfl⟩ rfl hl.1 rfl (Nat.le_of_ble_eq_true rfl) dX8_does_72 ⟨Nat.le_of_ble_eq_true rfl, Nat.le_of_ble_eq_true rfl⟩ (fun H locs w => ?_)
            have hf : r_16 = r0 := hf
            subst hf
            exact retI B hr hk w dX8_does_75
          · have hf := if_t hf c_13
            refine lv_iload_n hx hb dX8_does_45 rfl (lv_at hl 1 rfl) ?_
            obtain ⟨r_18, er_19⟩ : ∃ y, f_X8_wayOf v1 = y := ⟨_, rfl⟩
            have hf := bindv_eq hf r_18 er_19.symm
            refine callSI (As := [.int v1]) (rest := []) B w (c_X8_wayOf l _ v1 er_19) (gS kt2_218 kt2_219 kt1_1 kt2_220) hdS_X8_wayOf rfl rfl ⟨Nat.le_of_ble_eq_true rfl, Nat.le_of_ble_eq_true rfl⟩ rfl hl.1 rfl (Nat.le_of_ble_eq_true rfl) dX8_does_46 ⟨Nat.le_of_ble_eq_true rfl, Nat.le_of_ble_eq_true rfl⟩ (fun H locs w => ?_)
            refine lv_iconst (v := 2) hx hb dX8_does_49 (by decide) ?_
            refine lv_iload_n hx hb dX8_does_50 rfl (lv_at hl 2 rfl) ?_
            refine lv_imul (x := 2) (y := v2) hx hb dX8_does_51 ?_
            refine lv_iload_n hx hb dX8_does_52 rfl (lv_at hl 3 rfl) ?_
            refine lv_iadd (x := (2 * v2)) (y := v3) hx hb dX8_does_53 ?_
            obtain ⟨r_20, er_21⟩ : ∃ y, f_X8_bit r_18 ((2 * v2) + v3) = y := ⟨_, rfl⟩
            have hf := bindv_eq hf r_20 er_21.symm
            refine callSI (As := [.int r_18, .int ((2 * v2) + v3)]) (rest := []) B w (c_X8_bit l _ r_18 ((2 * v2) + v3) er_21) (gS kt2_221 kt2_165 kt1_1 kt2_166) hdS_X8_bit rfl rfl ⟨Nat.le_of_ble_eq_true rfl, Nat.le_of_ble_eq_true rfl⟩ rfl hl.1 rfl (Nat.le_of_ble_eq_true rfl) dX8_does_54 ⟨Nat.le_of_ble_eq_true rfl, Nat.le_of_ble_eq_true rfl⟩ (fun H locs w => ?_)
            have hf : r_20 = r0 := hf
            subst hf
            exact retI B hr hk w dX8_does_57
        · have hf := if_t hf c_12
          refine lv_sipush (v := (-1002)) hx hb dX8_does_35 (by decide) ?_
          have hf : (-1002) = r0 := hf
          subst hf
          exact retI B hr hk w dX8_does_38
def f_X8_step (fi : Nat → Int32) (ar : Nat → Nat → Int32) (v1 : Int32) (v2 : Int32) : Option (Int32 × (Nat → Int32) × (Nat → Nat → Int32)) := bindv (f_X8_isRule v1) (fun r_1 => if (r_1 = 0 : Prop) then (some ((-1002), fi, ar)) else (bindv (f_X8_isShare v2) (fun r_4 => if (r_4 = 0 : Prop) then (some ((-1002), fi, ar)) else (bind2 (f_X1_live fi ar v1 (fi 4)) (fun fi_7 ar_8 => bindv (f_X1_next fi_7 ar_8 v2) (fun r_10 => some (r_10, fi_7, ar_8)))))))
set_option maxHeartbeats 4000000 in
set_option maxRecDepth 100000 in
theorem c_X8_step (l : Launch) (D : va_G) (ca : Nat → ClassId) (ak av ad : Nat → Nat) (fi : Nat → Int32) (fl : Nat → Int64) (ar : Nat → Nat → Int32) (v1 : Int32) (v2 : Int32) {r0 : Int32} {fi0 : Nat → Int32} {ar0 : Nat → Nat → Int32} (hf : f_X8_step fi ar v1 v2 = some (r0, fi0, ar0)) : MtI l yX8_step cX8_step 3 { frames := 2, cells := 0, slots := 0, locals := 48 } (EC D ca ak av) [.ref (ad 0), .int v1, .int v2] (wC ad ca fi fl ar) (wC ad ca fi0 fl ar0) r0 := by
  refine MtI.of (own := RX8) (by decide +kernel) rfl (Nat.le_of_ble_eq_true rfl) ?_
  intro p e s m args below meth c A B hr hk w ls hl
  have hx := B.1.1
  have hb := B.1.2.1
  have hown := B.1.2.2.2.1
  have hts := B.1.2.2.2.2
  have hl : lv_has ls 3 [(0, .ref (ad 0)), (1, .int v1), (2, .int v2)] := hl
  unfold f_X8_step at hf
  refine (show ∀ (H : Heap) (locs : List Loc), Wd (EC D ca ak av) A s (wC ad ca fi fl ar) H locs → W p l e ({ frames := 2, cells := 0, slots := 0, locals := 48 } : Room) s m args below meth c H locs 0 0 (MQ below (Qi (EC D ca ak av) A (wC ad ca fi0 fl ar0) r0) args s 0 0 A) (F0 m 0 ls []) from ?_) s.heap [] w
  intro H locs w
  refine lv_iload_n hx hb dX8_step_0 rfl (lv_at hl 1 rfl) ?_
  obtain ⟨r_1, er_2⟩ : ∃ y, f_X8_isRule v1 = y := ⟨_, rfl⟩
  have hf := bindv_eq hf r_1 er_2.symm
  refine callSZ (As := [.int v1]) (rest := []) B w (c_X8_isRule l _ v1 er_2) (gS kt2_215 kt2_216 kt1_1 kt2_217) hdS_X8_isRule rfl rfl ⟨Nat.le_of_ble_eq_true rfl, Nat.le_of_ble_eq_true rfl⟩ rfl hl.1 rfl (Nat.le_of_ble_eq_true rfl) dX8_step_1 ⟨Nat.le_of_ble_eq_true rfl, Nat.le_of_ble_eq_true rfl⟩ (fun H locs w hzr_1 => ?_)
  refine lv_if_eq (x := r_1) (tgt := 14) hx hb dX8_step_4 (by decide) (fun c_3 => ?_) (fun c_3 => ?_)
  · have hf := if_t hf c_3
    refine lv_sipush (v := (-1002)) hx hb dX8_step_14 (by decide) ?_
    have hf : some ((-1002), fi, ar) = some (r0, fi0, ar0) := hf
    obtain ⟨q0, q1, q2⟩ := so3 hf
    subst q0
    subst q1
    subst q2
    exact retI B hr hk w dX8_step_17
  · have hf := if_f hf c_3
    refine lv_iload_n hx hb dX8_step_7 rfl (lv_at hl 2 rfl) ?_
    obtain ⟨r_4, er_5⟩ : ∃ y, f_X8_isShare v2 = y := ⟨_, rfl⟩
    have hf := bindv_eq hf r_4 er_5.symm
    refine callSZ (As := [.int v2]) (rest := []) B w (c_X8_isShare l _ v2 er_5) (gS kt2_229 kt2_230 kt1_1 kt2_231) hdS_X8_isShare rfl rfl ⟨Nat.le_of_ble_eq_true rfl, Nat.le_of_ble_eq_true rfl⟩ rfl hl.1 rfl (Nat.le_of_ble_eq_true rfl) dX8_step_8 ⟨Nat.le_of_ble_eq_true rfl, Nat.le_of_ble_eq_true rfl⟩ (fun H locs w hzr_4 => ?_)
    refine lv_if_ne (x := r_4) (tgt := 18) hx hb dX8_step_11 (by decide) (fun c_6 => ?_) (fun c_6 => ?_)
    · have hf := if_f hf c_6
      refine lv_aload_n hx hb dX8_step_18 rfl (lv_at hl 0 rfl) ?_
      refine gfC_0_2 B w kt2_42 dX8_step_19 ?_
      refine lv_aload_n hx hb dX8_step_22 rfl (lv_at hl 0 rfl) ?_
      refine gfC_0_0 B w kt2_40 dX8_step_23 ?_
      refine lv_iload_n hx hb dX8_step_26 rfl (lv_at hl 1 rfl) ?_
      refine lv_aload_n hx hb dX8_step_27 rfl (lv_at hl 0 rfl) ?_
      refine gfC_0_0 B w kt2_40 dX8_step_28 ?_
      refine gfC_1_3 B w kt1_50 dX8_step_31 ?_
      obtain ⟨fi_7, ar_8, er_9, hf⟩ := bind2_eq hf
      refine callVV (As := [.ref (ad 1), .int v1, .int (fi 4)]) (rest := []) B w (c_X1_live l D ca ak av ad fi fl ar v1 (fi 4) er_9) (gV kt2_232 kt2_233 kt2_234 kt1_4 kt2_235) hdV_X1_live 5 rfl rfl rfl rfl ⟨Nat.le_of_ble_eq_true rfl, Nat.le_of_ble_eq_true rfl⟩ rfl hl.1 rfl (Nat.le_of_ble_eq_true rfl) dX8_step_34 ⟨Nat.le_of_ble_eq_true rfl, Nat.le_of_ble_eq_true rfl⟩ (fun H locs w => ?_)
      refine lv_aload_n hx hb dX8_step_37 rfl (lv_at hl 0 rfl) ?_
      refine gfC_0_2 B w kt2_42 dX8_step_38 ?_
      refine lv_iload_n hx hb dX8_step_41 rfl (lv_at hl 2 rfl) ?_
      obtain ⟨r_10, er_11⟩ : ∃ y, f_X1_next fi_7 ar_8 v2 = y := ⟨_, rfl⟩
      have hf := bindv_eq hf r_10 er_11.symm
      refine callVI (As := [.int v2]) (rest := []) B w (c_X1_next l D ca ak av ad fi_7 fl ar_8 v2 er_11) (gV kt2_239 kt3_0 kt3_1 kt1_4 kt3_2) hdV_X1_next 5 rfl rfl rfl rfl ⟨Nat.le_of_ble_eq_true rfl, Nat.le_of_ble_eq_true rfl⟩ rfl hl.1 rfl (Nat.le_of_ble_eq_true rfl) dX8_step_42 ⟨Nat.le_of_ble_eq_true rfl, Nat.le_of_ble_eq_true rfl⟩ (fun H locs w => ?_)
      have hf : some (r_10, fi_7, ar_8) = some (r0, fi0, ar0) := hf
      obtain ⟨q0, q1, q2⟩ := so3 hf
      subst q0
      subst q1
      subst q2
      exact retI B hr hk w dX8_step_45
    · have hf := if_t hf c_6
      refine lv_sipush (v := (-1002)) hx hb dX8_step_14 (by decide) ?_
      have hf : some ((-1002), fi, ar) = some (r0, fi0, ar0) := hf
      obtain ⟨q0, q1, q2⟩ := so3 hf
      subst q0
      subst q1
      subst q2
      exact retI B hr hk w dX8_step_17
def f_X8_from (fi : Nat → Int32) (ar : Nat → Nat → Int32) (v1 : Int32) (v2 : Int32) (v3 : Int32) : Option (Int32 × (Nat → Int32) × (Nat → Nat → Int32)) := bindv (f_X8_isRule v1) (fun r_1 => if (r_1 = 0 : Prop) then (some ((-1002), fi, ar)) else (bindv (f_X8_isShare v2) (fun r_4 => if (r_4 = 0 : Prop) then (some ((-1002), fi, ar)) else (bindv (f_X8_within v3 0 2) (fun r_7 => if (r_7 = 0 : Prop) then (some ((-1002), fi, ar)) else (bind2 (f_X1_live fi ar v1 (fi 4)) (fun fi_10 ar_11 => bind2 (f_X7_go fi_10 ar_11 v2) (fun fi_13 ar_14 => if (v3 = 0 : Prop) then (bindv (f_X7_rest fi_13) (fun r_18 => some (r_18, fi_13, ar_14))) else (if (v3 = 1 : Prop) then (some ((fi_13 28), fi_13, ar_14)) else (some ((fi_13 29), fi_13, ar_14)))))))))))
set_option maxHeartbeats 4000000 in
set_option maxRecDepth 100000 in
theorem c_X8_from (l : Launch) (D : va_G) (ca : Nat → ClassId) (ak av ad : Nat → Nat) (fi : Nat → Int32) (fl : Nat → Int64) (ar : Nat → Nat → Int32) (v1 : Int32) (v2 : Int32) (v3 : Int32) {r0 : Int32} {fi0 : Nat → Int32} {ar0 : Nat → Nat → Int32} (hf : f_X8_from fi ar v1 v2 v3 = some (r0, fi0, ar0)) : MtI l yX8_from cX8_from 4 { frames := 3, cells := 0, slots := 0, locals := 67 } (EC D ca ak av) [.ref (ad 0), .int v1, .int v2, .int v3] (wC ad ca fi fl ar) (wC ad ca fi0 fl ar0) r0 := by
  refine MtI.of (own := RX8) (by decide +kernel) rfl (Nat.le_of_ble_eq_true rfl) ?_
  intro p e s m args below meth c A B hr hk w ls hl
  have hx := B.1.1
  have hb := B.1.2.1
  have hown := B.1.2.2.2.1
  have hts := B.1.2.2.2.2
  have hl : lv_has ls 4 [(0, .ref (ad 0)), (1, .int v1), (2, .int v2), (3, .int v3)] := hl
  unfold f_X8_from at hf
  refine (show ∀ (H : Heap) (locs : List Loc), Wd (EC D ca ak av) A s (wC ad ca fi fl ar) H locs → W p l e ({ frames := 3, cells := 0, slots := 0, locals := 67 } : Room) s m args below meth c H locs 0 0 (MQ below (Qi (EC D ca ak av) A (wC ad ca fi0 fl ar0) r0) args s 0 0 A) (F0 m 0 ls []) from ?_) s.heap [] w
  intro H locs w
  refine lv_iload_n hx hb dX8_from_0 rfl (lv_at hl 1 rfl) ?_
  obtain ⟨r_1, er_2⟩ : ∃ y, f_X8_isRule v1 = y := ⟨_, rfl⟩
  have hf := bindv_eq hf r_1 er_2.symm
  refine callSZ (As := [.int v1]) (rest := []) B w (c_X8_isRule l _ v1 er_2) (gS kt2_215 kt2_216 kt1_1 kt2_217) hdS_X8_isRule rfl rfl ⟨Nat.le_of_ble_eq_true rfl, Nat.le_of_ble_eq_true rfl⟩ rfl hl.1 rfl (Nat.le_of_ble_eq_true rfl) dX8_from_1 ⟨Nat.le_of_ble_eq_true rfl, Nat.le_of_ble_eq_true rfl⟩ (fun H locs w hzr_1 => ?_)
  refine lv_if_eq (x := r_1) (tgt := 23) hx hb dX8_from_4 (by decide) (fun c_3 => ?_) (fun c_3 => ?_)
  · have hf := if_t hf c_3
    refine lv_sipush (v := (-1002)) hx hb dX8_from_23 (by decide) ?_
    have hf : some ((-1002), fi, ar) = some (r0, fi0, ar0) := hf
    obtain ⟨q0, q1, q2⟩ := so3 hf
    subst q0
    subst q1
    subst q2
    exact retI B hr hk w dX8_from_26
  · have hf := if_f hf c_3
    refine lv_iload_n hx hb dX8_from_7 rfl (lv_at hl 2 rfl) ?_
    obtain ⟨r_4, er_5⟩ : ∃ y, f_X8_isShare v2 = y := ⟨_, rfl⟩
    have hf := bindv_eq hf r_4 er_5.symm
    refine callSZ (As := [.int v2]) (rest := []) B w (c_X8_isShare l _ v2 er_5) (gS kt2_229 kt2_230 kt1_1 kt2_231) hdS_X8_isShare rfl rfl ⟨Nat.le_of_ble_eq_true rfl, Nat.le_of_ble_eq_true rfl⟩ rfl hl.1 rfl (Nat.le_of_ble_eq_true rfl) dX8_from_8 ⟨Nat.le_of_ble_eq_true rfl, Nat.le_of_ble_eq_true rfl⟩ (fun H locs w hzr_4 => ?_)
    refine lv_if_eq (x := r_4) (tgt := 23) hx hb dX8_from_11 (by decide) (fun c_6 => ?_) (fun c_6 => ?_)
    · have hf := if_t hf c_6
      refine lv_sipush (v := (-1002)) hx hb dX8_from_23 (by decide) ?_
      have hf : some ((-1002), fi, ar) = some (r0, fi0, ar0) := hf
      obtain ⟨q0, q1, q2⟩ := so3 hf
      subst q0
      subst q1
      subst q2
      exact retI B hr hk w dX8_from_26
    · have hf := if_f hf c_6
      refine lv_iload_n hx hb dX8_from_14 rfl (lv_at hl 3 rfl) ?_
      refine lv_iconst (v := 0) hx hb dX8_from_15 (by decide) ?_
      refine lv_iconst (v := 2) hx hb dX8_from_16 (by decide) ?_
      obtain ⟨r_7, er_8⟩ : ∃ y, f_X8_within v3 0 2 = y := ⟨_, rfl⟩
      have hf := bindv_eq hf r_7 er_8.symm
      refine callSZ (As := [.int v3, .int 0, .int 2]) (rest := []) B w (c_X8_within l _ v3 0 2 er_8) (gS kt2_72 kt2_73 kt1_1 kt2_74) hdS_X8_within rfl rfl ⟨Nat.le_of_ble_eq_true rfl, Nat.le_of_ble_eq_true rfl⟩ rfl hl.1 rfl (Nat.le_of_ble_eq_true rfl) dX8_from_17 ⟨Nat.le_of_ble_eq_true rfl, Nat.le_of_ble_eq_true rfl⟩ (fun H locs w hzr_7 => ?_)
      refine lv_if_ne (x := r_7) (tgt := 27) hx hb dX8_from_20 (by decide) (fun c_9 => ?_) (fun c_9 => ?_)
      · have hf := if_f hf c_9
        refine lv_aload_n hx hb dX8_from_27 rfl (lv_at hl 0 rfl) ?_
        refine gfC_0_2 B w kt2_42 dX8_from_28 ?_
        refine lv_aload_n hx hb dX8_from_31 rfl (lv_at hl 0 rfl) ?_
        refine gfC_0_0 B w kt2_40 dX8_from_32 ?_
        refine lv_iload_n hx hb dX8_from_35 rfl (lv_at hl 1 rfl) ?_
        refine lv_aload_n hx hb dX8_from_36 rfl (lv_at hl 0 rfl) ?_
        refine gfC_0_0 B w kt2_40 dX8_from_37 ?_
        refine gfC_1_3 B w kt1_50 dX8_from_40 ?_
        obtain ⟨fi_10, ar_11, er_12, hf⟩ := bind2_eq hf
        refine callVV (As := [.ref (ad 1), .int v1, .int (fi 4)]) (rest := []) B w (c_X1_live l D ca ak av ad fi fl ar v1 (fi 4) er_12) (gV kt2_232 kt2_233 kt2_234 kt1_4 kt2_235) hdV_X1_live 5 rfl rfl rfl rfl ⟨Nat.le_of_ble_eq_true rfl, Nat.le_of_ble_eq_true rfl⟩ rfl hl.1 rfl (Nat.le_of_ble_eq_true rfl) dX8_from_43 ⟨Nat.le_of_ble_eq_true rfl, Nat.le_of_ble_eq_true rfl⟩ (fun H locs w => ?_)
        refine lv_aload_n hx hb dX8_from_46 rfl (lv_at hl 0 rfl) ?_
        refine gfC_0_3 B w kt2_43 dX8_from_47 ?_
        refine lv_aload_n hx hb dX8_from_50 rfl (lv_at hl 0 rfl) ?_
        refine gfC_0_2 B w kt2_42 dX8_from_51 ?_
        refine lv_iload_n hx hb dX8_from_54 rfl (lv_at hl 2 rfl) ?_
        obtain ⟨fi_13, ar_14, er_15, hf⟩ := bind2_eq hf
        refine callVV (As := [.ref (ad 5), .int v2]) (rest := []) B w (c_X7_go l D ca ak av ad fi_10 fl ar_11 v2 er_15) (gV kt3_8 kt3_9 kt3_10 kt1_5 kt3_11) hdV_X7_go 8 rfl rfl rfl rfl ⟨Nat.le_of_ble_eq_true rfl, Nat.le_of_ble_eq_true rfl⟩ rfl hl.1 rfl (Nat.le_of_ble_eq_true rfl) dX8_from_55 ⟨Nat.le_of_ble_eq_true rfl, Nat.le_of_ble_eq_true rfl⟩ (fun H locs w => ?_)
        refine lv_iload_n hx hb dX8_from_58 rfl (lv_at hl 3 rfl) ?_
        refine lv_if_ne (x := v3) (tgt := 70) hx hb dX8_from_59 (by decide) (fun c_16 => ?_) (fun c_16 => ?_)
        · have hf := if_f hf c_16
          refine lv_iload_n hx hb dX8_from_70 rfl (lv_at hl 3 rfl) ?_
          refine lv_iconst (v := 1) hx hb dX8_from_71 (by decide) ?_
          refine lv_icmp_ne (x := v3) (y := 1) (tgt := 85) hx hb dX8_from_72 (by decide) (fun c_17 => ?_) (fun c_17 => ?_)
          · have hf := if_f hf c_17
            refine lv_aload_n hx hb dX8_from_85 rfl (lv_at hl 0 rfl) ?_
            refine gfC_0_3 B w kt2_43 dX8_from_86 ?_
            refine gfC_8_3 B w kt1_166 dX8_from_89 ?_
            have hf : some ((fi_13 29), fi_13, ar_14) = some (r0, fi0, ar0) := hf
            obtain ⟨q0, q1, q2⟩ := so3 hf
            subst q0
            subst q1
            subst q2
            exact retI B hr hk w dX8_from_92
          · have hf := if_t hf c_17
            refine lv_aload_n hx hb dX8_from_75 rfl (lv_at hl 0 rfl) ?_
            refine gfC_0_3 B w kt2_43 dX8_from_76 ?_
            refine gfC_8_2 B w kt1_164 dX8_from_79 ?_
            refine lv_goto (tgt := 92) hx hb dX8_from_82 (by decide) ?_
            have hf : some ((fi_13 28), fi_13, ar_14) = some (r0, fi0, ar0) := hf
            obtain ⟨q0, q1, q2⟩ := so3 hf
            subst q0
            subst q1
            subst q2
            exact retI B hr hk w dX8_from_92
        · have hf := if_t hf c_16
          refine lv_aload_n hx hb dX8_from_62 rfl (lv_at hl 0 rfl) ?_
          refine gfC_0_3 B w kt2_43 dX8_from_63 ?_
          obtain ⟨r_18, er_19⟩ : ∃ y, f_X7_rest fi_13 = y := ⟨_, rfl⟩
          have hf := bindv_eq hf r_18 er_19.symm
          refine callVI (As := []) (rest := []) B w (c_X7_rest l D ca ak av ad fi_13 fl ar_14  er_19) (gV kt3_14 kt3_15 kt3_16 kt1_5 kt3_17) hdV_X7_rest 8 rfl rfl rfl rfl ⟨Nat.le_of_ble_eq_true rfl, Nat.le_of_ble_eq_true rfl⟩ rfl hl.1 rfl (Nat.le_of_ble_eq_true rfl) dX8_from_66 ⟨Nat.le_of_ble_eq_true rfl, Nat.le_of_ble_eq_true rfl⟩ (fun H locs w => ?_)
          have hf : some (r_18, fi_13, ar_14) = some (r0, fi0, ar0) := hf
          obtain ⟨q0, q1, q2⟩ := so3 hf
          subst q0
          subst q1
          subst q2
          exact retI B hr hk w dX8_from_69
      · have hf := if_t hf c_9
        refine lv_sipush (v := (-1002)) hx hb dX8_from_23 (by decide) ?_
        have hf : some ((-1002), fi, ar) = some (r0, fi0, ar0) := hf
        obtain ⟨q0, q1, q2⟩ := so3 hf
        subst q0
        subst q1
        subst q2
        exact retI B hr hk w dX8_from_26
def f_X8_helped (fi : Nat → Int32) (ar : Nat → Nat → Int32) (v1 : Int32) (v2 : Int32) : Option (Int32 × (Nat → Int32) × (Nat → Nat → Int32)) := bindv (f_X8_isRule v1) (fun r_1 => if (r_1 = 0 : Prop) then (some ((-1002), fi, ar)) else (bindv (f_X8_isShare v2) (fun r_4 => if (r_4 = 0 : Prop) then (some ((-1002), fi, ar)) else (bind2 (f_X1_live fi ar v1 (fi 4)) (fun fi_7 ar_8 => bindv (f_X1_aid fi_7 v2) (fun r_10 => some (r_10, fi_7, ar_8)))))))
set_option maxHeartbeats 4000000 in
set_option maxRecDepth 100000 in
theorem c_X8_helped (l : Launch) (D : va_G) (ca : Nat → ClassId) (ak av ad : Nat → Nat) (fi : Nat → Int32) (fl : Nat → Int64) (ar : Nat → Nat → Int32) (v1 : Int32) (v2 : Int32) {r0 : Int32} {fi0 : Nat → Int32} {ar0 : Nat → Nat → Int32} (hf : f_X8_helped fi ar v1 v2 = some (r0, fi0, ar0)) : MtI l yX8_helped cX8_helped 3 { frames := 2, cells := 0, slots := 0, locals := 48 } (EC D ca ak av) [.ref (ad 0), .int v1, .int v2] (wC ad ca fi fl ar) (wC ad ca fi0 fl ar0) r0 := by
  refine MtI.of (own := RX8) (by decide +kernel) rfl (Nat.le_of_ble_eq_true rfl) ?_
  intro p e s m args below meth c A B hr hk w ls hl
  have hx := B.1.1
  have hb := B.1.2.1
  have hown := B.1.2.2.2.1
  have hts := B.1.2.2.2.2
  have hl : lv_has ls 3 [(0, .ref (ad 0)), (1, .int v1), (2, .int v2)] := hl
  unfold f_X8_helped at hf
  refine (show ∀ (H : Heap) (locs : List Loc), Wd (EC D ca ak av) A s (wC ad ca fi fl ar) H locs → W p l e ({ frames := 2, cells := 0, slots := 0, locals := 48 } : Room) s m args below meth c H locs 0 0 (MQ below (Qi (EC D ca ak av) A (wC ad ca fi0 fl ar0) r0) args s 0 0 A) (F0 m 0 ls []) from ?_) s.heap [] w
  intro H locs w
  refine lv_iload_n hx hb dX8_helped_0 rfl (lv_at hl 1 rfl) ?_
  obtain ⟨r_1, er_2⟩ : ∃ y, f_X8_isRule v1 = y := ⟨_, rfl⟩
  have hf := bindv_eq hf r_1 er_2.symm
  refine callSZ (As := [.int v1]) (rest := []) B w (c_X8_isRule l _ v1 er_2) (gS kt2_215 kt2_216 kt1_1 kt2_217) hdS_X8_isRule rfl rfl ⟨Nat.le_of_ble_eq_true rfl, Nat.le_of_ble_eq_true rfl⟩ rfl hl.1 rfl (Nat.le_of_ble_eq_true rfl) dX8_helped_1 ⟨Nat.le_of_ble_eq_true rfl, Nat.le_of_ble_eq_true rfl⟩ (fun H locs w hzr_1 => ?_)
  refine lv_if_eq (x := r_1) (tgt := 14) hx hb dX8_helped_4 (by decide) (fun c_3 => ?_) (fun c_3 => ?_)
  · have hf := if_t hf c_3
    refine lv_sipush (v := (-1002)) hx hb dX8_helped_14 (by decide) ?_
    have hf : some ((-1002), fi, ar) = some (r0, fi0, ar0) := hf
    obtain ⟨q0, q1, q2⟩ := so3 hf
    subst q0
    subst q1
    subst q2
    exact retI B hr hk w dX8_helped_17
  · have hf := if_f hf c_3
    refine lv_iload_n hx hb dX8_helped_7 rfl (lv_at hl 2 rfl) ?_
    obtain ⟨r_4, er_5⟩ : ∃ y, f_X8_isShare v2 = y := ⟨_, rfl⟩
    have hf := bindv_eq hf r_4 er_5.symm
    refine callSZ (As := [.int v2]) (rest := []) B w (c_X8_isShare l _ v2 er_5) (gS kt2_229 kt2_230 kt1_1 kt2_231) hdS_X8_isShare rfl rfl ⟨Nat.le_of_ble_eq_true rfl, Nat.le_of_ble_eq_true rfl⟩ rfl hl.1 rfl (Nat.le_of_ble_eq_true rfl) dX8_helped_8 ⟨Nat.le_of_ble_eq_true rfl, Nat.le_of_ble_eq_true rfl⟩ (fun H locs w hzr_4 => ?_)
    refine lv_if_ne (x := r_4) (tgt := 18) hx hb dX8_helped_11 (by decide) (fun c_6 => ?_) (fun c_6 => ?_)
    · have hf := if_f hf c_6
      refine lv_aload_n hx hb dX8_helped_18 rfl (lv_at hl 0 rfl) ?_
      refine gfC_0_2 B w kt2_42 dX8_helped_19 ?_
      refine lv_aload_n hx hb dX8_helped_22 rfl (lv_at hl 0 rfl) ?_
      refine gfC_0_0 B w kt2_40 dX8_helped_23 ?_
      refine lv_iload_n hx hb dX8_helped_26 rfl (lv_at hl 1 rfl) ?_
      refine lv_aload_n hx hb dX8_helped_27 rfl (lv_at hl 0 rfl) ?_
      refine gfC_0_0 B w kt2_40 dX8_helped_28 ?_
      refine gfC_1_3 B w kt1_50 dX8_helped_31 ?_
      obtain ⟨fi_7, ar_8, er_9, hf⟩ := bind2_eq hf
      refine callVV (As := [.ref (ad 1), .int v1, .int (fi 4)]) (rest := []) B w (c_X1_live l D ca ak av ad fi fl ar v1 (fi 4) er_9) (gV kt2_232 kt2_233 kt2_234 kt1_4 kt2_235) hdV_X1_live 5 rfl rfl rfl rfl ⟨Nat.le_of_ble_eq_true rfl, Nat.le_of_ble_eq_true rfl⟩ rfl hl.1 rfl (Nat.le_of_ble_eq_true rfl) dX8_helped_34 ⟨Nat.le_of_ble_eq_true rfl, Nat.le_of_ble_eq_true rfl⟩ (fun H locs w => ?_)
      refine lv_aload_n hx hb dX8_helped_37 rfl (lv_at hl 0 rfl) ?_
      refine gfC_0_2 B w kt2_42 dX8_helped_38 ?_
      refine lv_iload_n hx hb dX8_helped_41 rfl (lv_at hl 2 rfl) ?_
      obtain ⟨r_10, er_11⟩ : ∃ y, f_X1_aid fi_7 v2 = y := ⟨_, rfl⟩
      have hf := bindv_eq hf r_10 er_11.symm
      refine callVI (As := [.int v2]) (rest := []) B w (c_X1_aid l D ca ak av ad fi_7 fl ar_8 v2 er_11) (gV kt3_22 kt3_23 kt3_24 kt1_4 kt3_25) hdV_X1_aid 5 rfl rfl rfl rfl ⟨Nat.le_of_ble_eq_true rfl, Nat.le_of_ble_eq_true rfl⟩ rfl hl.1 rfl (Nat.le_of_ble_eq_true rfl) dX8_helped_42 ⟨Nat.le_of_ble_eq_true rfl, Nat.le_of_ble_eq_true rfl⟩ (fun H locs w => ?_)
      have hf : some (r_10, fi_7, ar_8) = some (r0, fi0, ar0) := hf
      obtain ⟨q0, q1, q2⟩ := so3 hf
      subst q0
      subst q1
      subst q2
      exact retI B hr hk w dX8_helped_45
    · have hf := if_t hf c_6
      refine lv_sipush (v := (-1002)) hx hb dX8_helped_14 (by decide) ?_
      have hf : some ((-1002), fi, ar) = some (r0, fi0, ar0) := hf
      obtain ⟨q0, q1, q2⟩ := so3 hf
      subst q0
      subst q1
      subst q2
      exact retI B hr hk w dX8_helped_17
def f_X8_fit_71  (k35 : Int32 → Int32 → Int32 → (Nat → Int32) → (Nat → Nat → Int32) → Option (Int32 × (Nat → Int32) × (Nat → Nat → Int32))) (v2 : Int32) (v3 : Int32) (v4 : Int32) (fi : Nat → Int32) (ar : Nat → Nat → Int32) : Option (Int32 × (Nat → Int32) × (Nat → Nat → Int32)) := bindv (v4 + 1 : Int32) (fun x_1 => k35 v2 v3 x_1 fi ar)
def f_X8_fit_35   : Nat → (Int32) → (Int32) → (Int32) → (Nat → Int32) → (Nat → Nat → Int32) → Option (Int32 × (Nat → Int32) × (Nat → Nat → Int32))
  | 0, _, _, _, _, _ => none
  | n + 1, v2, v3, v4, fi, ar => if (1000 < v4 : Prop) then (if (v2 = (-1) : Prop) then (some (v3, fi, ar)) else (some ((-1), fi, ar))) else (bindv (f_X1_next fi ar v4) (fun r_4 => if (r_4 = v4 : Prop) then (if (v3 = v2 : Prop) then (some (v4, fi, ar)) else (bindv (v3 + 1 : Int32) (fun x_8 => f_X8_fit_71 (f_X8_fit_35 n) v2 x_8 v4 fi ar))) else (f_X8_fit_71 (f_X8_fit_35 n) v2 v3 v4 fi ar)))
def f_X8_fit (fi : Nat → Int32) (ar : Nat → Nat → Int32) (v1 : Int32) (v2 : Int32) : Option (Int32 × (Nat → Int32) × (Nat → Nat → Int32)) := bindv (f_X8_isRule v1) (fun r_9 => if (r_9 = 0 : Prop) then (some ((-1002), fi, ar)) else (bind2 (f_X1_live fi ar v1 (fi 4)) (fun fi_12 ar_13 => f_X8_fit_35  5000 v2 0 0 fi_12 ar_13)))
set_option maxHeartbeats 4000000 in
set_option maxRecDepth 100000 in
theorem c_X8_fit (l : Launch) (D : va_G) (ca : Nat → ClassId) (ak av ad : Nat → Nat) (fi : Nat → Int32) (fl : Nat → Int64) (ar : Nat → Nat → Int32) (v1 : Int32) (v2 : Int32) {r0 : Int32} {fi0 : Nat → Int32} {ar0 : Nat → Nat → Int32} (hf : f_X8_fit fi ar v1 v2 = some (r0, fi0, ar0)) : MtI l yX8_fit cX8_fit 5 { frames := 2, cells := 0, slots := 0, locals := 48 } (EC D ca ak av) [.ref (ad 0), .int v1, .int v2] (wC ad ca fi fl ar) (wC ad ca fi0 fl ar0) r0 := by
  refine MtI.of (own := RX8) (by decide +kernel) rfl (Nat.le_of_ble_eq_true rfl) ?_
  intro p e s m args below meth c A B hr hk w ls hl
  have hx := B.1.1
  have hb := B.1.2.1
  have hown := B.1.2.2.2.1
  have hts := B.1.2.2.2.2
  have hl : lv_has ls 5 [(0, .ref (ad 0)), (1, .int v1), (2, .int v2)] := hl
  have J71 : ∀ (k35 : Int32 → Int32 → Int32 → (Nat → Int32) → (Nat → Nat → Int32) → Option (Int32 × (Nat → Int32) × (Nat → Nat → Int32))) (hk35 : ∀ (v2 : Int32) (v3 : Int32) (v4 : Int32) (fi : Nat → Int32) (ar : Nat → Nat → Int32) (H : Heap) (locs : List Loc) (ls : Array Slot), Wd (EC D ca ak av) A s (wC ad ca fi fl ar) H locs → lv_has ls 5 [(0, .ref (ad 0)), (2, .int v2), (3, .int v3), (4, .int v4)] → k35 v2 v3 v4 fi ar = some (r0, fi0, ar0) → W p l e ({ frames := 2, cells := 0, slots := 0, locals := 48 } : Room) s m args below meth c H locs 0 0 (MQ below (Qi (EC D ca ak av) A (wC ad ca fi0 fl ar0) r0) args s 0 0 A) (F0 m 35 ls [])) (v2 : Int32) (v3 : Int32) (v4 : Int32) (fi : Nat → Int32) (ar : Nat → Nat → Int32) (H : Heap) (locs : List Loc) (ls : Array Slot), Wd (EC D ca ak av) A s (wC ad ca fi fl ar) H locs → lv_has ls 5 [(0, .ref (ad 0)), (2, .int v2), (3, .int v3), (4, .int v4)] → f_X8_fit_71 k35 v2 v3 v4 fi ar = some (r0, fi0, ar0) → W p l e ({ frames := 2, cells := 0, slots := 0, locals := 48 } : Room) s m args below meth c H locs 0 0 (MQ below (Qi (EC D ca ak av) A (wC ad ca fi0 fl ar0) r0) args s 0 0 A) (F0 m 71 ls []) := by
    intro k35 hk35 v2 v3 v4 fi ar H locs ls w hl hf
    unfold f_X8_fit_71 at hf
    obtain ⟨x_1, ex_1⟩ : ∃ y : Int32, y = v4 + 1 := ⟨_, rfl⟩
    have hf := bindv_eq hf x_1 ex_1
    refine lv_iinc (v := x_1) (lv' := [(4, .int x_1), (0, .ref (ad 0)), (2, .int v2), (3, .int v3)]) hx hb dX8_fit_71 hl (k := 3) rfl (by rw [ex_1]; rfl) (by decide) rfl (fun ls hl => ?_)
    refine lv_goto (tgt := 35) hx hb dX8_fit_74 (by decide) ?_
    exact hk35 v2 v3 x_1 fi ar H locs ls w (lv_sub hl [1, 2, 3, 0] rfl) hf
  have J35 : ∀ (n : Nat) (v2 : Int32) (v3 : Int32) (v4 : Int32) (fi : Nat → Int32) (ar : Nat → Nat → Int32) (H : Heap) (locs : List Loc) (ls : Array Slot), Wd (EC D ca ak av) A s (wC ad ca fi fl ar) H locs → lv_has ls 5 [(0, .ref (ad 0)), (2, .int v2), (3, .int v3), (4, .int v4)] → f_X8_fit_35  n v2 v3 v4 fi ar = some (r0, fi0, ar0) → W p l e ({ frames := 2, cells := 0, slots := 0, locals := 48 } : Room) s m args below meth c H locs 0 0 (MQ below (Qi (EC D ca ak av) A (wC ad ca fi0 fl ar0) r0) args s 0 0 A) (F0 m 35 ls []) := by
    intro  n
    induction n with
    | zero =>
      intro v2 v3 v4 fi ar H locs ls w hl hf
      cases hf
    | succ n ih =>
      intro v2 v3 v4 fi ar H locs ls w hl hf
      rw [f_X8_fit_35] at hf
      refine lv_iload hx hb dX8_fit_35 (lv_at hl 3 rfl) ?_
      refine lv_sipush (v := 1000) hx hb dX8_fit_37 (by decide) ?_
      refine lv_icmp_gt (x := v4) (y := 1000) (tgt := 77) hx hb dX8_fit_40 (by decide) (fun c_2 => ?_) (fun c_2 => ?_)
      · have hf := if_t hf c_2
        refine lv_iload_n hx hb dX8_fit_77 rfl (lv_at hl 1 rfl) ?_
        refine lv_iconst (v := (-1)) hx hb dX8_fit_78 (by decide) ?_
        refine lv_icmp_ne (x := v2) (y := (-1)) (tgt := 86) hx hb dX8_fit_79 (by decide) (fun c_3 => ?_) (fun c_3 => ?_)
        · have hf := if_f hf c_3
          refine lv_iconst (v := (-1)) hx hb dX8_fit_86 (by decide) ?_
          have hf : some ((-1), fi, ar) = some (r0, fi0, ar0) := hf
          obtain ⟨q0, q1, q2⟩ := so3 hf
          subst q0
          subst q1
          subst q2
          exact retI B hr hk w dX8_fit_87
        · have hf := if_t hf c_3
          refine lv_iload_n hx hb dX8_fit_82 rfl (lv_at hl 2 rfl) ?_
          refine lv_goto (tgt := 87) hx hb dX8_fit_83 (by decide) ?_
          have hf : some (v3, fi, ar) = some (r0, fi0, ar0) := hf
          obtain ⟨q0, q1, q2⟩ := so3 hf
          subst q0
          subst q1
          subst q2
          exact retI B hr hk w dX8_fit_87
      · have hf := if_f hf c_2
        refine lv_aload_n hx hb dX8_fit_43 rfl (lv_at hl 0 rfl) ?_
        refine gfC_0_2 B w kt2_42 dX8_fit_44 ?_
        refine lv_iload hx hb dX8_fit_47 (lv_at hl 3 rfl) ?_
        obtain ⟨r_4, er_5⟩ : ∃ y, f_X1_next fi ar v4 = y := ⟨_, rfl⟩
        have hf := bindv_eq hf r_4 er_5.symm
        refine callVI (As := [.int v4]) (rest := []) B w (c_X1_next l D ca ak av ad fi fl ar v4 er_5) (gV kt2_239 kt3_0 kt3_1 kt1_4 kt3_2) hdV_X1_next 5 rfl rfl rfl rfl ⟨Nat.le_of_ble_eq_true rfl, Nat.le_of_ble_eq_true rfl⟩ rfl hl.1 rfl (Nat.le_of_ble_eq_true rfl) dX8_fit_49 ⟨Nat.le_of_ble_eq_true rfl, Nat.le_of_ble_eq_true rfl⟩ (fun H locs w => ?_)
        refine lv_iload hx hb dX8_fit_52 (lv_at hl 3 rfl) ?_
        refine lv_icmp_eq (x := r_4) (y := v4) (tgt := 60) hx hb dX8_fit_54 (by decide) (fun c_6 => ?_) (fun c_6 => ?_)
        · have hf := if_t hf c_6
          refine lv_iload_n hx hb dX8_fit_60 rfl (lv_at hl 2 rfl) ?_
          refine lv_iload_n hx hb dX8_fit_61 rfl (lv_at hl 1 rfl) ?_
          refine lv_icmp_ne (x := v3) (y := v2) (tgt := 68) hx hb dX8_fit_62 (by decide) (fun c_7 => ?_) (fun c_7 => ?_)
          · have hf := if_f hf c_7
            obtain ⟨x_8, ex_8⟩ : ∃ y : Int32, y = v3 + 1 := ⟨_, rfl⟩
            have hf := bindv_eq hf x_8 ex_8
            refine lv_iinc (v := x_8) (lv' := [(3, .int x_8), (0, .ref (ad 0)), (2, .int v2), (4, .int v4)]) hx hb dX8_fit_68 hl (k := 2) rfl (by rw [ex_8]; rfl) (by decide) rfl (fun ls hl => ?_)
            exact J71 _ ih v2 x_8 v4 fi ar H locs ls w (lv_sub hl [1, 2, 0, 3] rfl) hf
          · have hf := if_t hf c_7
            refine lv_iload hx hb dX8_fit_65 (lv_at hl 3 rfl) ?_
            have hf : some (v4, fi, ar) = some (r0, fi0, ar0) := hf
            obtain ⟨q0, q1, q2⟩ := so3 hf
            subst q0
            subst q1
            subst q2
            exact retI B hr hk w dX8_fit_67
        · have hf := if_f hf c_6
          refine lv_goto (tgt := 71) hx hb dX8_fit_57 (by decide) ?_
          exact J71 _ ih v2 v3 v4 fi ar H locs ls w (lv_sub hl [0, 1, 2, 3] rfl) hf
  unfold f_X8_fit at hf
  refine (show ∀ (H : Heap) (locs : List Loc), Wd (EC D ca ak av) A s (wC ad ca fi fl ar) H locs → W p l e ({ frames := 2, cells := 0, slots := 0, locals := 48 } : Room) s m args below meth c H locs 0 0 (MQ below (Qi (EC D ca ak av) A (wC ad ca fi0 fl ar0) r0) args s 0 0 A) (F0 m 0 ls []) from ?_) s.heap [] w
  intro H locs w
  refine lv_iload_n hx hb dX8_fit_0 rfl (lv_at hl 1 rfl) ?_
  obtain ⟨r_9, er_10⟩ : ∃ y, f_X8_isRule v1 = y := ⟨_, rfl⟩
  have hf := bindv_eq hf r_9 er_10.symm
  refine callSZ (As := [.int v1]) (rest := []) B w (c_X8_isRule l _ v1 er_10) (gS kt2_215 kt2_216 kt1_1 kt2_217) hdS_X8_isRule rfl rfl ⟨Nat.le_of_ble_eq_true rfl, Nat.le_of_ble_eq_true rfl⟩ rfl hl.1 rfl (Nat.le_of_ble_eq_true rfl) dX8_fit_1 ⟨Nat.le_of_ble_eq_true rfl, Nat.le_of_ble_eq_true rfl⟩ (fun H locs w hzr_9 => ?_)
  refine lv_if_ne (x := r_9) (tgt := 11) hx hb dX8_fit_4 (by decide) (fun c_11 => ?_) (fun c_11 => ?_)
  · have hf := if_f hf c_11
    refine lv_aload_n hx hb dX8_fit_11 rfl (lv_at hl 0 rfl) ?_
    refine gfC_0_2 B w kt2_42 dX8_fit_12 ?_
    refine lv_aload_n hx hb dX8_fit_15 rfl (lv_at hl 0 rfl) ?_
    refine gfC_0_0 B w kt2_40 dX8_fit_16 ?_
    refine lv_iload_n hx hb dX8_fit_19 rfl (lv_at hl 1 rfl) ?_
    refine lv_aload_n hx hb dX8_fit_20 rfl (lv_at hl 0 rfl) ?_
    refine gfC_0_0 B w kt2_40 dX8_fit_21 ?_
    refine gfC_1_3 B w kt1_50 dX8_fit_24 ?_
    obtain ⟨fi_12, ar_13, er_14, hf⟩ := bind2_eq hf
    refine callVV (As := [.ref (ad 1), .int v1, .int (fi 4)]) (rest := []) B w (c_X1_live l D ca ak av ad fi fl ar v1 (fi 4) er_14) (gV kt2_232 kt2_233 kt2_234 kt1_4 kt2_235) hdV_X1_live 5 rfl rfl rfl rfl ⟨Nat.le_of_ble_eq_true rfl, Nat.le_of_ble_eq_true rfl⟩ rfl hl.1 rfl (Nat.le_of_ble_eq_true rfl) dX8_fit_27 ⟨Nat.le_of_ble_eq_true rfl, Nat.le_of_ble_eq_true rfl⟩ (fun H locs w => ?_)
    refine lv_iconst (v := 0) hx hb dX8_fit_30 (by decide) ?_
    refine lv_istore_n (lv' := [(3, .int 0), (0, .ref (ad 0)), (1, .int v1), (2, .int v2)]) hx hb dX8_fit_31 rfl hl (by decide) rfl (fun ls hl => ?_)
    refine lv_iconst (v := 0) hx hb dX8_fit_32 (by decide) ?_
    refine lv_istore (lv' := [(4, .int 0), (3, .int 0), (0, .ref (ad 0)), (1, .int v1), (2, .int v2)]) hx hb dX8_fit_33 hl (by decide) rfl (fun ls hl => ?_)
    exact J35  5000 v2 0 0 fi_12 ar_13 H locs ls w (lv_sub hl [2, 4, 1, 0] rfl) hf
  · have hf := if_t hf c_11
    refine lv_sipush (v := (-1002)) hx hb dX8_fit_7 (by decide) ?_
    have hf : some ((-1002), fi, ar) = some (r0, fi0, ar0) := hf
    obtain ⟨q0, q1, q2⟩ := so3 hf
    subst q0
    subst q1
    subst q2
    exact retI B hr hk w dX8_fit_10
def f_X8_other (fi : Nat → Int32) (fl : Nat → Int64) (ar : Nat → Nat → Int32) (v1 : Int32) (v2 : Int32) (v3 : Int32) (v4 : Int32) : Option (Int64 × (Nat → Int32) × (Nat → Int64) × (Nat → Nat → Int32)) := bindv (f_X8_isRule v1) (fun r_1 => if (r_1 = 0 : Prop) then (some ((-1002), fi, fl, ar)) else (bindv (f_X8_isWay v2) (fun r_4 => if (r_4 = 0 : Prop) then (some ((-1002), fi, fl, ar)) else (bindv (f_X8_isShare v3) (fun r_7 => if (r_7 = 0 : Prop) then (some ((-1002), fi, fl, ar)) else (bindv (f_X8_within v4 0 3) (fun r_10 => if (r_10 = 0 : Prop) then (some ((-1002), fi, fl, ar)) else (bind2 (f_X1_live fi ar v1 (fi 4)) (fun fi_13 ar_14 => bind1 (f_X0_live fi_13 fl ar_14 v2 v3) (fun fl_16 => if (v4 = 0 : Prop) then (bind1 (f_X8_leastTerm (fl_16 0) (fl_16 1) (fl_16 0)) (fun r_19 => some (r_19, fi_13, fl_16, ar_14))) else (if (v4 = 1 : Prop) then (bind1 (f_X8_leastTerm (fl_16 0) (fl_16 1) (fl_16 1)) (fun r_22 => some (r_22, fi_13, fl_16, ar_14))) else (if (v4 = 2 : Prop) then (bindv (f_X0_hasUpper fi_13 fl_16) (fun r_25 => bindv (f_X0_hasLower fl_16) (fun r_27 => bindv (f_X0_hasUpper fi_13 fl_16) (fun r_29 => bind1 (f_X8_leastTerm r_25 r_27 r_29) (fun r_31 => some (r_31, fi_13, fl_16, ar_14)))))) else (bindv (f_X0_hasUpper fi_13 fl_16) (fun r_33 => bindv (f_X0_hasLower fl_16) (fun r_35 => bindv (f_X0_hasLower fl_16) (fun r_37 => bind1 (f_X8_leastTerm r_33 r_35 r_37) (fun r_39 => some (r_39, fi_13, fl_16, ar_14))))))))))))))))))
set_option maxHeartbeats 4000000 in
set_option maxRecDepth 100000 in
theorem c_X8_other (l : Launch) (D : va_G) (ca : Nat → ClassId) (ak av ad : Nat → Nat) (fi : Nat → Int32) (fl : Nat → Int64) (ar : Nat → Nat → Int32) (v1 : Int32) (v2 : Int32) (v3 : Int32) (v4 : Int32) {r0 : Int64} {fi0 : Nat → Int32} {fl0 : Nat → Int64} {ar0 : Nat → Nat → Int32} (hf : f_X8_other fi fl ar v1 v2 v3 v4 = some (r0, fi0, fl0, ar0)) : MtL l yX8_other cX8_other 5 { frames := 3, cells := 0, slots := 0, locals := 74 } (EC D ca ak av) [.ref (ad 0), .int v1, .int v2, .int v3, .int v4] (wC ad ca fi fl ar) (wC ad ca fi0 fl0 ar0) r0 := by
  refine MtL.of (own := RX8) (by decide +kernel) rfl (Nat.le_of_ble_eq_true rfl) ?_
  intro p e s m args below meth c A B hr hk w ls hl
  have hx := B.1.1
  have hb := B.1.2.1
  have hown := B.1.2.2.2.1
  have hts := B.1.2.2.2.2
  have hl : lv_has ls 5 [(0, .ref (ad 0)), (1, .int v1), (2, .int v2), (3, .int v3), (4, .int v4)] := hl
  unfold f_X8_other at hf
  refine (show ∀ (H : Heap) (locs : List Loc), Wd (EC D ca ak av) A s (wC ad ca fi fl ar) H locs → W p l e ({ frames := 3, cells := 0, slots := 0, locals := 74 } : Room) s m args below meth c H locs 0 0 (MQ below (Ql (EC D ca ak av) A (wC ad ca fi0 fl0 ar0) r0) args s 0 0 A) (F0 m 0 ls []) from ?_) s.heap [] w
  intro H locs w
  refine lv_iload_n hx hb dX8_other_0 rfl (lv_at hl 1 rfl) ?_
  obtain ⟨r_1, er_2⟩ : ∃ y, f_X8_isRule v1 = y := ⟨_, rfl⟩
  have hf := bindv_eq hf r_1 er_2.symm
  refine callSZ (As := [.int v1]) (rest := []) B w (c_X8_isRule l _ v1 er_2) (gS kt2_215 kt2_216 kt1_1 kt2_217) hdS_X8_isRule rfl rfl ⟨Nat.le_of_ble_eq_true rfl, Nat.le_of_ble_eq_true rfl⟩ rfl hl.1 rfl (Nat.le_of_ble_eq_true rfl) dX8_other_1 ⟨Nat.le_of_ble_eq_true rfl, Nat.le_of_ble_eq_true rfl⟩ (fun H locs w hzr_1 => ?_)
  refine lv_if_eq (x := r_1) (tgt := 31) hx hb dX8_other_4 (by decide) (fun c_3 => ?_) (fun c_3 => ?_)
  · have hf := if_t hf c_3
    refine lv_ldc2 (own := RX8) (v := (-1002)) hx hb hown (hts _ kt3_38) dX8_other_31 ?_
    have hf : some ((-1002), fi, fl, ar) = some (r0, fi0, fl0, ar0) := hf
    obtain ⟨q0, q1, q2, q3⟩ := so4 hf
    subst q0
    subst q1
    subst q2
    subst q3
    exact retL B hr hk w dX8_other_34
  · have hf := if_f hf c_3
    refine lv_iload_n hx hb dX8_other_7 rfl (lv_at hl 2 rfl) ?_
    obtain ⟨r_4, er_5⟩ : ∃ y, f_X8_isWay v2 = y := ⟨_, rfl⟩
    have hf := bindv_eq hf r_4 er_5.symm
    refine callSZ (As := [.int v2]) (rest := []) B w (c_X8_isWay l _ v2 er_5) (gS kt3_35 kt3_36 kt1_1 kt3_37) hdS_X8_isWay rfl rfl ⟨Nat.le_of_ble_eq_true rfl, Nat.le_of_ble_eq_true rfl⟩ rfl hl.1 rfl (Nat.le_of_ble_eq_true rfl) dX8_other_8 ⟨Nat.le_of_ble_eq_true rfl, Nat.le_of_ble_eq_true rfl⟩ (fun H locs w hzr_4 => ?_)
    refine lv_if_eq (x := r_4) (tgt := 31) hx hb dX8_other_11 (by decide) (fun c_6 => ?_) (fun c_6 => ?_)
    · have hf := if_t hf c_6
      refine lv_ldc2 (own := RX8) (v := (-1002)) hx hb hown (hts _ kt3_38) dX8_other_31 ?_
      have hf : some ((-1002), fi, fl, ar) = some (r0, fi0, fl0, ar0) := hf
      obtain ⟨q0, q1, q2, q3⟩ := so4 hf
      subst q0
      subst q1
      subst q2
      subst q3
      exact retL B hr hk w dX8_other_34
    · have hf := if_f hf c_6
      refine lv_iload_n hx hb dX8_other_14 rfl (lv_at hl 3 rfl) ?_
      obtain ⟨r_7, er_8⟩ : ∃ y, f_X8_isShare v3 = y := ⟨_, rfl⟩
      have hf := bindv_eq hf r_7 er_8.symm
      refine callSZ (As := [.int v3]) (rest := []) B w (c_X8_isShare l _ v3 er_8) (gS kt2_229 kt2_230 kt1_1 kt2_231) hdS_X8_isShare rfl rfl ⟨Nat.le_of_ble_eq_true rfl, Nat.le_of_ble_eq_true rfl⟩ rfl hl.1 rfl (Nat.le_of_ble_eq_true rfl) dX8_other_15 ⟨Nat.le_of_ble_eq_true rfl, Nat.le_of_ble_eq_true rfl⟩ (fun H locs w hzr_7 => ?_)
      refine lv_if_eq (x := r_7) (tgt := 31) hx hb dX8_other_18 (by decide) (fun c_9 => ?_) (fun c_9 => ?_)
      · have hf := if_t hf c_9
        refine lv_ldc2 (own := RX8) (v := (-1002)) hx hb hown (hts _ kt3_38) dX8_other_31 ?_
        have hf : some ((-1002), fi, fl, ar) = some (r0, fi0, fl0, ar0) := hf
        obtain ⟨q0, q1, q2, q3⟩ := so4 hf
        subst q0
        subst q1
        subst q2
        subst q3
        exact retL B hr hk w dX8_other_34
      · have hf := if_f hf c_9
        refine lv_iload hx hb dX8_other_21 (lv_at hl 4 rfl) ?_
        refine lv_iconst (v := 0) hx hb dX8_other_23 (by decide) ?_
        refine lv_iconst (v := 3) hx hb dX8_other_24 (by decide) ?_
        obtain ⟨r_10, er_11⟩ : ∃ y, f_X8_within v4 0 3 = y := ⟨_, rfl⟩
        have hf := bindv_eq hf r_10 er_11.symm
        refine callSZ (As := [.int v4, .int 0, .int 3]) (rest := []) B w (c_X8_within l _ v4 0 3 er_11) (gS kt2_72 kt2_73 kt1_1 kt2_74) hdS_X8_within rfl rfl ⟨Nat.le_of_ble_eq_true rfl, Nat.le_of_ble_eq_true rfl⟩ rfl hl.1 rfl (Nat.le_of_ble_eq_true rfl) dX8_other_25 ⟨Nat.le_of_ble_eq_true rfl, Nat.le_of_ble_eq_true rfl⟩ (fun H locs w hzr_10 => ?_)
        refine lv_if_ne (x := r_10) (tgt := 35) hx hb dX8_other_28 (by decide) (fun c_12 => ?_) (fun c_12 => ?_)
        · have hf := if_f hf c_12
          refine lv_aload_n hx hb dX8_other_35 rfl (lv_at hl 0 rfl) ?_
          refine gfC_0_2 B w kt2_42 dX8_other_36 ?_
          refine lv_aload_n hx hb dX8_other_39 rfl (lv_at hl 0 rfl) ?_
          refine gfC_0_0 B w kt2_40 dX8_other_40 ?_
          refine lv_iload_n hx hb dX8_other_43 rfl (lv_at hl 1 rfl) ?_
          refine lv_aload_n hx hb dX8_other_44 rfl (lv_at hl 0 rfl) ?_
          refine gfC_0_0 B w kt2_40 dX8_other_45 ?_
          refine gfC_1_3 B w kt1_50 dX8_other_48 ?_
          obtain ⟨fi_13, ar_14, er_15, hf⟩ := bind2_eq hf
          refine callVV (As := [.ref (ad 1), .int v1, .int (fi 4)]) (rest := []) B w (c_X1_live l D ca ak av ad fi fl ar v1 (fi 4) er_15) (gV kt2_232 kt2_233 kt2_234 kt1_4 kt2_235) hdV_X1_live 5 rfl rfl rfl rfl ⟨Nat.le_of_ble_eq_true rfl, Nat.le_of_ble_eq_true rfl⟩ rfl hl.1 rfl (Nat.le_of_ble_eq_true rfl) dX8_other_51 ⟨Nat.le_of_ble_eq_true rfl, Nat.le_of_ble_eq_true rfl⟩ (fun H locs w => ?_)
          refine lv_aload_n hx hb dX8_other_54 rfl (lv_at hl 0 rfl) ?_
          refine gfC_0_4 B w kt2_44 dX8_other_55 ?_
          refine lv_aload_n hx hb dX8_other_58 rfl (lv_at hl 0 rfl) ?_
          refine gfC_0_2 B w kt2_42 dX8_other_59 ?_
          refine lv_iload_n hx hb dX8_other_62 rfl (lv_at hl 2 rfl) ?_
          refine lv_iload_n hx hb dX8_other_63 rfl (lv_at hl 3 rfl) ?_
          obtain ⟨fl_16, er_17, hf⟩ := bind1_eq hf
          refine callVV (As := [.ref (ad 5), .int v2, .int v3]) (rest := []) B w (c_X0_live l D ca ak av ad fi_13 fl ar_14 v2 v3 er_17) (gV kt3_39 kt3_40 kt3_41 kt1_6 kt3_42) hdV_X0_live 11 rfl rfl rfl rfl ⟨Nat.le_of_ble_eq_true rfl, Nat.le_of_ble_eq_true rfl⟩ rfl hl.1 rfl (Nat.le_of_ble_eq_true rfl) dX8_other_64 ⟨Nat.le_of_ble_eq_true rfl, Nat.le_of_ble_eq_true rfl⟩ (fun H locs w => ?_)
          refine lv_iload hx hb dX8_other_67 (lv_at hl 4 rfl) ?_
          by_cases c_18 : v4 = 0
          · have hf := if_t hf c_18
            refine lv_tableIn (tgt := 96) (off := 27) hx hb dX8_other_69 (by rw [c_18]; decide) (by rw [c_18]; decide) (by rw [c_18]; decide) (by decide) ?_
            refine lv_aload_n hx hb dX8_other_96 rfl (lv_at hl 0 rfl) ?_
            refine gfC_0_4 B w kt2_44 dX8_other_97 ?_
            refine gfC_11_0 B w kt1_186 dX8_other_100 ?_
            refine lv_aload_n hx hb dX8_other_103 rfl (lv_at hl 0 rfl) ?_
            refine gfC_0_4 B w kt2_44 dX8_other_104 ?_
            refine gfC_11_1 B w kt1_189 dX8_other_107 ?_
            refine lv_aload_n hx hb dX8_other_110 rfl (lv_at hl 0 rfl) ?_
            refine gfC_0_4 B w kt2_44 dX8_other_111 ?_
            refine gfC_11_0 B w kt1_186 dX8_other_114 ?_
            obtain ⟨r_19, er_20, hf⟩ := bind1_eq hf
            refine callSL (As := [.long (fl_16 0), .long (fl_16 1), .long (fl_16 0)]) (rest := []) B w (c_X8_leastTerm l _ (fl_16 0) (fl_16 1) (fl_16 0) er_20) (gS kt3_55 kt3_56 kt1_1 kt3_57) hdS_X8_leastTerm rfl rfl ⟨Nat.le_of_ble_eq_true rfl, Nat.le_of_ble_eq_true rfl⟩ rfl hl.1 rfl (Nat.le_of_ble_eq_true rfl) dX8_other_117 ⟨Nat.le_of_ble_eq_true rfl, Nat.le_of_ble_eq_true rfl⟩ (fun H locs w => ?_)
            have hf : some (r_19, fi_13, fl_16, ar_14) = some (r0, fi0, fl0, ar0) := hf
            obtain ⟨q0, q1, q2, q3⟩ := so4 hf
            subst q0
            subst q1
            subst q2
            subst q3
            exact retL B hr hk w dX8_other_120
          · have hf := if_f hf c_18
            by_cases c_21 : v4 = 1
            · have hf := if_t hf c_21
              refine lv_tableIn (tgt := 121) (off := 52) hx hb dX8_other_69 (by rw [c_21]; decide) (by rw [c_21]; decide) (by rw [c_21]; decide) (by decide) ?_
              refine lv_aload_n hx hb dX8_other_121 rfl (lv_at hl 0 rfl) ?_
              refine gfC_0_4 B w kt2_44 dX8_other_122 ?_
              refine gfC_11_0 B w kt1_186 dX8_other_125 ?_
              refine lv_aload_n hx hb dX8_other_128 rfl (lv_at hl 0 rfl) ?_
              refine gfC_0_4 B w kt2_44 dX8_other_129 ?_
              refine gfC_11_1 B w kt1_189 dX8_other_132 ?_
              refine lv_aload_n hx hb dX8_other_135 rfl (lv_at hl 0 rfl) ?_
              refine gfC_0_4 B w kt2_44 dX8_other_136 ?_
              refine gfC_11_1 B w kt1_189 dX8_other_139 ?_
              obtain ⟨r_22, er_23, hf⟩ := bind1_eq hf
              refine callSL (As := [.long (fl_16 0), .long (fl_16 1), .long (fl_16 1)]) (rest := []) B w (c_X8_leastTerm l _ (fl_16 0) (fl_16 1) (fl_16 1) er_23) (gS kt3_55 kt3_56 kt1_1 kt3_57) hdS_X8_leastTerm rfl rfl ⟨Nat.le_of_ble_eq_true rfl, Nat.le_of_ble_eq_true rfl⟩ rfl hl.1 rfl (Nat.le_of_ble_eq_true rfl) dX8_other_142 ⟨Nat.le_of_ble_eq_true rfl, Nat.le_of_ble_eq_true rfl⟩ (fun H locs w => ?_)
              have hf : some (r_22, fi_13, fl_16, ar_14) = some (r0, fi0, fl0, ar0) := hf
              obtain ⟨q0, q1, q2, q3⟩ := so4 hf
              subst q0
              subst q1
              subst q2
              subst q3
              exact retL B hr hk w dX8_other_145
            · have hf := if_f hf c_21
              by_cases c_24 : v4 = 2
              · have hf := if_t hf c_24
                refine lv_tableIn (tgt := 146) (off := 77) hx hb dX8_other_69 (by rw [c_24]; decide) (by rw [c_24]; decide) (by rw [c_24]; decide) (by decide) ?_
                refine lv_aload_n hx hb dX8_other_146 rfl (lv_at hl 0 rfl) ?_
                refine gfC_0_4 B w kt2_44 dX8_other_147 ?_
                refine lv_aload_n hx hb dX8_other_150 rfl (lv_at hl 0 rfl) ?_
                refine gfC_0_2 B w kt2_42 dX8_other_151 ?_
                obtain ⟨r_25, er_26⟩ : ∃ y, f_X0_hasUpper fi_13 fl_16 = y := ⟨_, rfl⟩
                have hf := bindv_eq hf r_25 er_26.symm
                refine callVL (As := [.ref (ad 5)]) (rest := []) B w (c_X0_hasUpper l D ca ak av ad fi_13 fl_16 ar_14  er_26) (gV kt3_61 kt3_62 kt3_63 kt1_6 kt3_64) hdV_X0_hasUpper 11 rfl rfl rfl rfl ⟨Nat.le_of_ble_eq_true rfl, Nat.le_of_ble_eq_true rfl⟩ rfl hl.1 rfl (Nat.le_of_ble_eq_true rfl) dX8_other_154 ⟨Nat.le_of_ble_eq_true rfl, Nat.le_of_ble_eq_true rfl⟩ (fun H locs w => ?_)
                refine lv_aload_n hx hb dX8_other_157 rfl (lv_at hl 0 rfl) ?_
                refine gfC_0_4 B w kt2_44 dX8_other_158 ?_
                obtain ⟨r_27, er_28⟩ : ∃ y, f_X0_hasLower fl_16 = y := ⟨_, rfl⟩
                have hf := bindv_eq hf r_27 er_28.symm
                refine callVL (As := []) (rest := [.long r_25]) B w (c_X0_hasLower l D ca ak av ad fi_13 fl_16 ar_14  er_28) (gV kt3_65 kt3_66 kt3_67 kt1_6 kt3_68) hdV_X0_hasLower 11 rfl rfl rfl rfl ⟨Nat.le_of_ble_eq_true rfl, Nat.le_of_ble_eq_true rfl⟩ rfl hl.1 rfl (Nat.le_of_ble_eq_true rfl) dX8_other_161 ⟨Nat.le_of_ble_eq_true rfl, Nat.le_of_ble_eq_true rfl⟩ (fun H locs w => ?_)
                refine lv_aload_n hx hb dX8_other_164 rfl (lv_at hl 0 rfl) ?_
                refine gfC_0_4 B w kt2_44 dX8_other_165 ?_
                refine lv_aload_n hx hb dX8_other_168 rfl (lv_at hl 0 rfl) ?_
                refine gfC_0_2 B w kt2_42 dX8_other_169 ?_
                obtain ⟨r_29, er_30⟩ : ∃ y, f_X0_hasUpper fi_13 fl_16 = y := ⟨_, rfl⟩
                have hf := bindv_eq hf r_29 er_30.symm
                refine callVL (As := [.ref (ad 5)]) (rest := [.long r_27, .long r_25]) B w (c_X0_hasUpper l D ca ak av ad fi_13 fl_16 ar_14  er_30) (gV kt3_61 kt3_62 kt3_63 kt1_6 kt3_64) hdV_X0_hasUpper 11 rfl rfl rfl rfl ⟨Nat.le_of_ble_eq_true rfl, Nat.le_of_ble_eq_true rfl⟩ rfl hl.1 rfl (Nat.le_of_ble_eq_true rfl) dX8_other_172 ⟨Nat.le_of_ble_eq_true rfl, Nat.le_of_ble_eq_true rfl⟩ (fun H locs w => ?_)
                obtain ⟨r_31, er_32, hf⟩ := bind1_eq hf
                refine callSL (As := [.long r_25, .long r_27, .long r_29]) (rest := []) B w (c_X8_leastTerm l _ r_25 r_27 r_29 er_32) (gS kt3_55 kt3_56 kt1_1 kt3_57) hdS_X8_leastTerm rfl rfl ⟨Nat.le_of_ble_eq_true rfl, Nat.le_of_ble_eq_true rfl⟩ rfl hl.1 rfl (Nat.le_of_ble_eq_true rfl) dX8_other_175 ⟨Nat.le_of_ble_eq_true rfl, Nat.le_of_ble_eq_true rfl⟩ (fun H locs w => ?_)
                have hf : some (r_31, fi_13, fl_16, ar_14) = some (r0, fi0, fl0, ar0) := hf
                obtain ⟨q0, q1, q2, q3⟩ := so4 hf
                subst q0
                subst q1
                subst q2
                subst q3
                exact retL B hr hk w dX8_other_178
              · have hf := if_f hf c_24
                have tc_18 := lv_neT c_18 (show (0 : Int32).toInt = 0 by decide)
                have tc_21 := lv_neT c_21 (show (1 : Int32).toInt = 1 by decide)
                have tc_24 := lv_neT c_24 (show (2 : Int32).toInt = 2 by decide)
                refine lv_tableOut (tgt := 179) hx hb dX8_other_69 (by omega) (by decide) ?_
                refine lv_aload_n hx hb dX8_other_179 rfl (lv_at hl 0 rfl) ?_
                refine gfC_0_4 B w kt2_44 dX8_other_180 ?_
                refine lv_aload_n hx hb dX8_other_183 rfl (lv_at hl 0 rfl) ?_
                refine gfC_0_2 B w kt2_42 dX8_other_184 ?_
                obtain ⟨r_33, er_34⟩ : ∃ y, f_X0_hasUpper fi_13 fl_16 = y := ⟨_, rfl⟩
                have hf := bindv_eq hf r_33 er_34.symm
                refine callVL (As := [.ref (ad 5)]) (rest := []) B w (c_X0_hasUpper l D ca ak av ad fi_13 fl_16 ar_14  er_34) (gV kt3_61 kt3_62 kt3_63 kt1_6 kt3_64) hdV_X0_hasUpper 11 rfl rfl rfl rfl ⟨Nat.le_of_ble_eq_true rfl, Nat.le_of_ble_eq_true rfl⟩ rfl hl.1 rfl (Nat.le_of_ble_eq_true rfl) dX8_other_187 ⟨Nat.le_of_ble_eq_true rfl, Nat.le_of_ble_eq_true rfl⟩ (fun H locs w => ?_)
                refine lv_aload_n hx hb dX8_other_190 rfl (lv_at hl 0 rfl) ?_
                refine gfC_0_4 B w kt2_44 dX8_other_191 ?_
                obtain ⟨r_35, er_36⟩ : ∃ y, f_X0_hasLower fl_16 = y := ⟨_, rfl⟩
                have hf := bindv_eq hf r_35 er_36.symm
                refine callVL (As := []) (rest := [.long r_33]) B w (c_X0_hasLower l D ca ak av ad fi_13 fl_16 ar_14  er_36) (gV kt3_65 kt3_66 kt3_67 kt1_6 kt3_68) hdV_X0_hasLower 11 rfl rfl rfl rfl ⟨Nat.le_of_ble_eq_true rfl, Nat.le_of_ble_eq_true rfl⟩ rfl hl.1 rfl (Nat.le_of_ble_eq_true rfl) dX8_other_194 ⟨Nat.le_of_ble_eq_true rfl, Nat.le_of_ble_eq_true rfl⟩ (fun H locs w => ?_)
                refine lv_aload_n hx hb dX8_other_197 rfl (lv_at hl 0 rfl) ?_
                refine gfC_0_4 B w kt2_44 dX8_other_198 ?_
                obtain ⟨r_37, er_38⟩ : ∃ y, f_X0_hasLower fl_16 = y := ⟨_, rfl⟩
                have hf := bindv_eq hf r_37 er_38.symm
                refine callVL (As := []) (rest := [.long r_35, .long r_33]) B w (c_X0_hasLower l D ca ak av ad fi_13 fl_16 ar_14  er_38) (gV kt3_65 kt3_66 kt3_67 kt1_6 kt3_68) hdV_X0_hasLower 11 rfl rfl rfl rfl ⟨Nat.le_of_ble_eq_true rfl, Nat.le_of_ble_eq_true rfl⟩ rfl hl.1 rfl (Nat.le_of_ble_eq_true rfl) dX8_other_201 ⟨Nat.le_of_ble_eq_true rfl, Nat.le_of_ble_eq_true rfl⟩ (fun H locs w => ?_)
                obtain ⟨r_39, er_40, hf⟩ := bind1_eq hf
                refine callSL (As := [.long r_33, .long r_35, .long r_37]) (rest := []) B w (c_X8_leastTerm l _ r_33 r_35 r_37 er_40) (gS kt3_55 kt3_56 kt1_1 kt3_57) hdS_X8_leastTerm rfl rfl ⟨Nat.le_of_ble_eq_true rfl, Nat.le_of_ble_eq_true rfl⟩ rfl hl.1 rfl (Nat.le_of_ble_eq_true rfl) dX8_other_204 ⟨Nat.le_of_ble_eq_true rfl, Nat.le_of_ble_eq_true rfl⟩ (fun H locs w => ?_)
                have hf : some (r_39, fi_13, fl_16, ar_14) = some (r0, fi0, fl0, ar0) := hf
                obtain ⟨q0, q1, q2, q3⟩ := so4 hf
                subst q0
                subst q1
                subst q2
                subst q3
                exact retL B hr hk w dX8_other_207
        · have hf := if_t hf c_12
          refine lv_ldc2 (own := RX8) (v := (-1002)) hx hb hown (hts _ kt3_38) dX8_other_31 ?_
          have hf : some ((-1002), fi, fl, ar) = some (r0, fi0, fl0, ar0) := hf
          obtain ⟨q0, q1, q2, q3⟩ := so4 hf
          subst q0
          subst q1
          subst q2
          subst q3
          exact retL B hr hk w dX8_other_34
def f_X8_gain (fi : Nat → Int32) (fl : Nat → Int64) (ar : Nat → Nat → Int32) (v1 : Int32) (v2 : Int32) (v3 : Int32) : Option (Int32 × (Nat → Int32) × (Nat → Int64) × (Nat → Nat → Int32)) := bindv (f_X8_isRule v1) (fun r_1 => if (r_1 = 0 : Prop) then (some ((-1002), fi, fl, ar)) else (bindv (f_X8_isWay v2) (fun r_4 => if (r_4 = 0 : Prop) then (some ((-1002), fi, fl, ar)) else (bindv (f_X8_isShare v3) (fun r_7 => if (r_7 = 0 : Prop) then (some ((-1002), fi, fl, ar)) else (bind2 (f_X1_live fi ar v1 (fi 4)) (fun fi_10 ar_11 => bind1 (f_X2_measure fi_10 fl ar_11 v3) (fun fl_13 => bind2 (f_X2_compare fi_10 fl_13 ar_11 v2 v3) (fun r_15 fl_16 => some (r_15, fi_10, fl_16, ar_11))))))))))
set_option maxHeartbeats 4000000 in
set_option maxRecDepth 100000 in
theorem c_X8_gain (l : Launch) (D : va_G) (ca : Nat → ClassId) (ak av ad : Nat → Nat) (fi : Nat → Int32) (fl : Nat → Int64) (ar : Nat → Nat → Int32) (v1 : Int32) (v2 : Int32) (v3 : Int32) {r0 : Int32} {fi0 : Nat → Int32} {fl0 : Nat → Int64} {ar0 : Nat → Nat → Int32} (hf : f_X8_gain fi fl ar v1 v2 v3 = some (r0, fi0, fl0, ar0)) : MtI l yX8_gain cX8_gain 4 { frames := 4, cells := 0, slots := 0, locals := 96 } (EC D ca ak av) [.ref (ad 0), .int v1, .int v2, .int v3] (wC ad ca fi fl ar) (wC ad ca fi0 fl0 ar0) r0 := by
  refine MtI.of (own := RX8) (by decide +kernel) rfl (Nat.le_of_ble_eq_true rfl) ?_
  intro p e s m args below meth c A B hr hk w ls hl
  have hx := B.1.1
  have hb := B.1.2.1
  have hown := B.1.2.2.2.1
  have hts := B.1.2.2.2.2
  have hl : lv_has ls 4 [(0, .ref (ad 0)), (1, .int v1), (2, .int v2), (3, .int v3)] := hl
  unfold f_X8_gain at hf
  refine (show ∀ (H : Heap) (locs : List Loc), Wd (EC D ca ak av) A s (wC ad ca fi fl ar) H locs → W p l e ({ frames := 4, cells := 0, slots := 0, locals := 96 } : Room) s m args below meth c H locs 0 0 (MQ below (Qi (EC D ca ak av) A (wC ad ca fi0 fl0 ar0) r0) args s 0 0 A) (F0 m 0 ls []) from ?_) s.heap [] w
  intro H locs w
  refine lv_iload_n hx hb dX8_gain_0 rfl (lv_at hl 1 rfl) ?_
  obtain ⟨r_1, er_2⟩ : ∃ y, f_X8_isRule v1 = y := ⟨_, rfl⟩
  have hf := bindv_eq hf r_1 er_2.symm
  refine callSZ (As := [.int v1]) (rest := []) B w (c_X8_isRule l _ v1 er_2) (gS kt2_215 kt2_216 kt1_1 kt2_217) hdS_X8_isRule rfl rfl ⟨Nat.le_of_ble_eq_true rfl, Nat.le_of_ble_eq_true rfl⟩ rfl hl.1 rfl (Nat.le_of_ble_eq_true rfl) dX8_gain_1 ⟨Nat.le_of_ble_eq_true rfl, Nat.le_of_ble_eq_true rfl⟩ (fun H locs w hzr_1 => ?_)
  refine lv_if_eq (x := r_1) (tgt := 21) hx hb dX8_gain_4 (by decide) (fun c_3 => ?_) (fun c_3 => ?_)
  · have hf := if_t hf c_3
    refine lv_sipush (v := (-1002)) hx hb dX8_gain_21 (by decide) ?_
    have hf : some ((-1002), fi, fl, ar) = some (r0, fi0, fl0, ar0) := hf
    obtain ⟨q0, q1, q2, q3⟩ := so4 hf
    subst q0
    subst q1
    subst q2
    subst q3
    exact retI B hr hk w dX8_gain_24
  · have hf := if_f hf c_3
    refine lv_iload_n hx hb dX8_gain_7 rfl (lv_at hl 2 rfl) ?_
    obtain ⟨r_4, er_5⟩ : ∃ y, f_X8_isWay v2 = y := ⟨_, rfl⟩
    have hf := bindv_eq hf r_4 er_5.symm
    refine callSZ (As := [.int v2]) (rest := []) B w (c_X8_isWay l _ v2 er_5) (gS kt3_35 kt3_36 kt1_1 kt3_37) hdS_X8_isWay rfl rfl ⟨Nat.le_of_ble_eq_true rfl, Nat.le_of_ble_eq_true rfl⟩ rfl hl.1 rfl (Nat.le_of_ble_eq_true rfl) dX8_gain_8 ⟨Nat.le_of_ble_eq_true rfl, Nat.le_of_ble_eq_true rfl⟩ (fun H locs w hzr_4 => ?_)
    refine lv_if_eq (x := r_4) (tgt := 21) hx hb dX8_gain_11 (by decide) (fun c_6 => ?_) (fun c_6 => ?_)
    · have hf := if_t hf c_6
      refine lv_sipush (v := (-1002)) hx hb dX8_gain_21 (by decide) ?_
      have hf : some ((-1002), fi, fl, ar) = some (r0, fi0, fl0, ar0) := hf
      obtain ⟨q0, q1, q2, q3⟩ := so4 hf
      subst q0
      subst q1
      subst q2
      subst q3
      exact retI B hr hk w dX8_gain_24
    · have hf := if_f hf c_6
      refine lv_iload_n hx hb dX8_gain_14 rfl (lv_at hl 3 rfl) ?_
      obtain ⟨r_7, er_8⟩ : ∃ y, f_X8_isShare v3 = y := ⟨_, rfl⟩
      have hf := bindv_eq hf r_7 er_8.symm
      refine callSZ (As := [.int v3]) (rest := []) B w (c_X8_isShare l _ v3 er_8) (gS kt2_229 kt2_230 kt1_1 kt2_231) hdS_X8_isShare rfl rfl ⟨Nat.le_of_ble_eq_true rfl, Nat.le_of_ble_eq_true rfl⟩ rfl hl.1 rfl (Nat.le_of_ble_eq_true rfl) dX8_gain_15 ⟨Nat.le_of_ble_eq_true rfl, Nat.le_of_ble_eq_true rfl⟩ (fun H locs w hzr_7 => ?_)
      refine lv_if_ne (x := r_7) (tgt := 25) hx hb dX8_gain_18 (by decide) (fun c_9 => ?_) (fun c_9 => ?_)
      · have hf := if_f hf c_9
        refine lv_aload_n hx hb dX8_gain_25 rfl (lv_at hl 0 rfl) ?_
        refine gfC_0_2 B w kt2_42 dX8_gain_26 ?_
        refine lv_aload_n hx hb dX8_gain_29 rfl (lv_at hl 0 rfl) ?_
        refine gfC_0_0 B w kt2_40 dX8_gain_30 ?_
        refine lv_iload_n hx hb dX8_gain_33 rfl (lv_at hl 1 rfl) ?_
        refine lv_aload_n hx hb dX8_gain_34 rfl (lv_at hl 0 rfl) ?_
        refine gfC_0_0 B w kt2_40 dX8_gain_35 ?_
        refine gfC_1_3 B w kt1_50 dX8_gain_38 ?_
        obtain ⟨fi_10, ar_11, er_12, hf⟩ := bind2_eq hf
        refine callVV (As := [.ref (ad 1), .int v1, .int (fi 4)]) (rest := []) B w (c_X1_live l D ca ak av ad fi fl ar v1 (fi 4) er_12) (gV kt2_232 kt2_233 kt2_234 kt1_4 kt2_235) hdV_X1_live 5 rfl rfl rfl rfl ⟨Nat.le_of_ble_eq_true rfl, Nat.le_of_ble_eq_true rfl⟩ rfl hl.1 rfl (Nat.le_of_ble_eq_true rfl) dX8_gain_41 ⟨Nat.le_of_ble_eq_true rfl, Nat.le_of_ble_eq_true rfl⟩ (fun H locs w => ?_)
        refine lv_aload_n hx hb dX8_gain_44 rfl (lv_at hl 0 rfl) ?_
        refine gfC_0_5 B w kt2_45 dX8_gain_45 ?_
        refine lv_iload_n hx hb dX8_gain_48 rfl (lv_at hl 3 rfl) ?_
        obtain ⟨fl_13, er_14, hf⟩ := bind1_eq hf
        refine callVV (As := [.int v3]) (rest := []) B w (c_X2_measure l D ca ak av ad fi_10 fl ar_11 v3 er_14) (gV kt3_74 kt3_75 kt3_76 kt1_7 kt3_77) hdV_X2_measure 12 rfl rfl rfl rfl ⟨Nat.le_of_ble_eq_true rfl, Nat.le_of_ble_eq_true rfl⟩ rfl hl.1 rfl (Nat.le_of_ble_eq_true rfl) dX8_gain_49 ⟨Nat.le_of_ble_eq_true rfl, Nat.le_of_ble_eq_true rfl⟩ (fun H locs w => ?_)
        refine lv_aload_n hx hb dX8_gain_52 rfl (lv_at hl 0 rfl) ?_
        refine gfC_0_5 B w kt2_45 dX8_gain_53 ?_
        refine lv_iload_n hx hb dX8_gain_56 rfl (lv_at hl 2 rfl) ?_
        refine lv_iload_n hx hb dX8_gain_57 rfl (lv_at hl 3 rfl) ?_
        obtain ⟨r_15, fl_16, er_17, hf⟩ := bind2_eq hf
        refine callVI (As := [.int v2, .int v3]) (rest := []) B w (c_X2_compare l D ca ak av ad fi_10 fl_13 ar_11 v2 v3 er_17) (gV kt3_79 kt3_80 kt3_81 kt1_7 kt3_82) hdV_X2_compare 12 rfl rfl rfl rfl ⟨Nat.le_of_ble_eq_true rfl, Nat.le_of_ble_eq_true rfl⟩ rfl hl.1 rfl (Nat.le_of_ble_eq_true rfl) dX8_gain_58 ⟨Nat.le_of_ble_eq_true rfl, Nat.le_of_ble_eq_true rfl⟩ (fun H locs w => ?_)
        have hf : some (r_15, fi_10, fl_16, ar_11) = some (r0, fi0, fl0, ar0) := hf
        obtain ⟨q0, q1, q2, q3⟩ := so4 hf
        subst q0
        subst q1
        subst q2
        subst q3
        exact retI B hr hk w dX8_gain_61
      · have hf := if_t hf c_9
        refine lv_sipush (v := (-1002)) hx hb dX8_gain_21 (by decide) ?_
        have hf : some ((-1002), fi, fl, ar) = some (r0, fi0, fl0, ar0) := hf
        obtain ⟨q0, q1, q2, q3⟩ := so4 hf
        subst q0
        subst q1
        subst q2
        subst q3
        exact retI B hr hk w dX8_gain_24
def f_X8_holds (fi : Nat → Int32) (fl : Nat → Int64) (ar : Nat → Nat → Int32) (v1 : Int32) : Option (Int32 × (Nat → Int32) × (Nat → Int64) × (Nat → Nat → Int32)) := bindv (f_X8_isRule v1) (fun r_1 => if (r_1 = 0 : Prop) then (some ((-1002), fi, fl, ar)) else (bind4 (f_X2_verdict fi fl ar v1 (fi 4)) (fun r_4 fi_5 fl_6 ar_7 => some (r_4, fi_5, fl_6, ar_7))))
set_option maxHeartbeats 4000000 in
set_option maxRecDepth 100000 in
theorem c_X8_holds (l : Launch) (D : va_G) (ca : Nat → ClassId) (ak av ad : Nat → Nat) (fi : Nat → Int32) (fl : Nat → Int64) (ar : Nat → Nat → Int32) (v1 : Int32) {r0 : Int32} {fi0 : Nat → Int32} {fl0 : Nat → Int64} {ar0 : Nat → Nat → Int32} (hf : f_X8_holds fi fl ar v1 = some (r0, fi0, fl0, ar0)) : MtI l yX8_holds cX8_holds 2 { frames := 5, cells := 0, slots := 0, locals := 120 } (EC D ca ak av) [.ref (ad 0), .int v1] (wC ad ca fi fl ar) (wC ad ca fi0 fl0 ar0) r0 := by
  refine MtI.of (own := RX8) (by decide +kernel) rfl (Nat.le_of_ble_eq_true rfl) ?_
  intro p e s m args below meth c A B hr hk w ls hl
  have hx := B.1.1
  have hb := B.1.2.1
  have hown := B.1.2.2.2.1
  have hts := B.1.2.2.2.2
  have hl : lv_has ls 2 [(0, .ref (ad 0)), (1, .int v1)] := hl
  unfold f_X8_holds at hf
  refine (show ∀ (H : Heap) (locs : List Loc), Wd (EC D ca ak av) A s (wC ad ca fi fl ar) H locs → W p l e ({ frames := 5, cells := 0, slots := 0, locals := 120 } : Room) s m args below meth c H locs 0 0 (MQ below (Qi (EC D ca ak av) A (wC ad ca fi0 fl0 ar0) r0) args s 0 0 A) (F0 m 0 ls []) from ?_) s.heap [] w
  intro H locs w
  refine lv_iload_n hx hb dX8_holds_0 rfl (lv_at hl 1 rfl) ?_
  obtain ⟨r_1, er_2⟩ : ∃ y, f_X8_isRule v1 = y := ⟨_, rfl⟩
  have hf := bindv_eq hf r_1 er_2.symm
  refine callSZ (As := [.int v1]) (rest := []) B w (c_X8_isRule l _ v1 er_2) (gS kt2_215 kt2_216 kt1_1 kt2_217) hdS_X8_isRule rfl rfl ⟨Nat.le_of_ble_eq_true rfl, Nat.le_of_ble_eq_true rfl⟩ rfl hl.1 rfl (Nat.le_of_ble_eq_true rfl) dX8_holds_1 ⟨Nat.le_of_ble_eq_true rfl, Nat.le_of_ble_eq_true rfl⟩ (fun H locs w hzr_1 => ?_)
  refine lv_if_ne (x := r_1) (tgt := 11) hx hb dX8_holds_4 (by decide) (fun c_3 => ?_) (fun c_3 => ?_)
  · have hf := if_f hf c_3
    refine lv_aload_n hx hb dX8_holds_11 rfl (lv_at hl 0 rfl) ?_
    refine gfC_0_5 B w kt2_45 dX8_holds_12 ?_
    refine lv_iload_n hx hb dX8_holds_15 rfl (lv_at hl 1 rfl) ?_
    refine lv_aload_n hx hb dX8_holds_16 rfl (lv_at hl 0 rfl) ?_
    refine gfC_0_0 B w kt2_40 dX8_holds_17 ?_
    refine gfC_1_3 B w kt1_50 dX8_holds_20 ?_
    obtain ⟨r_4, fi_5, fl_6, ar_7, er_8, hf⟩ := bind4_eq hf
    refine callVI (As := [.int v1, .int (fi 4)]) (rest := []) B w (c_X2_verdict l D ca ak av ad fi fl ar v1 (fi 4) er_8) (gV kt3_90 kt3_91 kt3_92 kt1_7 kt3_93) hdV_X2_verdict 12 rfl rfl rfl rfl ⟨Nat.le_of_ble_eq_true rfl, Nat.le_of_ble_eq_true rfl⟩ rfl hl.1 rfl (Nat.le_of_ble_eq_true rfl) dX8_holds_23 ⟨Nat.le_of_ble_eq_true rfl, Nat.le_of_ble_eq_true rfl⟩ (fun H locs w => ?_)
    have hf : some (r_4, fi_5, fl_6, ar_7) = some (r0, fi0, fl0, ar0) := hf
    obtain ⟨q0, q1, q2, q3⟩ := so4 hf
    subst q0
    subst q1
    subst q2
    subst q3
    exact retI B hr hk w dX8_holds_26
  · have hf := if_t hf c_3
    refine lv_sipush (v := (-1002)) hx hb dX8_holds_7 (by decide) ?_
    have hf : some ((-1002), fi, fl, ar) = some (r0, fi0, fl0, ar0) := hf
    obtain ⟨q0, q1, q2, q3⟩ := so4 hf
    subst q0
    subst q1
    subst q2
    subst q3
    exact retI B hr hk w dX8_holds_10
def f_X8_all (fi : Nat → Int32) (fl : Nat → Int64) (ar : Nat → Nat → Int32) (v1 : Int32) : Option (Int32 × (Nat → Int32) × (Nat → Int64) × (Nat → Nat → Int32)) := bind3 (f_X4_make fi fl ar) (fun fi_1 fl_2 ar_3 => if (v1 = (-1) : Prop) then (bind1 (f_X4_count ar_3 (fi_1 0)) (fun r_8 => some (r_8, fi_1, fl_2, ar_3))) else (bind1 (f_X4_nth ar_3 v1 (fi_1 0)) (fun r_6 => some (r_6, fi_1, fl_2, ar_3))))
set_option maxHeartbeats 4000000 in
set_option maxRecDepth 100000 in
theorem c_X8_all (l : Launch) (D : va_G) (ca : Nat → ClassId) (ak av ad : Nat → Nat) (fi : Nat → Int32) (fl : Nat → Int64) (ar : Nat → Nat → Int32) (v1 : Int32) {r0 : Int32} {fi0 : Nat → Int32} {fl0 : Nat → Int64} {ar0 : Nat → Nat → Int32} (hf : f_X8_all fi fl ar v1 = some (r0, fi0, fl0, ar0)) : MtI l yX8_all cX8_all 2 { frames := 6, cells := 0, slots := 0, locals := 142 } (EC D ca ak av) [.ref (ad 0), .int v1] (wC ad ca fi fl ar) (wC ad ca fi0 fl0 ar0) r0 := by
  refine MtI.of (own := RX8) (by decide +kernel) rfl (Nat.le_of_ble_eq_true rfl) ?_
  intro p e s m args below meth c A B hr hk w ls hl
  have hx := B.1.1
  have hb := B.1.2.1
  have hown := B.1.2.2.2.1
  have hts := B.1.2.2.2.2
  have hl : lv_has ls 2 [(0, .ref (ad 0)), (1, .int v1)] := hl
  unfold f_X8_all at hf
  refine (show ∀ (H : Heap) (locs : List Loc), Wd (EC D ca ak av) A s (wC ad ca fi fl ar) H locs → W p l e ({ frames := 6, cells := 0, slots := 0, locals := 142 } : Room) s m args below meth c H locs 0 0 (MQ below (Qi (EC D ca ak av) A (wC ad ca fi0 fl0 ar0) r0) args s 0 0 A) (F0 m 0 ls []) from ?_) s.heap [] w
  intro H locs w
  refine lv_aload_n hx hb dX8_all_0 rfl (lv_at hl 0 rfl) ?_
  refine gfC_0_6 B w kt2_46 dX8_all_1 ?_
  obtain ⟨fi_1, fl_2, ar_3, er_4, hf⟩ := bind3_eq hf
  refine callVV (As := []) (rest := []) B w (c_X4_make l D ca ak av ad fi fl ar  er_4) (gV kt3_103 kt3_104 kt3_105 kt1_8 kt3_106) hdV_X4_make 13 rfl rfl rfl rfl ⟨Nat.le_of_ble_eq_true rfl, Nat.le_of_ble_eq_true rfl⟩ rfl hl.1 rfl (Nat.le_of_ble_eq_true rfl) dX8_all_4 ⟨Nat.le_of_ble_eq_true rfl, Nat.le_of_ble_eq_true rfl⟩ (fun H locs w => ?_)
  refine lv_iload_n hx hb dX8_all_7 rfl (lv_at hl 1 rfl) ?_
  refine lv_iconst (v := (-1)) hx hb dX8_all_8 (by decide) ?_
  refine lv_icmp_ne (x := v1) (y := (-1)) (tgt := 26) hx hb dX8_all_9 (by decide) (fun c_5 => ?_) (fun c_5 => ?_)
  · have hf := if_f hf c_5
    refine lv_aload_n hx hb dX8_all_26 rfl (lv_at hl 0 rfl) ?_
    refine gfC_0_6 B w kt2_46 dX8_all_27 ?_
    refine lv_iload_n hx hb dX8_all_30 rfl (lv_at hl 1 rfl) ?_
    refine lv_aload_n hx hb dX8_all_31 rfl (lv_at hl 0 rfl) ?_
    refine gfC_0_8 B w kt2_48 dX8_all_32 ?_
    obtain ⟨r_6, er_7, hf⟩ := bind1_eq hf
    refine callVI (As := [.int v1, .int (fi_1 0)]) (rest := []) B w (c_X4_nth l D ca ak av ad fi_1 fl_2 ar_3 v1 (fi_1 0) er_7) (gV kt3_120 kt3_121 kt3_122 kt1_8 kt3_123) hdV_X4_nth 13 rfl rfl rfl rfl ⟨Nat.le_of_ble_eq_true rfl, Nat.le_of_ble_eq_true rfl⟩ rfl hl.1 rfl (Nat.le_of_ble_eq_true rfl) dX8_all_35 ⟨Nat.le_of_ble_eq_true rfl, Nat.le_of_ble_eq_true rfl⟩ (fun H locs w => ?_)
    have hf : some (r_6, fi_1, fl_2, ar_3) = some (r0, fi0, fl0, ar0) := hf
    obtain ⟨q0, q1, q2, q3⟩ := so4 hf
    subst q0
    subst q1
    subst q2
    subst q3
    exact retI B hr hk w dX8_all_38
  · have hf := if_t hf c_5
    refine lv_aload_n hx hb dX8_all_12 rfl (lv_at hl 0 rfl) ?_
    refine gfC_0_6 B w kt2_46 dX8_all_13 ?_
    refine lv_aload_n hx hb dX8_all_16 rfl (lv_at hl 0 rfl) ?_
    refine gfC_0_8 B w kt2_48 dX8_all_17 ?_
    obtain ⟨r_8, er_9, hf⟩ := bind1_eq hf
    refine callVI (As := [.int (fi_1 0)]) (rest := []) B w (c_X4_count l D ca ak av ad fi_1 fl_2 ar_3 (fi_1 0) er_9) (gV kt3_116 kt3_117 kt3_118 kt1_8 kt3_119) hdV_X4_count 13 rfl rfl rfl rfl ⟨Nat.le_of_ble_eq_true rfl, Nat.le_of_ble_eq_true rfl⟩ rfl hl.1 rfl (Nat.le_of_ble_eq_true rfl) dX8_all_20 ⟨Nat.le_of_ble_eq_true rfl, Nat.le_of_ble_eq_true rfl⟩ (fun H locs w => ?_)
    refine lv_goto (tgt := 38) hx hb dX8_all_23 (by decide) ?_
    have hf : some (r_8, fi_1, fl_2, ar_3) = some (r0, fi0, fl0, ar0) := hf
    obtain ⟨q0, q1, q2, q3⟩ := so4 hf
    subst q0
    subst q1
    subst q2
    subst q3
    exact retI B hr hk w dX8_all_38
def f_X8_best (fi : Nat → Int32) (fl : Nat → Int64) (ar : Nat → Nat → Int32) (v1 : Int32) : Option (Int32 × (Nat → Int32) × (Nat → Int64) × (Nat → Nat → Int32)) := bindv (f_X8_within v1 0 2) (fun r_1 => if (r_1 = 0 : Prop) then (some ((-1002), fi, fl, ar)) else (bind3 (f_X4_make fi fl ar) (fun fi_4 fl_5 ar_6 => if (v1 = 0 : Prop) then (bind1 (f_X4_mostHelped fi_4 ar_6 (fi_4 0)) (fun r_17 => some (r_17, fi_4, fl_5, ar_6))) else (if (v1 = 1 : Prop) then (bind1 (f_X4_plainest ar_6 (fi_4 0)) (fun r_15 => some (r_15, fi_4, fl_5, ar_6))) else (bind4 (f_X4_firmest fi_4 fl_5 ar_6 (fi_4 0)) (fun r_10 fi_11 fl_12 ar_13 => some (r_10, fi_11, fl_12, ar_13)))))))
set_option maxHeartbeats 4000000 in
set_option maxRecDepth 100000 in
theorem c_X8_best (l : Launch) (D : va_G) (ca : Nat → ClassId) (ak av ad : Nat → Nat) (fi : Nat → Int32) (fl : Nat → Int64) (ar : Nat → Nat → Int32) (v1 : Int32) {r0 : Int32} {fi0 : Nat → Int32} {fl0 : Nat → Int64} {ar0 : Nat → Nat → Int32} (hf : f_X8_best fi fl ar v1 = some (r0, fi0, fl0, ar0)) : MtI l yX8_best cX8_best 2 { frames := 7, cells := 0, slots := 0, locals := 166 } (EC D ca ak av) [.ref (ad 0), .int v1] (wC ad ca fi fl ar) (wC ad ca fi0 fl0 ar0) r0 := by
  refine MtI.of (own := RX8) (by decide +kernel) rfl (Nat.le_of_ble_eq_true rfl) ?_
  intro p e s m args below meth c A B hr hk w ls hl
  have hx := B.1.1
  have hb := B.1.2.1
  have hown := B.1.2.2.2.1
  have hts := B.1.2.2.2.2
  have hl : lv_has ls 2 [(0, .ref (ad 0)), (1, .int v1)] := hl
  unfold f_X8_best at hf
  refine (show ∀ (H : Heap) (locs : List Loc), Wd (EC D ca ak av) A s (wC ad ca fi fl ar) H locs → W p l e ({ frames := 7, cells := 0, slots := 0, locals := 166 } : Room) s m args below meth c H locs 0 0 (MQ below (Qi (EC D ca ak av) A (wC ad ca fi0 fl0 ar0) r0) args s 0 0 A) (F0 m 0 ls []) from ?_) s.heap [] w
  intro H locs w
  refine lv_iload_n hx hb dX8_best_0 rfl (lv_at hl 1 rfl) ?_
  refine lv_iconst (v := 0) hx hb dX8_best_1 (by decide) ?_
  refine lv_iconst (v := 2) hx hb dX8_best_2 (by decide) ?_
  obtain ⟨r_1, er_2⟩ : ∃ y, f_X8_within v1 0 2 = y := ⟨_, rfl⟩
  have hf := bindv_eq hf r_1 er_2.symm
  refine callSZ (As := [.int v1, .int 0, .int 2]) (rest := []) B w (c_X8_within l _ v1 0 2 er_2) (gS kt2_72 kt2_73 kt1_1 kt2_74) hdS_X8_within rfl rfl ⟨Nat.le_of_ble_eq_true rfl, Nat.le_of_ble_eq_true rfl⟩ rfl hl.1 rfl (Nat.le_of_ble_eq_true rfl) dX8_best_3 ⟨Nat.le_of_ble_eq_true rfl, Nat.le_of_ble_eq_true rfl⟩ (fun H locs w hzr_1 => ?_)
  refine lv_if_ne (x := r_1) (tgt := 13) hx hb dX8_best_6 (by decide) (fun c_3 => ?_) (fun c_3 => ?_)
  · have hf := if_f hf c_3
    refine lv_aload_n hx hb dX8_best_13 rfl (lv_at hl 0 rfl) ?_
    refine gfC_0_6 B w kt2_46 dX8_best_14 ?_
    obtain ⟨fi_4, fl_5, ar_6, er_7, hf⟩ := bind3_eq hf
    refine callVV (As := []) (rest := []) B w (c_X4_make l D ca ak av ad fi fl ar  er_7) (gV kt3_103 kt3_104 kt3_105 kt1_8 kt3_106) hdV_X4_make 13 rfl rfl rfl rfl ⟨Nat.le_of_ble_eq_true rfl, Nat.le_of_ble_eq_true rfl⟩ rfl hl.1 rfl (Nat.le_of_ble_eq_true rfl) dX8_best_17 ⟨Nat.le_of_ble_eq_true rfl, Nat.le_of_ble_eq_true rfl⟩ (fun H locs w => ?_)
    refine lv_iload_n hx hb dX8_best_20 rfl (lv_at hl 1 rfl) ?_
    refine lv_if_ne (x := v1) (tgt := 36) hx hb dX8_best_21 (by decide) (fun c_8 => ?_) (fun c_8 => ?_)
    · have hf := if_f hf c_8
      refine lv_iload_n hx hb dX8_best_36 rfl (lv_at hl 1 rfl) ?_
      refine lv_iconst (v := 1) hx hb dX8_best_37 (by decide) ?_
      refine lv_icmp_ne (x := v1) (y := 1) (tgt := 55) hx hb dX8_best_38 (by decide) (fun c_9 => ?_) (fun c_9 => ?_)
      · have hf := if_f hf c_9
        refine lv_aload_n hx hb dX8_best_55 rfl (lv_at hl 0 rfl) ?_
        refine gfC_0_6 B w kt2_46 dX8_best_56 ?_
        refine lv_aload_n hx hb dX8_best_59 rfl (lv_at hl 0 rfl) ?_
        refine gfC_0_8 B w kt2_48 dX8_best_60 ?_
        obtain ⟨r_10, fi_11, fl_12, ar_13, er_14, hf⟩ := bind4_eq hf
        refine callVI (As := [.int (fi_4 0)]) (rest := []) B w (c_X4_firmest l D ca ak av ad fi_4 fl_5 ar_6 (fi_4 0) er_14) (gV kt3_142 kt3_143 kt3_144 kt1_8 kt3_145) hdV_X4_firmest 13 rfl rfl rfl rfl ⟨Nat.le_of_ble_eq_true rfl, Nat.le_of_ble_eq_true rfl⟩ rfl hl.1 rfl (Nat.le_of_ble_eq_true rfl) dX8_best_63 ⟨Nat.le_of_ble_eq_true rfl, Nat.le_of_ble_eq_true rfl⟩ (fun H locs w => ?_)
        have hf : some (r_10, fi_11, fl_12, ar_13) = some (r0, fi0, fl0, ar0) := hf
        obtain ⟨q0, q1, q2, q3⟩ := so4 hf
        subst q0
        subst q1
        subst q2
        subst q3
        exact retI B hr hk w dX8_best_66
      · have hf := if_t hf c_9
        refine lv_aload_n hx hb dX8_best_41 rfl (lv_at hl 0 rfl) ?_
        refine gfC_0_6 B w kt2_46 dX8_best_42 ?_
        refine lv_aload_n hx hb dX8_best_45 rfl (lv_at hl 0 rfl) ?_
        refine gfC_0_8 B w kt2_48 dX8_best_46 ?_
        obtain ⟨r_15, er_16, hf⟩ := bind1_eq hf
        refine callVI (As := [.int (fi_4 0)]) (rest := []) B w (c_X4_plainest l D ca ak av ad fi_4 fl_5 ar_6 (fi_4 0) er_16) (gV kt3_132 kt3_133 kt3_134 kt1_8 kt3_135) hdV_X4_plainest 13 rfl rfl rfl rfl ⟨Nat.le_of_ble_eq_true rfl, Nat.le_of_ble_eq_true rfl⟩ rfl hl.1 rfl (Nat.le_of_ble_eq_true rfl) dX8_best_49 ⟨Nat.le_of_ble_eq_true rfl, Nat.le_of_ble_eq_true rfl⟩ (fun H locs w => ?_)
        refine lv_goto (tgt := 66) hx hb dX8_best_52 (by decide) ?_
        have hf : some (r_15, fi_4, fl_5, ar_6) = some (r0, fi0, fl0, ar0) := hf
        obtain ⟨q0, q1, q2, q3⟩ := so4 hf
        subst q0
        subst q1
        subst q2
        subst q3
        exact retI B hr hk w dX8_best_66
    · have hf := if_t hf c_8
      refine lv_aload_n hx hb dX8_best_24 rfl (lv_at hl 0 rfl) ?_
      refine gfC_0_6 B w kt2_46 dX8_best_25 ?_
      refine lv_aload_n hx hb dX8_best_28 rfl (lv_at hl 0 rfl) ?_
      refine gfC_0_8 B w kt2_48 dX8_best_29 ?_
      obtain ⟨r_17, er_18, hf⟩ := bind1_eq hf
      refine callVI (As := [.int (fi_4 0)]) (rest := []) B w (c_X4_mostHelped l D ca ak av ad fi_4 fl_5 ar_6 (fi_4 0) er_18) (gV kt3_128 kt3_129 kt3_130 kt1_8 kt3_131) hdV_X4_mostHelped 13 rfl rfl rfl rfl ⟨Nat.le_of_ble_eq_true rfl, Nat.le_of_ble_eq_true rfl⟩ rfl hl.1 rfl (Nat.le_of_ble_eq_true rfl) dX8_best_32 ⟨Nat.le_of_ble_eq_true rfl, Nat.le_of_ble_eq_true rfl⟩ (fun H locs w => ?_)
      have hf : some (r_17, fi_4, fl_5, ar_6) = some (r0, fi0, fl0, ar0) := hf
      obtain ⟨q0, q1, q2, q3⟩ := so4 hf
      subst q0
      subst q1
      subst q2
      subst q3
      exact retI B hr hk w dX8_best_35
  · have hf := if_t hf c_3
    refine lv_sipush (v := (-1002)) hx hb dX8_best_9 (by decide) ?_
    have hf : some ((-1002), fi, fl, ar) = some (r0, fi0, fl0, ar0) := hf
    obtain ⟨q0, q1, q2, q3⟩ := so4 hf
    subst q0
    subst q1
    subst q2
    subst q3
    exact retI B hr hk w dX8_best_12
def f_X8_plain (v1 : Int32) : Option (Int32) := bindv (f_X8_isRule v1) (fun r_1 => if (r_1 = 0 : Prop) then (some (-1002)) else (bind1 (f_X8_plainness v1) (fun r_4 => some r_4)))
set_option maxHeartbeats 4000000 in
set_option maxRecDepth 100000 in
theorem c_X8_plain (l : Launch) (D : va_G) (ca : Nat → ClassId) (ak av ad : Nat → Nat) (fi : Nat → Int32) (fl : Nat → Int64) (ar : Nat → Nat → Int32) (v1 : Int32) {r0 : Int32} (hf : f_X8_plain v1 = some r0) : MtI l yX8_plain cX8_plain 2 { frames := 3, cells := 0, slots := 0, locals := 66 } (EC D ca ak av) [.ref (ad 0), .int v1] (wC ad ca fi fl ar) (wC ad ca fi fl ar) r0 := by
  refine MtI.of (own := RX8) (by decide +kernel) rfl (Nat.le_of_ble_eq_true rfl) ?_
  intro p e s m args below meth c A B hr hk w ls hl
  have hx := B.1.1
  have hb := B.1.2.1
  have hown := B.1.2.2.2.1
  have hts := B.1.2.2.2.2
  have hl : lv_has ls 2 [(0, .ref (ad 0)), (1, .int v1)] := hl
  unfold f_X8_plain at hf
  refine (show ∀ (H : Heap) (locs : List Loc), Wd (EC D ca ak av) A s (wC ad ca fi fl ar) H locs → W p l e ({ frames := 3, cells := 0, slots := 0, locals := 66 } : Room) s m args below meth c H locs 0 0 (MQ below (Qi (EC D ca ak av) A (wC ad ca fi fl ar) r0) args s 0 0 A) (F0 m 0 ls []) from ?_) s.heap [] w
  intro H locs w
  refine lv_iload_n hx hb dX8_plain_0 rfl (lv_at hl 1 rfl) ?_
  obtain ⟨r_1, er_2⟩ : ∃ y, f_X8_isRule v1 = y := ⟨_, rfl⟩
  have hf := bindv_eq hf r_1 er_2.symm
  refine callSZ (As := [.int v1]) (rest := []) B w (c_X8_isRule l _ v1 er_2) (gS kt2_215 kt2_216 kt1_1 kt2_217) hdS_X8_isRule rfl rfl ⟨Nat.le_of_ble_eq_true rfl, Nat.le_of_ble_eq_true rfl⟩ rfl hl.1 rfl (Nat.le_of_ble_eq_true rfl) dX8_plain_1 ⟨Nat.le_of_ble_eq_true rfl, Nat.le_of_ble_eq_true rfl⟩ (fun H locs w hzr_1 => ?_)
  refine lv_if_eq (x := r_1) (tgt := 14) hx hb dX8_plain_4 (by decide) (fun c_3 => ?_) (fun c_3 => ?_)
  · have hf := if_t hf c_3
    refine lv_sipush (v := (-1002)) hx hb dX8_plain_14 (by decide) ?_
    have hf : some (-1002) = some r0 := hf
    have q0 := so1 hf
    subst q0
    exact retI B hr hk w dX8_plain_17
  · have hf := if_f hf c_3
    refine lv_iload_n hx hb dX8_plain_7 rfl (lv_at hl 1 rfl) ?_
    obtain ⟨r_4, er_5, hf⟩ := bind1_eq hf
    refine callSI (As := [.int v1]) (rest := []) B w (c_X8_plainness l _ v1 er_5) (gS kt3_155 kt3_137 kt1_1 kt3_138) hdS_X8_plainness rfl rfl ⟨Nat.le_of_ble_eq_true rfl, Nat.le_of_ble_eq_true rfl⟩ rfl hl.1 rfl (Nat.le_of_ble_eq_true rfl) dX8_plain_8 ⟨Nat.le_of_ble_eq_true rfl, Nat.le_of_ble_eq_true rfl⟩ (fun H locs w => ?_)
    refine lv_goto (tgt := 17) hx hb dX8_plain_11 (by decide) ?_
    have hf : some r_4 = some r0 := hf
    have q0 := so1 hf
    subst q0
    exact retI B hr hk w dX8_plain_17
def f_X8_bears (fi : Nat → Int32) (fl : Nat → Int64) (ar : Nat → Nat → Int32) (v1 : Int32) : Option (Int32 × (Nat → Int32) × (Nat → Int64) × (Nat → Nat → Int32)) := bindv (f_X8_isRule v1) (fun r_1 => if (r_1 = 0 : Prop) then (some ((-1002), fi, fl, ar)) else (bind4 (f_X2_greatestEye fi fl ar v1) (fun r_4 fi_5 fl_6 ar_7 => some (r_4, fi_5, fl_6, ar_7))))
set_option maxHeartbeats 4000000 in
set_option maxRecDepth 100000 in
theorem c_X8_bears (l : Launch) (D : va_G) (ca : Nat → ClassId) (ak av ad : Nat → Nat) (fi : Nat → Int32) (fl : Nat → Int64) (ar : Nat → Nat → Int32) (v1 : Int32) {r0 : Int32} {fi0 : Nat → Int32} {fl0 : Nat → Int64} {ar0 : Nat → Nat → Int32} (hf : f_X8_bears fi fl ar v1 = some (r0, fi0, fl0, ar0)) : MtI l yX8_bears cX8_bears 2 { frames := 6, cells := 0, slots := 0, locals := 142 } (EC D ca ak av) [.ref (ad 0), .int v1] (wC ad ca fi fl ar) (wC ad ca fi0 fl0 ar0) r0 := by
  refine MtI.of (own := RX8) (by decide +kernel) rfl (Nat.le_of_ble_eq_true rfl) ?_
  intro p e s m args below meth c A B hr hk w ls hl
  have hx := B.1.1
  have hb := B.1.2.1
  have hown := B.1.2.2.2.1
  have hts := B.1.2.2.2.2
  have hl : lv_has ls 2 [(0, .ref (ad 0)), (1, .int v1)] := hl
  unfold f_X8_bears at hf
  refine (show ∀ (H : Heap) (locs : List Loc), Wd (EC D ca ak av) A s (wC ad ca fi fl ar) H locs → W p l e ({ frames := 6, cells := 0, slots := 0, locals := 142 } : Room) s m args below meth c H locs 0 0 (MQ below (Qi (EC D ca ak av) A (wC ad ca fi0 fl0 ar0) r0) args s 0 0 A) (F0 m 0 ls []) from ?_) s.heap [] w
  intro H locs w
  refine lv_iload_n hx hb dX8_bears_0 rfl (lv_at hl 1 rfl) ?_
  obtain ⟨r_1, er_2⟩ : ∃ y, f_X8_isRule v1 = y := ⟨_, rfl⟩
  have hf := bindv_eq hf r_1 er_2.symm
  refine callSZ (As := [.int v1]) (rest := []) B w (c_X8_isRule l _ v1 er_2) (gS kt2_215 kt2_216 kt1_1 kt2_217) hdS_X8_isRule rfl rfl ⟨Nat.le_of_ble_eq_true rfl, Nat.le_of_ble_eq_true rfl⟩ rfl hl.1 rfl (Nat.le_of_ble_eq_true rfl) dX8_bears_1 ⟨Nat.le_of_ble_eq_true rfl, Nat.le_of_ble_eq_true rfl⟩ (fun H locs w hzr_1 => ?_)
  refine lv_if_eq (x := r_1) (tgt := 18) hx hb dX8_bears_4 (by decide) (fun c_3 => ?_) (fun c_3 => ?_)
  · have hf := if_t hf c_3
    refine lv_sipush (v := (-1002)) hx hb dX8_bears_18 (by decide) ?_
    have hf : some ((-1002), fi, fl, ar) = some (r0, fi0, fl0, ar0) := hf
    obtain ⟨q0, q1, q2, q3⟩ := so4 hf
    subst q0
    subst q1
    subst q2
    subst q3
    exact retI B hr hk w dX8_bears_21
  · have hf := if_f hf c_3
    refine lv_aload_n hx hb dX8_bears_7 rfl (lv_at hl 0 rfl) ?_
    refine gfC_0_5 B w kt2_45 dX8_bears_8 ?_
    refine lv_iload_n hx hb dX8_bears_11 rfl (lv_at hl 1 rfl) ?_
    obtain ⟨r_4, fi_5, fl_6, ar_7, er_8, hf⟩ := bind4_eq hf
    refine callVI (As := [.int v1]) (rest := []) B w (c_X2_greatestEye l D ca ak av ad fi fl ar v1 er_8) (gV kt3_160 kt3_147 kt3_148 kt1_7 kt3_149) hdV_X2_greatestEye 12 rfl rfl rfl rfl ⟨Nat.le_of_ble_eq_true rfl, Nat.le_of_ble_eq_true rfl⟩ rfl hl.1 rfl (Nat.le_of_ble_eq_true rfl) dX8_bears_12 ⟨Nat.le_of_ble_eq_true rfl, Nat.le_of_ble_eq_true rfl⟩ (fun H locs w => ?_)
    refine lv_goto (tgt := 21) hx hb dX8_bears_15 (by decide) ?_
    have hf : some (r_4, fi_5, fl_6, ar_7) = some (r0, fi0, fl0, ar0) := hf
    obtain ⟨q0, q1, q2, q3⟩ := so4 hf
    subst q0
    subst q1
    subst q2
    subst q3
    exact retI B hr hk w dX8_bears_21
def f_X8_turned (v1 : Int32) : Option (Int32) := bindv (f_X8_isRule v1) (fun r_1 => if (r_1 = 0 : Prop) then (some (-1002)) else (bind1 (f_X8_turnedAbout v1) (fun r_4 => some r_4)))
set_option maxHeartbeats 4000000 in
set_option maxRecDepth 100000 in
theorem c_X8_turned (l : Launch) (D : va_G) (ca : Nat → ClassId) (ak av ad : Nat → Nat) (fi : Nat → Int32) (fl : Nat → Int64) (ar : Nat → Nat → Int32) (v1 : Int32) {r0 : Int32} (hf : f_X8_turned v1 = some r0) : MtI l yX8_turned cX8_turned 2 { frames := 2, cells := 0, slots := 0, locals := 44 } (EC D ca ak av) [.ref (ad 0), .int v1] (wC ad ca fi fl ar) (wC ad ca fi fl ar) r0 := by
  refine MtI.of (own := RX8) (by decide +kernel) rfl (Nat.le_of_ble_eq_true rfl) ?_
  intro p e s m args below meth c A B hr hk w ls hl
  have hx := B.1.1
  have hb := B.1.2.1
  have hown := B.1.2.2.2.1
  have hts := B.1.2.2.2.2
  have hl : lv_has ls 2 [(0, .ref (ad 0)), (1, .int v1)] := hl
  unfold f_X8_turned at hf
  refine (show ∀ (H : Heap) (locs : List Loc), Wd (EC D ca ak av) A s (wC ad ca fi fl ar) H locs → W p l e ({ frames := 2, cells := 0, slots := 0, locals := 44 } : Room) s m args below meth c H locs 0 0 (MQ below (Qi (EC D ca ak av) A (wC ad ca fi fl ar) r0) args s 0 0 A) (F0 m 0 ls []) from ?_) s.heap [] w
  intro H locs w
  refine lv_iload_n hx hb dX8_turned_0 rfl (lv_at hl 1 rfl) ?_
  obtain ⟨r_1, er_2⟩ : ∃ y, f_X8_isRule v1 = y := ⟨_, rfl⟩
  have hf := bindv_eq hf r_1 er_2.symm
  refine callSZ (As := [.int v1]) (rest := []) B w (c_X8_isRule l _ v1 er_2) (gS kt2_215 kt2_216 kt1_1 kt2_217) hdS_X8_isRule rfl rfl ⟨Nat.le_of_ble_eq_true rfl, Nat.le_of_ble_eq_true rfl⟩ rfl hl.1 rfl (Nat.le_of_ble_eq_true rfl) dX8_turned_1 ⟨Nat.le_of_ble_eq_true rfl, Nat.le_of_ble_eq_true rfl⟩ (fun H locs w hzr_1 => ?_)
  refine lv_if_eq (x := r_1) (tgt := 14) hx hb dX8_turned_4 (by decide) (fun c_3 => ?_) (fun c_3 => ?_)
  · have hf := if_t hf c_3
    refine lv_sipush (v := (-1002)) hx hb dX8_turned_14 (by decide) ?_
    have hf : some (-1002) = some r0 := hf
    have q0 := so1 hf
    subst q0
    exact retI B hr hk w dX8_turned_17
  · have hf := if_f hf c_3
    refine lv_iload_n hx hb dX8_turned_7 rfl (lv_at hl 1 rfl) ?_
    obtain ⟨r_4, er_5, hf⟩ := bind1_eq hf
    refine callSI (As := [.int v1]) (rest := []) B w (c_X8_turnedAbout l _ v1 er_5) (gS kt3_165 kt3_166 kt1_1 kt3_167) hdS_X8_turnedAbout rfl rfl ⟨Nat.le_of_ble_eq_true rfl, Nat.le_of_ble_eq_true rfl⟩ rfl hl.1 rfl (Nat.le_of_ble_eq_true rfl) dX8_turned_8 ⟨Nat.le_of_ble_eq_true rfl, Nat.le_of_ble_eq_true rfl⟩ (fun H locs w => ?_)
    refine lv_goto (tgt := 17) hx hb dX8_turned_11 (by decide) ?_
    have hf : some r_4 = some r0 := hf
    have q0 := so1 hf
    subst q0
    exact retI B hr hk w dX8_turned_17
def f_X8_kinds (fi : Nat → Int32) (fl : Nat → Int64) (ar : Nat → Nat → Int32) : Option (Int32 × (Nat → Int32) × (Nat → Int64) × (Nat → Nat → Int32)) := bind3 (f_X4_make fi fl ar) (fun fi_1 fl_2 ar_3 => bind1 (f_X4_countKinds ar_3 (fi_1 0)) (fun r_5 => some (r_5, fi_1, fl_2, ar_3)))
set_option maxHeartbeats 4000000 in
set_option maxRecDepth 100000 in
theorem c_X8_kinds (l : Launch) (D : va_G) (ca : Nat → ClassId) (ak av ad : Nat → Nat) (fi : Nat → Int32) (fl : Nat → Int64) (ar : Nat → Nat → Int32) {r0 : Int32} {fi0 : Nat → Int32} {fl0 : Nat → Int64} {ar0 : Nat → Nat → Int32} (hf : f_X8_kinds fi fl ar = some (r0, fi0, fl0, ar0)) : MtI l yX8_kinds cX8_kinds 1 { frames := 6, cells := 0, slots := 0, locals := 142 } (EC D ca ak av) [.ref (ad 0)] (wC ad ca fi fl ar) (wC ad ca fi0 fl0 ar0) r0 := by
  refine MtI.of (own := RX8) (by decide +kernel) rfl (Nat.le_of_ble_eq_true rfl) ?_
  intro p e s m args below meth c A B hr hk w ls hl
  have hx := B.1.1
  have hb := B.1.2.1
  have hown := B.1.2.2.2.1
  have hts := B.1.2.2.2.2
  have hl : lv_has ls 1 [(0, .ref (ad 0))] := hl
  unfold f_X8_kinds at hf
  refine (show ∀ (H : Heap) (locs : List Loc), Wd (EC D ca ak av) A s (wC ad ca fi fl ar) H locs → W p l e ({ frames := 6, cells := 0, slots := 0, locals := 142 } : Room) s m args below meth c H locs 0 0 (MQ below (Qi (EC D ca ak av) A (wC ad ca fi0 fl0 ar0) r0) args s 0 0 A) (F0 m 0 ls []) from ?_) s.heap [] w
  intro H locs w
  refine lv_aload_n hx hb dX8_kinds_0 rfl (lv_at hl 0 rfl) ?_
  refine gfC_0_6 B w kt2_46 dX8_kinds_1 ?_
  obtain ⟨fi_1, fl_2, ar_3, er_4, hf⟩ := bind3_eq hf
  refine callVV (As := []) (rest := []) B w (c_X4_make l D ca ak av ad fi fl ar  er_4) (gV kt3_103 kt3_104 kt3_105 kt1_8 kt3_106) hdV_X4_make 13 rfl rfl rfl rfl ⟨Nat.le_of_ble_eq_true rfl, Nat.le_of_ble_eq_true rfl⟩ rfl hl.1 rfl (Nat.le_of_ble_eq_true rfl) dX8_kinds_4 ⟨Nat.le_of_ble_eq_true rfl, Nat.le_of_ble_eq_true rfl⟩ (fun H locs w => ?_)
  refine lv_aload_n hx hb dX8_kinds_7 rfl (lv_at hl 0 rfl) ?_
  refine gfC_0_6 B w kt2_46 dX8_kinds_8 ?_
  refine lv_aload_n hx hb dX8_kinds_11 rfl (lv_at hl 0 rfl) ?_
  refine gfC_0_8 B w kt2_48 dX8_kinds_12 ?_
  obtain ⟨r_5, er_6, hf⟩ := bind1_eq hf
  refine callVI (As := [.int (fi_1 0)]) (rest := []) B w (c_X4_countKinds l D ca ak av ad fi_1 fl_2 ar_3 (fi_1 0) er_6) (gV kt3_172 kt3_173 kt3_174 kt1_8 kt3_175) hdV_X4_countKinds 13 rfl rfl rfl rfl ⟨Nat.le_of_ble_eq_true rfl, Nat.le_of_ble_eq_true rfl⟩ rfl hl.1 rfl (Nat.le_of_ble_eq_true rfl) dX8_kinds_15 ⟨Nat.le_of_ble_eq_true rfl, Nat.le_of_ble_eq_true rfl⟩ (fun H locs w => ?_)
  have hf : some (r_5, fi_1, fl_2, ar_3) = some (r0, fi0, fl0, ar0) := hf
  obtain ⟨q0, q1, q2, q3⟩ := so4 hf
  subst q0
  subst q1
  subst q2
  subst q3
  exact retI B hr hk w dX8_kinds_18
def f_X8_view (ar : Nat → Nat → Int32) (v1 : Int32) (v2 : Int32) : Option (Int32) := bindv (f_X5_isPerson v1) (fun r_1 => if (r_1 = 0 : Prop) then (some (-1001)) else (bindv (f_X5_isPerson v2) (fun r_4 => if (r_4 = 0 : Prop) then (some (-1001)) else (bind1 (f_X5_name ar v1 v2) (fun r_7 => some r_7)))))
set_option maxHeartbeats 4000000 in
set_option maxRecDepth 100000 in
theorem c_X8_view (l : Launch) (D : va_G) (ca : Nat → ClassId) (ak av ad : Nat → Nat) (fi : Nat → Int32) (fl : Nat → Int64) (ar : Nat → Nat → Int32) (v1 : Int32) (v2 : Int32) {r0 : Int32} (hf : f_X8_view ar v1 v2 = some r0) : MtI l yX8_view cX8_view 3 { frames := 2, cells := 0, slots := 0, locals := 43 } (EC D ca ak av) [.ref (ad 0), .int v1, .int v2] (wC ad ca fi fl ar) (wC ad ca fi fl ar) r0 := by
  refine MtI.of (own := RX8) (by decide +kernel) rfl (Nat.le_of_ble_eq_true rfl) ?_
  intro p e s m args below meth c A B hr hk w ls hl
  have hx := B.1.1
  have hb := B.1.2.1
  have hown := B.1.2.2.2.1
  have hts := B.1.2.2.2.2
  have hl : lv_has ls 3 [(0, .ref (ad 0)), (1, .int v1), (2, .int v2)] := hl
  unfold f_X8_view at hf
  refine (show ∀ (H : Heap) (locs : List Loc), Wd (EC D ca ak av) A s (wC ad ca fi fl ar) H locs → W p l e ({ frames := 2, cells := 0, slots := 0, locals := 43 } : Room) s m args below meth c H locs 0 0 (MQ below (Qi (EC D ca ak av) A (wC ad ca fi fl ar) r0) args s 0 0 A) (F0 m 0 ls []) from ?_) s.heap [] w
  intro H locs w
  refine lv_iload_n hx hb dX8_view_0 rfl (lv_at hl 1 rfl) ?_
  obtain ⟨r_1, er_2⟩ : ∃ y, f_X5_isPerson v1 = y := ⟨_, rfl⟩
  have hf := bindv_eq hf r_1 er_2.symm
  refine callSZ (As := [.int v1]) (rest := []) B w (c_X5_isPerson l _ v1 er_2) (gS kt3_181 kt3_182 kt1_9 kt3_183) hdS_X5_isPerson rfl rfl ⟨Nat.le_of_ble_eq_true rfl, Nat.le_of_ble_eq_true rfl⟩ rfl hl.1 rfl (Nat.le_of_ble_eq_true rfl) dX8_view_1 ⟨Nat.le_of_ble_eq_true rfl, Nat.le_of_ble_eq_true rfl⟩ (fun H locs w hzr_1 => ?_)
  refine lv_if_eq (x := r_1) (tgt := 14) hx hb dX8_view_4 (by decide) (fun c_3 => ?_) (fun c_3 => ?_)
  · have hf := if_t hf c_3
    refine lv_sipush (v := (-1001)) hx hb dX8_view_14 (by decide) ?_
    have hf : some (-1001) = some r0 := hf
    have q0 := so1 hf
    subst q0
    exact retI B hr hk w dX8_view_17
  · have hf := if_f hf c_3
    refine lv_iload_n hx hb dX8_view_7 rfl (lv_at hl 2 rfl) ?_
    obtain ⟨r_4, er_5⟩ : ∃ y, f_X5_isPerson v2 = y := ⟨_, rfl⟩
    have hf := bindv_eq hf r_4 er_5.symm
    refine callSZ (As := [.int v2]) (rest := []) B w (c_X5_isPerson l _ v2 er_5) (gS kt3_181 kt3_182 kt1_9 kt3_183) hdS_X5_isPerson rfl rfl ⟨Nat.le_of_ble_eq_true rfl, Nat.le_of_ble_eq_true rfl⟩ rfl hl.1 rfl (Nat.le_of_ble_eq_true rfl) dX8_view_8 ⟨Nat.le_of_ble_eq_true rfl, Nat.le_of_ble_eq_true rfl⟩ (fun H locs w hzr_4 => ?_)
    refine lv_if_ne (x := r_4) (tgt := 18) hx hb dX8_view_11 (by decide) (fun c_6 => ?_) (fun c_6 => ?_)
    · have hf := if_f hf c_6
      refine lv_aload_n hx hb dX8_view_18 rfl (lv_at hl 0 rfl) ?_
      refine gfC_0_7 B w kt2_47 dX8_view_19 ?_
      refine lv_iload_n hx hb dX8_view_22 rfl (lv_at hl 1 rfl) ?_
      refine lv_iload_n hx hb dX8_view_23 rfl (lv_at hl 2 rfl) ?_
      obtain ⟨r_7, er_8, hf⟩ := bind1_eq hf
      refine callVI (As := [.int v1, .int v2]) (rest := []) B w (c_X5_name l D ca ak av ad fi fl ar v1 v2 er_8) (gV kt3_185 kt3_186 kt3_187 kt1_9 kt3_188) hdV_X5_name 15 rfl rfl rfl rfl ⟨Nat.le_of_ble_eq_true rfl, Nat.le_of_ble_eq_true rfl⟩ rfl hl.1 rfl (Nat.le_of_ble_eq_true rfl) dX8_view_24 ⟨Nat.le_of_ble_eq_true rfl, Nat.le_of_ble_eq_true rfl⟩ (fun H locs w => ?_)
      have hf : some r_7 = some r0 := hf
      have q0 := so1 hf
      subst q0
      exact retI B hr hk w dX8_view_27
    · have hf := if_t hf c_6
      refine lv_sipush (v := (-1001)) hx hb dX8_view_14 (by decide) ?_
      have hf : some (-1001) = some r0 := hf
      have q0 := so1 hf
      subst q0
      exact retI B hr hk w dX8_view_17
def f_X8_call (ar : Nat → Nat → Int32) (v1 : Int32) (v2 : Int32) (v3 : Int32) : Option (Int32 × (Nat → Nat → Int32)) := bindv (f_X5_isPerson v1) (fun r_1 => if (r_1 = 0 : Prop) then (some ((-1001), ar)) else (bindv (f_X5_isPerson v2) (fun r_4 => if (r_4 = 0 : Prop) then (some ((-1001), ar)) else (bindv (f_X8_within v3 0 1) (fun r_7 => if (r_7 = 0 : Prop) then (some ((-1002), ar)) else (bind1 (f_X5_name ar v1 v2) (fun r_10 => bind1 (f_X5_put ar v1 v2 v3) (fun ar_12 => some (r_10, ar_12)))))))))
set_option maxHeartbeats 4000000 in
set_option maxRecDepth 100000 in
theorem c_X8_call (l : Launch) (D : va_G) (ca : Nat → ClassId) (ak av ad : Nat → Nat) (fi : Nat → Int32) (fl : Nat → Int64) (ar : Nat → Nat → Int32) (v1 : Int32) (v2 : Int32) (v3 : Int32) {r0 : Int32} {ar0 : Nat → Nat → Int32} (hf : f_X8_call ar v1 v2 v3 = some (r0, ar0)) : MtI l yX8_call cX8_call 5 { frames := 2, cells := 0, slots := 0, locals := 43 } (EC D ca ak av) [.ref (ad 0), .int v1, .int v2, .int v3] (wC ad ca fi fl ar) (wC ad ca fi fl ar0) r0 := by
  refine MtI.of (own := RX8) (by decide +kernel) rfl (Nat.le_of_ble_eq_true rfl) ?_
  intro p e s m args below meth c A B hr hk w ls hl
  have hx := B.1.1
  have hb := B.1.2.1
  have hown := B.1.2.2.2.1
  have hts := B.1.2.2.2.2
  have hl : lv_has ls 5 [(0, .ref (ad 0)), (1, .int v1), (2, .int v2), (3, .int v3)] := hl
  unfold f_X8_call at hf
  refine (show ∀ (H : Heap) (locs : List Loc), Wd (EC D ca ak av) A s (wC ad ca fi fl ar) H locs → W p l e ({ frames := 2, cells := 0, slots := 0, locals := 43 } : Room) s m args below meth c H locs 0 0 (MQ below (Qi (EC D ca ak av) A (wC ad ca fi fl ar0) r0) args s 0 0 A) (F0 m 0 ls []) from ?_) s.heap [] w
  intro H locs w
  refine lv_iload_n hx hb dX8_call_0 rfl (lv_at hl 1 rfl) ?_
  obtain ⟨r_1, er_2⟩ : ∃ y, f_X5_isPerson v1 = y := ⟨_, rfl⟩
  have hf := bindv_eq hf r_1 er_2.symm
  refine callSZ (As := [.int v1]) (rest := []) B w (c_X5_isPerson l _ v1 er_2) (gS kt3_181 kt3_182 kt1_9 kt3_183) hdS_X5_isPerson rfl rfl ⟨Nat.le_of_ble_eq_true rfl, Nat.le_of_ble_eq_true rfl⟩ rfl hl.1 rfl (Nat.le_of_ble_eq_true rfl) dX8_call_1 ⟨Nat.le_of_ble_eq_true rfl, Nat.le_of_ble_eq_true rfl⟩ (fun H locs w hzr_1 => ?_)
  refine lv_if_eq (x := r_1) (tgt := 14) hx hb dX8_call_4 (by decide) (fun c_3 => ?_) (fun c_3 => ?_)
  · have hf := if_t hf c_3
    refine lv_sipush (v := (-1001)) hx hb dX8_call_14 (by decide) ?_
    have hf : some ((-1001), ar) = some (r0, ar0) := hf
    obtain ⟨q0, q1⟩ := so2 hf
    subst q0
    subst q1
    exact retI B hr hk w dX8_call_17
  · have hf := if_f hf c_3
    refine lv_iload_n hx hb dX8_call_7 rfl (lv_at hl 2 rfl) ?_
    obtain ⟨r_4, er_5⟩ : ∃ y, f_X5_isPerson v2 = y := ⟨_, rfl⟩
    have hf := bindv_eq hf r_4 er_5.symm
    refine callSZ (As := [.int v2]) (rest := []) B w (c_X5_isPerson l _ v2 er_5) (gS kt3_181 kt3_182 kt1_9 kt3_183) hdS_X5_isPerson rfl rfl ⟨Nat.le_of_ble_eq_true rfl, Nat.le_of_ble_eq_true rfl⟩ rfl hl.1 rfl (Nat.le_of_ble_eq_true rfl) dX8_call_8 ⟨Nat.le_of_ble_eq_true rfl, Nat.le_of_ble_eq_true rfl⟩ (fun H locs w hzr_4 => ?_)
    refine lv_if_ne (x := r_4) (tgt := 18) hx hb dX8_call_11 (by decide) (fun c_6 => ?_) (fun c_6 => ?_)
    · have hf := if_f hf c_6
      refine lv_iload_n hx hb dX8_call_18 rfl (lv_at hl 3 rfl) ?_
      refine lv_iconst (v := 0) hx hb dX8_call_19 (by decide) ?_
      refine lv_iconst (v := 1) hx hb dX8_call_20 (by decide) ?_
      obtain ⟨r_7, er_8⟩ : ∃ y, f_X8_within v3 0 1 = y := ⟨_, rfl⟩
      have hf := bindv_eq hf r_7 er_8.symm
      refine callSZ (As := [.int v3, .int 0, .int 1]) (rest := []) B w (c_X8_within l _ v3 0 1 er_8) (gS kt2_72 kt2_73 kt1_1 kt2_74) hdS_X8_within rfl rfl ⟨Nat.le_of_ble_eq_true rfl, Nat.le_of_ble_eq_true rfl⟩ rfl hl.1 rfl (Nat.le_of_ble_eq_true rfl) dX8_call_21 ⟨Nat.le_of_ble_eq_true rfl, Nat.le_of_ble_eq_true rfl⟩ (fun H locs w hzr_7 => ?_)
      refine lv_if_ne (x := r_7) (tgt := 31) hx hb dX8_call_24 (by decide) (fun c_9 => ?_) (fun c_9 => ?_)
      · have hf := if_f hf c_9
        refine lv_aload_n hx hb dX8_call_31 rfl (lv_at hl 0 rfl) ?_
        refine gfC_0_7 B w kt2_47 dX8_call_32 ?_
        refine lv_iload_n hx hb dX8_call_35 rfl (lv_at hl 1 rfl) ?_
        refine lv_iload_n hx hb dX8_call_36 rfl (lv_at hl 2 rfl) ?_
        obtain ⟨r_10, er_11, hf⟩ := bind1_eq hf
        refine callVI (As := [.int v1, .int v2]) (rest := []) B w (c_X5_name l D ca ak av ad fi fl ar v1 v2 er_11) (gV kt3_185 kt3_186 kt3_187 kt1_9 kt3_188) hdV_X5_name 15 rfl rfl rfl rfl ⟨Nat.le_of_ble_eq_true rfl, Nat.le_of_ble_eq_true rfl⟩ rfl hl.1 rfl (Nat.le_of_ble_eq_true rfl) dX8_call_37 ⟨Nat.le_of_ble_eq_true rfl, Nat.le_of_ble_eq_true rfl⟩ (fun H locs w => ?_)
        refine lv_istore (lv' := [(4, .int r_10), (0, .ref (ad 0)), (1, .int v1), (2, .int v2), (3, .int v3)]) hx hb dX8_call_40 hl (by decide) rfl (fun ls hl => ?_)
        refine lv_aload_n hx hb dX8_call_42 rfl (lv_at hl 1 rfl) ?_
        refine gfC_0_7 B w kt2_47 dX8_call_43 ?_
        refine lv_iload_n hx hb dX8_call_46 rfl (lv_at hl 2 rfl) ?_
        refine lv_iload_n hx hb dX8_call_47 rfl (lv_at hl 3 rfl) ?_
        refine lv_iload_n hx hb dX8_call_48 rfl (lv_at hl 4 rfl) ?_
        obtain ⟨ar_12, er_13, hf⟩ := bind1_eq hf
        refine callVV (As := [.int v1, .int v2, .int v3]) (rest := []) B w (c_X5_put l D ca ak av ad fi fl ar v1 v2 v3 er_13) (gV kt3_194 kt3_195 kt3_196 kt1_9 kt3_197) hdV_X5_put 15 rfl rfl rfl rfl ⟨Nat.le_of_ble_eq_true rfl, Nat.le_of_ble_eq_true rfl⟩ rfl hl.1 rfl (Nat.le_of_ble_eq_true rfl) dX8_call_49 ⟨Nat.le_of_ble_eq_true rfl, Nat.le_of_ble_eq_true rfl⟩ (fun H locs w => ?_)
        refine lv_iload hx hb dX8_call_52 (lv_at hl 0 rfl) ?_
        have hf : some (r_10, ar_12) = some (r0, ar0) := hf
        obtain ⟨q0, q1⟩ := so2 hf
        subst q0
        subst q1
        exact retI B hr hk w dX8_call_54
      · have hf := if_t hf c_9
        refine lv_sipush (v := (-1002)) hx hb dX8_call_27 (by decide) ?_
        have hf : some ((-1002), ar) = some (r0, ar0) := hf
        obtain ⟨q0, q1⟩ := so2 hf
        subst q0
        subst q1
        exact retI B hr hk w dX8_call_30
    · have hf := if_t hf c_6
      refine lv_sipush (v := (-1001)) hx hb dX8_call_14 (by decide) ?_
      have hf : some ((-1001), ar) = some (r0, ar0) := hf
      obtain ⟨q0, q1⟩ := so2 hf
      subst q0
      subst q1
      exact retI B hr hk w dX8_call_17
def f_X8_meet (fi : Nat → Int32) (ar : Nat → Nat → Int32) (v1 : Int32) (v2 : Int32) (v3 : Int32) : Option (Int32 × (Nat → Nat → Int32)) := bindv (f_X5_arePair v1 v2) (fun r_1 => if (r_1 = 0 : Prop) then (some ((-1001), ar)) else (bindv (f_X5_isSet v3) (fun r_4 => if (r_4 = 0 : Prop) then (some ((-1001), ar)) else (bind2 (f_X5_meeting fi ar v1 v2 v3) (fun r_7 ar_8 => some (r_7, ar_8))))))
set_option maxHeartbeats 4000000 in
set_option maxRecDepth 100000 in
theorem c_X8_meet (l : Launch) (D : va_G) (ca : Nat → ClassId) (ak av ad : Nat → Nat) (fi : Nat → Int32) (fl : Nat → Int64) (ar : Nat → Nat → Int32) (v1 : Int32) (v2 : Int32) (v3 : Int32) {r0 : Int32} {ar0 : Nat → Nat → Int32} (hf : f_X8_meet fi ar v1 v2 v3 = some (r0, ar0)) : MtI l yX8_meet cX8_meet 4 { frames := 3, cells := 0, slots := 0, locals := 70 } (EC D ca ak av) [.ref (ad 0), .int v1, .int v2, .int v3] (wC ad ca fi fl ar) (wC ad ca fi fl ar0) r0 := by
  refine MtI.of (own := RX8) (by decide +kernel) rfl (Nat.le_of_ble_eq_true rfl) ?_
  intro p e s m args below meth c A B hr hk w ls hl
  have hx := B.1.1
  have hb := B.1.2.1
  have hown := B.1.2.2.2.1
  have hts := B.1.2.2.2.2
  have hl : lv_has ls 4 [(0, .ref (ad 0)), (1, .int v1), (2, .int v2), (3, .int v3)] := hl
  unfold f_X8_meet at hf
  refine (show ∀ (H : Heap) (locs : List Loc), Wd (EC D ca ak av) A s (wC ad ca fi fl ar) H locs → W p l e ({ frames := 3, cells := 0, slots := 0, locals := 70 } : Room) s m args below meth c H locs 0 0 (MQ below (Qi (EC D ca ak av) A (wC ad ca fi fl ar0) r0) args s 0 0 A) (F0 m 0 ls []) from ?_) s.heap [] w
  intro H locs w
  refine lv_iload_n hx hb dX8_meet_0 rfl (lv_at hl 1 rfl) ?_
  refine lv_iload_n hx hb dX8_meet_1 rfl (lv_at hl 2 rfl) ?_
  obtain ⟨r_1, er_2⟩ : ∃ y, f_X5_arePair v1 v2 = y := ⟨_, rfl⟩
  have hf := bindv_eq hf r_1 er_2.symm
  refine callSZ (As := [.int v1, .int v2]) (rest := []) B w (c_X5_arePair l _ v1 v2 er_2) (gS kt3_202 kt3_203 kt1_9 kt3_204) hdS_X5_arePair rfl rfl ⟨Nat.le_of_ble_eq_true rfl, Nat.le_of_ble_eq_true rfl⟩ rfl hl.1 rfl (Nat.le_of_ble_eq_true rfl) dX8_meet_2 ⟨Nat.le_of_ble_eq_true rfl, Nat.le_of_ble_eq_true rfl⟩ (fun H locs w hzr_1 => ?_)
  refine lv_if_eq (x := r_1) (tgt := 15) hx hb dX8_meet_5 (by decide) (fun c_3 => ?_) (fun c_3 => ?_)
  · have hf := if_t hf c_3
    refine lv_sipush (v := (-1001)) hx hb dX8_meet_15 (by decide) ?_
    have hf : some ((-1001), ar) = some (r0, ar0) := hf
    obtain ⟨q0, q1⟩ := so2 hf
    subst q0
    subst q1
    exact retI B hr hk w dX8_meet_18
  · have hf := if_f hf c_3
    refine lv_iload_n hx hb dX8_meet_8 rfl (lv_at hl 3 rfl) ?_
    obtain ⟨r_4, er_5⟩ : ∃ y, f_X5_isSet v3 = y := ⟨_, rfl⟩
    have hf := bindv_eq hf r_4 er_5.symm
    refine callSZ (As := [.int v3]) (rest := []) B w (c_X5_isSet l _ v3 er_5) (gS kt3_206 kt3_207 kt1_9 kt3_208) hdS_X5_isSet rfl rfl ⟨Nat.le_of_ble_eq_true rfl, Nat.le_of_ble_eq_true rfl⟩ rfl hl.1 rfl (Nat.le_of_ble_eq_true rfl) dX8_meet_9 ⟨Nat.le_of_ble_eq_true rfl, Nat.le_of_ble_eq_true rfl⟩ (fun H locs w hzr_4 => ?_)
    refine lv_if_ne (x := r_4) (tgt := 19) hx hb dX8_meet_12 (by decide) (fun c_6 => ?_) (fun c_6 => ?_)
    · have hf := if_f hf c_6
      refine lv_aload_n hx hb dX8_meet_19 rfl (lv_at hl 0 rfl) ?_
      refine gfC_0_7 B w kt2_47 dX8_meet_20 ?_
      refine lv_iload_n hx hb dX8_meet_23 rfl (lv_at hl 1 rfl) ?_
      refine lv_iload_n hx hb dX8_meet_24 rfl (lv_at hl 2 rfl) ?_
      refine lv_iload_n hx hb dX8_meet_25 rfl (lv_at hl 3 rfl) ?_
      refine lv_aload_n hx hb dX8_meet_26 rfl (lv_at hl 0 rfl) ?_
      refine gfC_0_0 B w kt2_40 dX8_meet_27 ?_
      obtain ⟨r_7, ar_8, er_9, hf⟩ := bind2_eq hf
      refine callVI (As := [.int v1, .int v2, .int v3, .ref (ad 1)]) (rest := []) B w (c_X5_meeting l D ca ak av ad fi fl ar v1 v2 v3 er_9) (gV kt3_209 kt3_210 kt3_211 kt1_9 kt3_212) hdV_X5_meeting 15 rfl rfl rfl rfl ⟨Nat.le_of_ble_eq_true rfl, Nat.le_of_ble_eq_true rfl⟩ rfl hl.1 rfl (Nat.le_of_ble_eq_true rfl) dX8_meet_30 ⟨Nat.le_of_ble_eq_true rfl, Nat.le_of_ble_eq_true rfl⟩ (fun H locs w => ?_)
      have hf : some (r_7, ar_8) = some (r0, ar0) := hf
      obtain ⟨q0, q1⟩ := so2 hf
      subst q0
      subst q1
      exact retI B hr hk w dX8_meet_33
    · have hf := if_t hf c_6
      refine lv_sipush (v := (-1001)) hx hb dX8_meet_15 (by decide) ?_
      have hf : some ((-1001), ar) = some (r0, ar0) := hf
      obtain ⟨q0, q1⟩ := so2 hf
      subst q0
      subst q1
      exact retI B hr hk w dX8_meet_18
def f_X8_kin (ar : Nat → Nat → Int32) (v1 : Int32) (v2 : Int32) : Option (Int32 × (Nat → Nat → Int32)) := bindv (f_X5_isPerson v1) (fun r_1 => if (r_1 = 0 : Prop) then (some ((-1001), ar)) else (bindv (f_X5_isSet v2) (fun r_4 => if (r_4 = 0 : Prop) then (some ((-1001), ar)) else (bindv (f_X8_bit v2 v1) (fun r_7 => if (r_7 = 1 : Prop) then (some ((-1001), ar)) else (bind2 (f_X5_setKin ar v1 v2) (fun r_10 ar_11 => some (r_10, ar_11))))))))
set_option maxHeartbeats 4000000 in
set_option maxRecDepth 100000 in
theorem c_X8_kin (l : Launch) (D : va_G) (ca : Nat → ClassId) (ak av ad : Nat → Nat) (fi : Nat → Int32) (fl : Nat → Int64) (ar : Nat → Nat → Int32) (v1 : Int32) (v2 : Int32) {r0 : Int32} {ar0 : Nat → Nat → Int32} (hf : f_X8_kin ar v1 v2 = some (r0, ar0)) : MtI l yX8_kin cX8_kin 3 { frames := 2, cells := 0, slots := 0, locals := 42 } (EC D ca ak av) [.ref (ad 0), .int v1, .int v2] (wC ad ca fi fl ar) (wC ad ca fi fl ar0) r0 := by
  refine MtI.of (own := RX8) (by decide +kernel) rfl (Nat.le_of_ble_eq_true rfl) ?_
  intro p e s m args below meth c A B hr hk w ls hl
  have hx := B.1.1
  have hb := B.1.2.1
  have hown := B.1.2.2.2.1
  have hts := B.1.2.2.2.2
  have hl : lv_has ls 3 [(0, .ref (ad 0)), (1, .int v1), (2, .int v2)] := hl
  unfold f_X8_kin at hf
  refine (show ∀ (H : Heap) (locs : List Loc), Wd (EC D ca ak av) A s (wC ad ca fi fl ar) H locs → W p l e ({ frames := 2, cells := 0, slots := 0, locals := 42 } : Room) s m args below meth c H locs 0 0 (MQ below (Qi (EC D ca ak av) A (wC ad ca fi fl ar0) r0) args s 0 0 A) (F0 m 0 ls []) from ?_) s.heap [] w
  intro H locs w
  refine lv_iload_n hx hb dX8_kin_0 rfl (lv_at hl 1 rfl) ?_
  obtain ⟨r_1, er_2⟩ : ∃ y, f_X5_isPerson v1 = y := ⟨_, rfl⟩
  have hf := bindv_eq hf r_1 er_2.symm
  refine callSZ (As := [.int v1]) (rest := []) B w (c_X5_isPerson l _ v1 er_2) (gS kt3_181 kt3_182 kt1_9 kt3_183) hdS_X5_isPerson rfl rfl ⟨Nat.le_of_ble_eq_true rfl, Nat.le_of_ble_eq_true rfl⟩ rfl hl.1 rfl (Nat.le_of_ble_eq_true rfl) dX8_kin_1 ⟨Nat.le_of_ble_eq_true rfl, Nat.le_of_ble_eq_true rfl⟩ (fun H locs w hzr_1 => ?_)
  refine lv_if_eq (x := r_1) (tgt := 23) hx hb dX8_kin_4 (by decide) (fun c_3 => ?_) (fun c_3 => ?_)
  · have hf := if_t hf c_3
    refine lv_sipush (v := (-1001)) hx hb dX8_kin_23 (by decide) ?_
    have hf : some ((-1001), ar) = some (r0, ar0) := hf
    obtain ⟨q0, q1⟩ := so2 hf
    subst q0
    subst q1
    exact retI B hr hk w dX8_kin_26
  · have hf := if_f hf c_3
    refine lv_iload_n hx hb dX8_kin_7 rfl (lv_at hl 2 rfl) ?_
    obtain ⟨r_4, er_5⟩ : ∃ y, f_X5_isSet v2 = y := ⟨_, rfl⟩
    have hf := bindv_eq hf r_4 er_5.symm
    refine callSZ (As := [.int v2]) (rest := []) B w (c_X5_isSet l _ v2 er_5) (gS kt3_206 kt3_207 kt1_9 kt3_208) hdS_X5_isSet rfl rfl ⟨Nat.le_of_ble_eq_true rfl, Nat.le_of_ble_eq_true rfl⟩ rfl hl.1 rfl (Nat.le_of_ble_eq_true rfl) dX8_kin_8 ⟨Nat.le_of_ble_eq_true rfl, Nat.le_of_ble_eq_true rfl⟩ (fun H locs w hzr_4 => ?_)
    refine lv_if_eq (x := r_4) (tgt := 23) hx hb dX8_kin_11 (by decide) (fun c_6 => ?_) (fun c_6 => ?_)
    · have hf := if_t hf c_6
      refine lv_sipush (v := (-1001)) hx hb dX8_kin_23 (by decide) ?_
      have hf : some ((-1001), ar) = some (r0, ar0) := hf
      obtain ⟨q0, q1⟩ := so2 hf
      subst q0
      subst q1
      exact retI B hr hk w dX8_kin_26
    · have hf := if_f hf c_6
      refine lv_iload_n hx hb dX8_kin_14 rfl (lv_at hl 2 rfl) ?_
      refine lv_iload_n hx hb dX8_kin_15 rfl (lv_at hl 1 rfl) ?_
      obtain ⟨r_7, er_8⟩ : ∃ y, f_X8_bit v2 v1 = y := ⟨_, rfl⟩
      have hf := bindv_eq hf r_7 er_8.symm
      refine callSI (As := [.int v2, .int v1]) (rest := []) B w (c_X8_bit l _ v2 v1 er_8) (gS kt2_221 kt2_165 kt1_1 kt2_166) hdS_X8_bit rfl rfl ⟨Nat.le_of_ble_eq_true rfl, Nat.le_of_ble_eq_true rfl⟩ rfl hl.1 rfl (Nat.le_of_ble_eq_true rfl) dX8_kin_16 ⟨Nat.le_of_ble_eq_true rfl, Nat.le_of_ble_eq_true rfl⟩ (fun H locs w => ?_)
      refine lv_iconst (v := 1) hx hb dX8_kin_19 (by decide) ?_
      refine lv_icmp_ne (x := r_7) (y := 1) (tgt := 27) hx hb dX8_kin_20 (by decide) (fun c_9 => ?_) (fun c_9 => ?_)
      · have hf := if_f hf c_9
        refine lv_aload_n hx hb dX8_kin_27 rfl (lv_at hl 0 rfl) ?_
        refine gfC_0_7 B w kt2_47 dX8_kin_28 ?_
        refine lv_iload_n hx hb dX8_kin_31 rfl (lv_at hl 1 rfl) ?_
        refine lv_iload_n hx hb dX8_kin_32 rfl (lv_at hl 2 rfl) ?_
        obtain ⟨r_10, ar_11, er_12, hf⟩ := bind2_eq hf
        refine callVI (As := [.int v1, .int v2]) (rest := []) B w (c_X5_setKin l D ca ak av ad fi fl ar v1 v2 er_12) (gV kt3_219 kt3_220 kt3_221 kt1_9 kt3_222) hdV_X5_setKin 15 rfl rfl rfl rfl ⟨Nat.le_of_ble_eq_true rfl, Nat.le_of_ble_eq_true rfl⟩ rfl hl.1 rfl (Nat.le_of_ble_eq_true rfl) dX8_kin_33 ⟨Nat.le_of_ble_eq_true rfl, Nat.le_of_ble_eq_true rfl⟩ (fun H locs w => ?_)
        have hf : some (r_10, ar_11) = some (r0, ar0) := hf
        obtain ⟨q0, q1⟩ := so2 hf
        subst q0
        subst q1
        exact retI B hr hk w dX8_kin_36
      · have hf := if_t hf c_9
        refine lv_sipush (v := (-1001)) hx hb dX8_kin_23 (by decide) ?_
        have hf : some ((-1001), ar) = some (r0, ar0) := hf
        obtain ⟨q0, q1⟩ := so2 hf
        subst q0
        subst q1
        exact retI B hr hk w dX8_kin_26
def f_X8_talk (ar : Nat → Nat → Int32) (v1 : Int32) (v2 : Int32) : Option (Int32 × (Nat → Nat → Int32)) := bindv (f_X5_arePair v1 v2) (fun r_1 => if (r_1 = 0 : Prop) then (some ((-1001), ar)) else (bind2 (f_X5_tell ar v1 v2) (fun r_4 ar_5 => some (r_4, ar_5))))
set_option maxHeartbeats 4000000 in
set_option maxRecDepth 100000 in
theorem c_X8_talk (l : Launch) (D : va_G) (ca : Nat → ClassId) (ak av ad : Nat → Nat) (fi : Nat → Int32) (fl : Nat → Int64) (ar : Nat → Nat → Int32) (v1 : Int32) (v2 : Int32) {r0 : Int32} {ar0 : Nat → Nat → Int32} (hf : f_X8_talk ar v1 v2 = some (r0, ar0)) : MtI l yX8_talk cX8_talk 3 { frames := 3, cells := 0, slots := 0, locals := 63 } (EC D ca ak av) [.ref (ad 0), .int v1, .int v2] (wC ad ca fi fl ar) (wC ad ca fi fl ar0) r0 := by
  refine MtI.of (own := RX8) (by decide +kernel) rfl (Nat.le_of_ble_eq_true rfl) ?_
  intro p e s m args below meth c A B hr hk w ls hl
  have hx := B.1.1
  have hb := B.1.2.1
  have hown := B.1.2.2.2.1
  have hts := B.1.2.2.2.2
  have hl : lv_has ls 3 [(0, .ref (ad 0)), (1, .int v1), (2, .int v2)] := hl
  unfold f_X8_talk at hf
  refine (show ∀ (H : Heap) (locs : List Loc), Wd (EC D ca ak av) A s (wC ad ca fi fl ar) H locs → W p l e ({ frames := 3, cells := 0, slots := 0, locals := 63 } : Room) s m args below meth c H locs 0 0 (MQ below (Qi (EC D ca ak av) A (wC ad ca fi fl ar0) r0) args s 0 0 A) (F0 m 0 ls []) from ?_) s.heap [] w
  intro H locs w
  refine lv_iload_n hx hb dX8_talk_0 rfl (lv_at hl 1 rfl) ?_
  refine lv_iload_n hx hb dX8_talk_1 rfl (lv_at hl 2 rfl) ?_
  obtain ⟨r_1, er_2⟩ : ∃ y, f_X5_arePair v1 v2 = y := ⟨_, rfl⟩
  have hf := bindv_eq hf r_1 er_2.symm
  refine callSZ (As := [.int v1, .int v2]) (rest := []) B w (c_X5_arePair l _ v1 v2 er_2) (gS kt3_202 kt3_203 kt1_9 kt3_204) hdS_X5_arePair rfl rfl ⟨Nat.le_of_ble_eq_true rfl, Nat.le_of_ble_eq_true rfl⟩ rfl hl.1 rfl (Nat.le_of_ble_eq_true rfl) dX8_talk_2 ⟨Nat.le_of_ble_eq_true rfl, Nat.le_of_ble_eq_true rfl⟩ (fun H locs w hzr_1 => ?_)
  refine lv_if_ne (x := r_1) (tgt := 12) hx hb dX8_talk_5 (by decide) (fun c_3 => ?_) (fun c_3 => ?_)
  · have hf := if_f hf c_3
    refine lv_aload_n hx hb dX8_talk_12 rfl (lv_at hl 0 rfl) ?_
    refine gfC_0_7 B w kt2_47 dX8_talk_13 ?_
    refine lv_iload_n hx hb dX8_talk_16 rfl (lv_at hl 1 rfl) ?_
    refine lv_iload_n hx hb dX8_talk_17 rfl (lv_at hl 2 rfl) ?_
    obtain ⟨r_4, ar_5, er_6, hf⟩ := bind2_eq hf
    refine callVI (As := [.int v1, .int v2]) (rest := []) B w (c_X5_tell l D ca ak av ad fi fl ar v1 v2 er_6) (gV kt3_227 kt3_228 kt3_229 kt1_9 kt3_230) hdV_X5_tell 15 rfl rfl rfl rfl ⟨Nat.le_of_ble_eq_true rfl, Nat.le_of_ble_eq_true rfl⟩ rfl hl.1 rfl (Nat.le_of_ble_eq_true rfl) dX8_talk_18 ⟨Nat.le_of_ble_eq_true rfl, Nat.le_of_ble_eq_true rfl⟩ (fun H locs w => ?_)
    have hf : some (r_4, ar_5) = some (r0, ar0) := hf
    obtain ⟨q0, q1⟩ := so2 hf
    subst q0
    subst q1
    exact retI B hr hk w dX8_talk_21
  · have hf := if_t hf c_3
    refine lv_sipush (v := (-1001)) hx hb dX8_talk_8 (by decide) ?_
    have hf : some ((-1001), ar) = some (r0, ar0) := hf
    obtain ⟨q0, q1⟩ := so2 hf
    subst q0
    subst q1
    exact retI B hr hk w dX8_talk_11
def f_X8_agreed (ar : Nat → Nat → Int32) (v1 : Int32) : Option (Int32) := if (v1 = 0 : Prop) then (bind1 (f_X5_pairsAlike ar) (fun r_2 => some r_2)) else (if (v1 = 1 : Prop) then (bind1 (f_X5_calledAlike ar) (fun r_5 => some r_5)) else (if (v1 = 2 : Prop) then (bind1 (f_X5_calledGood ar) (fun r_8 => some r_8)) else (some (-1002))))
set_option maxHeartbeats 4000000 in
set_option maxRecDepth 100000 in
theorem c_X8_agreed (l : Launch) (D : va_G) (ca : Nat → ClassId) (ak av ad : Nat → Nat) (fi : Nat → Int32) (fl : Nat → Int64) (ar : Nat → Nat → Int32) (v1 : Int32) {r0 : Int32} (hf : f_X8_agreed ar v1 = some r0) : MtI l yX8_agreed cX8_agreed 2 { frames := 4, cells := 0, slots := 0, locals := 90 } (EC D ca ak av) [.ref (ad 0), .int v1] (wC ad ca fi fl ar) (wC ad ca fi fl ar) r0 := by
  refine MtI.of (own := RX8) (by decide +kernel) rfl (Nat.le_of_ble_eq_true rfl) ?_
  intro p e s m args below meth c A B hr hk w ls hl
  have hx := B.1.1
  have hb := B.1.2.1
  have hown := B.1.2.2.2.1
  have hts := B.1.2.2.2.2
  have hl : lv_has ls 2 [(0, .ref (ad 0)), (1, .int v1)] := hl
  unfold f_X8_agreed at hf
  refine (show ∀ (H : Heap) (locs : List Loc), Wd (EC D ca ak av) A s (wC ad ca fi fl ar) H locs → W p l e ({ frames := 4, cells := 0, slots := 0, locals := 90 } : Room) s m args below meth c H locs 0 0 (MQ below (Qi (EC D ca ak av) A (wC ad ca fi fl ar) r0) args s 0 0 A) (F0 m 0 ls []) from ?_) s.heap [] w
  intro H locs w
  refine lv_iload_n hx hb dX8_agreed_0 rfl (lv_at hl 1 rfl) ?_
  by_cases c_1 : v1 = 0
  · have hf := if_t hf c_1
    refine lv_tableIn (tgt := 28) (off := 27) hx hb dX8_agreed_1 (by rw [c_1]; decide) (by rw [c_1]; decide) (by rw [c_1]; decide) (by decide) ?_
    refine lv_aload_n hx hb dX8_agreed_28 rfl (lv_at hl 0 rfl) ?_
    refine gfC_0_7 B w kt2_47 dX8_agreed_29 ?_
    obtain ⟨r_2, er_3, hf⟩ := bind1_eq hf
    refine callVI (As := []) (rest := []) B w (c_X5_pairsAlike l D ca ak av ad fi fl ar  er_3) (gV kt3_235 kt3_236 kt3_237 kt1_9 kt3_238) hdV_X5_pairsAlike 15 rfl rfl rfl rfl ⟨Nat.le_of_ble_eq_true rfl, Nat.le_of_ble_eq_true rfl⟩ rfl hl.1 rfl (Nat.le_of_ble_eq_true rfl) dX8_agreed_32 ⟨Nat.le_of_ble_eq_true rfl, Nat.le_of_ble_eq_true rfl⟩ (fun H locs w => ?_)
    have hf : some r_2 = some r0 := hf
    have q0 := so1 hf
    subst q0
    exact retI B hr hk w dX8_agreed_35
  · have hf := if_f hf c_1
    by_cases c_4 : v1 = 1
    · have hf := if_t hf c_4
      refine lv_tableIn (tgt := 36) (off := 35) hx hb dX8_agreed_1 (by rw [c_4]; decide) (by rw [c_4]; decide) (by rw [c_4]; decide) (by decide) ?_
      refine lv_aload_n hx hb dX8_agreed_36 rfl (lv_at hl 0 rfl) ?_
      refine gfC_0_7 B w kt2_47 dX8_agreed_37 ?_
      obtain ⟨r_5, er_6, hf⟩ := bind1_eq hf
      refine callVI (As := []) (rest := []) B w (c_X5_calledAlike l D ca ak av ad fi fl ar  er_6) (gV kt4_3 kt4_4 kt4_5 kt1_9 kt4_6) hdV_X5_calledAlike 15 rfl rfl rfl rfl ⟨Nat.le_of_ble_eq_true rfl, Nat.le_of_ble_eq_true rfl⟩ rfl hl.1 rfl (Nat.le_of_ble_eq_true rfl) dX8_agreed_40 ⟨Nat.le_of_ble_eq_true rfl, Nat.le_of_ble_eq_true rfl⟩ (fun H locs w => ?_)
      have hf : some r_5 = some r0 := hf
      have q0 := so1 hf
      subst q0
      exact retI B hr hk w dX8_agreed_43
    · have hf := if_f hf c_4
      by_cases c_7 : v1 = 2
      · have hf := if_t hf c_7
        refine lv_tableIn (tgt := 44) (off := 43) hx hb dX8_agreed_1 (by rw [c_7]; decide) (by rw [c_7]; decide) (by rw [c_7]; decide) (by decide) ?_
        refine lv_aload_n hx hb dX8_agreed_44 rfl (lv_at hl 0 rfl) ?_
        refine gfC_0_7 B w kt2_47 dX8_agreed_45 ?_
        obtain ⟨r_8, er_9, hf⟩ := bind1_eq hf
        refine callVI (As := []) (rest := []) B w (c_X5_calledGood l D ca ak av ad fi fl ar  er_9) (gV kt4_7 kt4_8 kt4_9 kt1_9 kt4_10) hdV_X5_calledGood 15 rfl rfl rfl rfl ⟨Nat.le_of_ble_eq_true rfl, Nat.le_of_ble_eq_true rfl⟩ rfl hl.1 rfl (Nat.le_of_ble_eq_true rfl) dX8_agreed_48 ⟨Nat.le_of_ble_eq_true rfl, Nat.le_of_ble_eq_true rfl⟩ (fun H locs w => ?_)
        have hf : some r_8 = some r0 := hf
        have q0 := so1 hf
        subst q0
        exact retI B hr hk w dX8_agreed_51
      · have hf := if_f hf c_7
        have tc_1 := lv_neT c_1 (show (0 : Int32).toInt = 0 by decide)
        have tc_4 := lv_neT c_4 (show (1 : Int32).toInt = 1 by decide)
        have tc_7 := lv_neT c_7 (show (2 : Int32).toInt = 2 by decide)
        refine lv_tableOut (tgt := 52) hx hb dX8_agreed_1 (by omega) (by decide) ?_
        refine lv_sipush (v := (-1002)) hx hb dX8_agreed_52 (by decide) ?_
        have hf : some (-1002) = some r0 := hf
        have q0 := so1 hf
        subst q0
        exact retI B hr hk w dX8_agreed_55
def f_X8_forget (ar : Nat → Nat → Int32) : Option (Int32 × (Nat → Nat → Int32)) := bind2 (f_X5_clear ar) (fun r_1 ar_2 => some (r_1, ar_2))
set_option maxHeartbeats 4000000 in
set_option maxRecDepth 100000 in
theorem c_X8_forget (l : Launch) (D : va_G) (ca : Nat → ClassId) (ak av ad : Nat → Nat) (fi : Nat → Int32) (fl : Nat → Int64) (ar : Nat → Nat → Int32) {r0 : Int32} {ar0 : Nat → Nat → Int32} (hf : f_X8_forget ar = some (r0, ar0)) : MtI l yX8_forget cX8_forget 1 { frames := 2, cells := 0, slots := 0, locals := 42 } (EC D ca ak av) [.ref (ad 0)] (wC ad ca fi fl ar) (wC ad ca fi fl ar0) r0 := by
  refine MtI.of (own := RX8) (by decide +kernel) rfl (Nat.le_of_ble_eq_true rfl) ?_
  intro p e s m args below meth c A B hr hk w ls hl
  have hx := B.1.1
  have hb := B.1.2.1
  have hown := B.1.2.2.2.1
  have hts := B.1.2.2.2.2
  have hl : lv_has ls 1 [(0, .ref (ad 0))] := hl
  unfold f_X8_forget at hf
  refine (show ∀ (H : Heap) (locs : List Loc), Wd (EC D ca ak av) A s (wC ad ca fi fl ar) H locs → W p l e ({ frames := 2, cells := 0, slots := 0, locals := 42 } : Room) s m args below meth c H locs 0 0 (MQ below (Qi (EC D ca ak av) A (wC ad ca fi fl ar0) r0) args s 0 0 A) (F0 m 0 ls []) from ?_) s.heap [] w
  intro H locs w
  refine lv_aload_n hx hb dX8_forget_0 rfl (lv_at hl 0 rfl) ?_
  refine gfC_0_7 B w kt2_47 dX8_forget_1 ?_
  obtain ⟨r_1, ar_2, er_3, hf⟩ := bind2_eq hf
  refine callVI (As := []) (rest := []) B w (c_X5_clear l D ca ak av ad fi fl ar  er_3) (gV kt4_15 kt2_24 kt2_25 kt1_9 kt2_26) hdV_X5_clear 15 rfl rfl rfl rfl ⟨Nat.le_of_ble_eq_true rfl, Nat.le_of_ble_eq_true rfl⟩ rfl hl.1 rfl (Nat.le_of_ble_eq_true rfl) dX8_forget_4 ⟨Nat.le_of_ble_eq_true rfl, Nat.le_of_ble_eq_true rfl⟩ (fun H locs w => ?_)
  have hf : some (r_1, ar_2) = some (r0, ar0) := hf
  obtain ⟨q0, q1⟩ := so2 hf
  subst q0
  subst q1
  exact retI B hr hk w dX8_forget_7
