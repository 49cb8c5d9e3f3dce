theorem law_gt {i L : Nat} {x3 : Int32} (ex3 : x3 = nI i) (h : L < i + 5) (hi : i ≤ 4000) (hL : L ≤ 2560) : Int32.ofNat L - 5 < x3 := by
  have e1 : (Int32.ofNat L - 5 : Int32).toInt = (L : Int) - 5 := pk_sub_toInt (a := L) (b := 5) (by omega) (by omega)
  have e2 : (nI i).toInt = (i : Int) := nI_toInt (by omega)
  rw [ex3, Int32.lt_iff_toInt_lt, e1, e2]
  omega
set_option maxHeartbeats 4000000 in
set_option maxRecDepth 100000 in
theorem law_0 {p : Program} {l : Launch} {e : Env} {s : State} {m : MethodId} {below : List Frame} {meth : Method} {c : Code} {D : va_G} {ca cb : Nat → ClassId} {ak av ad bd : Nat → Nat} {b L : Nat} {xs : Nat → Int32} (hL : L ≤ 2560) (C0 : lw_At p s m meth c b L xs) (B : LB p m c s #[Value.ref b] D ca cb ak av (fun q : Nat => s.heap.size ≤ q)) {i : Nat} {x3 : Int32} (ex3 : x3 = nI i) (hi : i + 5 ≤ L) (ih : ∀ (fi : Nat → Int32) (fl : Nat → Int64) (ar : Nat → Nat → Int32) (gi : Nat → Int32) (gl : Nat → Int64) (br : Nat → Nat → Int32) (H : Heap) (locs : List Loc) (ls : Array Slot), Rel fi fl ar gi gl br → LW D (fun q : Nat => s.heap.size ≤ q) s (wC ad ca fi fl ar ++ wM bd cb gi gl br) H locs → lv_has ls 4 [(0, .ref b), (1, .ref (ad 0)), (2, .ref (bd 0)), (3, .int x3)] → W p l e room_1 s m #[Value.ref b] below meth c H locs 25 7506 (lw_Z below #[Value.ref b] s) (F0 m 951 ls [])) {fi : Nat → Int32} {fl : Nat → Int64} {ar : Nat → Nat → Int32} {gi : Nat → Int32} {gl : Nat → Int64} {br : Nat → Nat → Int32} {H : Heap} {locs : List Loc} {ls : Array Slot} (hRel : Rel fi fl ar gi gl br) (w : LW D (fun q : Nat => s.heap.size ≤ q) s (wC ad ca fi fl ar ++ wM bd cb gi gl br) H locs) (hl : lv_has ls 4 [(0, .ref b), (1, .ref (ad 0)), (2, .ref (bd 0)), (3, .int x3)]) : W p l e room_1 s m #[Value.ref b] below meth c H locs 25 7506 (lw_Z below #[Value.ref b] s) (F0 m 152 ls []) := by
  obtain ⟨hx, hb, hr, hml, hown, hts0, hX, hbl, hlocks, hgv⟩ := C0
  have hts := B.1.2.2.2.2
  have hbA : ¬ (fun q : Nat => s.heap.size ≤ q) b := Nat.not_le.mpr hbl
  have hin1 : vp_in (x3 + 1) L := by rw [ex3]; exact (show vp_in (nI i + nI 1) L by rw [nI_add]; exact vp_in_nI (by omega) (by omega))
  have hin2 : vp_in (x3 + 2) L := by rw [ex3]; exact (show vp_in (nI i + nI 2) L by rw [nI_add]; exact vp_in_nI (by omega) (by omega))
  have hin3 : vp_in (x3 + 3) L := by rw [ex3]; exact (show vp_in (nI i + nI 3) L by rw [nI_add]; exact vp_in_nI (by omega) (by omega))
  have hin4 : vp_in (x3 + 4) L := by rw [ex3]; exact (show vp_in (nI i + nI 4) L by rw [nI_add]; exact vp_in_nI (by omega) (by omega))
  refine lv_aload_n hx hb dL_law_152 rfl (lv_at hl 1 rfl) ?_
  refine lv_aload_n hx hb dL_law_153 rfl (lv_at hl 0 rfl) ?_
  refine lv_iload_n hx hb dL_law_154 rfl (lv_at hl 3 rfl) ?_
  refine lv_iconst (v := 1) hx hb dL_law_155 (by decide) ?_
  refine lv_iadd (x := x3) (y := 1) hx hb dL_law_156 ?_
  refine va_sld hx hb hX hbl hbA w.2.2 hin1 dL_law_157 ?_
  refine lv_aload_n hx hb dL_law_158 rfl (lv_at hl 0 rfl) ?_
  refine lv_iload_n hx hb dL_law_159 rfl (lv_at hl 3 rfl) ?_
  refine lv_iconst (v := 2) hx hb dL_law_160 (by decide) ?_
  refine lv_iadd (x := x3) (y := 2) hx hb dL_law_161 ?_
  refine va_sld hx hb hX hbl hbA w.2.2 hin2 dL_law_162 ?_
  refine lv_i2l hx hb dL_law_163 rfl ?_
  refine lv_bipush (v := 32) hx hb dL_law_164 (by decide) ?_
  refine lv_lshl hx hb dL_law_166 rfl ?_
  refine lv_aload_n hx hb dL_law_167 rfl (lv_at hl 0 rfl) ?_
  refine lv_iload_n hx hb dL_law_168 rfl (lv_at hl 3 rfl) ?_
  refine lv_iconst (v := 3) hx hb dL_law_169 (by decide) ?_
  refine lv_iadd (x := x3) (y := 3) hx hb dL_law_170 ?_
  refine va_sld hx hb hX hbl hbA w.2.2 hin3 dL_law_171 ?_
  refine lv_i2l hx hb dL_law_172 rfl ?_
  refine lv_ldc2 (own := RL) (v := 4294967295) hx hb hown (hts _ kt5_102) dL_law_173 ?_
  refine lv_land (x := (Int32.toInt64 (xs (Int32.toNatClampNeg (x3 + 3))))) (y := 4294967295) hx hb dL_law_176 ?_
  refine lv_lor (x := ((Int32.toInt64 (xs (Int32.toNatClampNeg (x3 + 2)))) <<< (Int32.toInt64 32 &&& 63))) (y := ((Int32.toInt64 (xs (Int32.toNatClampNeg (x3 + 3)))) &&& 4294967295)) hx hb dL_law_177 ?_
  obtain ⟨r, fi', ar', gi', br', h8, h9, hRel⟩ := st_feed hRel (xs (Int32.toNatClampNeg (x3 + 1))) (((Int32.toInt64 (xs (Int32.toNatClampNeg (x3 + 2)))) <<< (Int32.toInt64 32 &&& 63)) ||| ((Int32.toInt64 (xs (Int32.toNatClampNeg (x3 + 3)))) &&& 4294967295))
  refine lawCI (As := [.int (xs (Int32.toNatClampNeg (x3 + 1))), .long (((Int32.toInt64 (xs (Int32.toNatClampNeg (x3 + 2)))) <<< (Int32.toInt64 32 &&& 63)) ||| ((Int32.toInt64 (xs (Int32.toNatClampNeg (x3 + 3)))) &&& 4294967295))]) (rest := []) B w (c_X8_feed l D ca ak av ad fi fl ar (xs (Int32.toNatClampNeg (x3 + 1))) (((Int32.toInt64 (xs (Int32.toNatClampNeg (x3 + 2)))) <<< (Int32.toInt64 32 &&& 63)) ||| ((Int32.toInt64 (xs (Int32.toNatClampNeg (x3 + 3)))) &&& 4294967295)) h8) (gV kt2_68 kt2_69 kt2_70 kt1_1 kt2_71) hdV_X8_feed rfl rfl ⟨Nat.le_of_ble_eq_true rfl, Nat.le_of_ble_eq_true rfl⟩ rfl hl.1 rfl (Nat.le_of_ble_eq_true rfl) dL_law_178 (fun H locs w => ?_)
  refine lv_aload_n hx hb dL_law_181 rfl (lv_at hl 2 rfl) ?_
  refine lv_aload_n hx hb dL_law_182 rfl (lv_at hl 0 rfl) ?_
  refine lv_iload_n hx hb dL_law_183 rfl (lv_at hl 3 rfl) ?_
  refine lv_iconst (v := 1) hx hb dL_law_184 (by decide) ?_
  refine lv_iadd (x := x3) (y := 1) hx hb dL_law_185 ?_
  refine va_sld hx hb hX hbl hbA w.2.2 hin1 dL_law_186 ?_
  refine lv_aload_n hx hb dL_law_187 rfl (lv_at hl 0 rfl) ?_
  refine lv_iload_n hx hb dL_law_188 rfl (lv_at hl 3 rfl) ?_
  refine lv_iconst (v := 2) hx hb dL_law_189 (by decide) ?_
  refine lv_iadd (x := x3) (y := 2) hx hb dL_law_190 ?_
  refine va_sld hx hb hX hbl hbA w.2.2 hin2 dL_law_191 ?_
  refine lv_i2l hx hb dL_law_192 rfl ?_
  refine lv_bipush (v := 32) hx hb dL_law_193 (by decide) ?_
  refine lv_lshl hx hb dL_law_195 rfl ?_
  refine lv_aload_n hx hb dL_law_196 rfl (lv_at hl 0 rfl) ?_
  refine lv_iload_n hx hb dL_law_197 rfl (lv_at hl 3 rfl) ?_
  refine lv_iconst (v := 3) hx hb dL_law_198 (by decide) ?_
  refine lv_iadd (x := x3) (y := 3) hx hb dL_law_199 ?_
  refine va_sld hx hb hX hbl hbA w.2.2 hin3 dL_law_200 ?_
  refine lv_i2l hx hb dL_law_201 rfl ?_
  refine lv_ldc2 (own := RL) (v := 4294967295) hx hb hown (hts _ kt5_102) dL_law_202 ?_
  refine lv_land (x := (Int32.toInt64 (xs (Int32.toNatClampNeg (x3 + 3))))) (y := 4294967295) hx hb dL_law_205 ?_
  refine lv_lor (x := ((Int32.toInt64 (xs (Int32.toNatClampNeg (x3 + 2)))) <<< (Int32.toInt64 32 &&& 63))) (y := ((Int32.toInt64 (xs (Int32.toNatClampNeg (x3 + 3)))) &&& 4294967295)) hx hb dL_law_206 ?_
  refine lawMI (As := [.int (xs (Int32.toNatClampNeg (x3 + 1))), .long (((Int32.toInt64 (xs (Int32.toNatClampNeg (x3 + 2)))) <<< (Int32.toInt64 32 &&& 63)) ||| ((Int32.toInt64 (xs (Int32.toNatClampNeg (x3 + 3)))) &&& 4294967295))]) (rest := [.int r]) B w (c_X9_feed l D cb ak av bd gi gl br (xs (Int32.toNatClampNeg (x3 + 1))) (((Int32.toInt64 (xs (Int32.toNatClampNeg (x3 + 2)))) <<< (Int32.toInt64 32 &&& 63)) ||| ((Int32.toInt64 (xs (Int32.toNatClampNeg (x3 + 3)))) &&& 4294967295)) h9) (gV kt4_90 kt4_91 kt4_92 kt1_11 kt4_93) hdV_X9_feed rfl rfl ⟨Nat.le_of_ble_eq_true rfl, Nat.le_of_ble_eq_true rfl⟩ rfl hl.1 rfl (Nat.le_of_ble_eq_true rfl) dL_law_207 (fun H locs w => ?_)
  refine lv_icmp_eq (tgt := 951) hx hb dL_law_210 (by decide) (fun _ => ?_) (fun c => absurd rfl c)
  exact ih _ _ _ _ _ _ H locs ls hRel w hl
set_option maxHeartbeats 4000000 in
set_option maxRecDepth 100000 in
theorem law_1 {p : Program} {l : Launch} {e : Env} {s : State} {m : MethodId} {below : List Frame} {meth : Method} {c : Code} {D : va_G} {ca cb : Nat → ClassId} {ak av ad bd : Nat → Nat} {b L : Nat} {xs : Nat → Int32} (hL : L ≤ 2560) (C0 : lw_At p s m meth c b L xs) (B : LB p m c s #[Value.ref b] D ca cb ak av (fun q : Nat => s.heap.size ≤ q)) {i : Nat} {x3 : Int32} (ex3 : x3 = nI i) (hi : i + 5 ≤ L) (ih : ∀ (fi : Nat → Int32) (fl : Nat → Int64) (ar : Nat → Nat → Int32) (gi : Nat → Int32) (gl : Nat → Int64) (br : Nat → Nat → Int32) (H : Heap) (locs : List Loc) (ls : Array Slot), Rel fi fl ar gi gl br → LW D (fun q : Nat => s.heap.size ≤ q) s (wC ad ca fi fl ar ++ wM bd cb gi gl br) H locs → lv_has ls 4 [(0, .ref b), (1, .ref (ad 0)), (2, .ref (bd 0)), (3, .int x3)] → W p l e room_1 s m #[Value.ref b] below meth c H locs 25 7506 (lw_Z below #[Value.ref b] s) (F0 m 951 ls [])) {fi : Nat → Int32} {fl : Nat → Int64} {ar : Nat → Nat → Int32} {gi : Nat → Int32} {gl : Nat → Int64} {br : Nat → Nat → Int32} {H : Heap} {locs : List Loc} {ls : Array Slot} (hRel : Rel fi fl ar gi gl br) (w : LW D (fun q : Nat => s.heap.size ≤ q) s (wC ad ca fi fl ar ++ wM bd cb gi gl br) H locs) (hl : lv_has ls 4 [(0, .ref b), (1, .ref (ad 0)), (2, .ref (bd 0)), (3, .int x3)]) : W p l e room_1 s m #[Value.ref b] below meth c H locs 25 7506 (lw_Z below #[Value.ref b] s) (F0 m 215 ls []) := by
  obtain ⟨hx, hb, hr, hml, hown, hts0, hX, hbl, hlocks, hgv⟩ := C0
  have hts := B.1.2.2.2.2
  have hbA : ¬ (fun q : Nat => s.heap.size ≤ q) b := Nat.not_le.mpr hbl
  have hin1 : vp_in (x3 + 1) L := by rw [ex3]; exact (show vp_in (nI i + nI 1) L by rw [nI_add]; exact vp_in_nI (by omega) (by omega))
  have hin2 : vp_in (x3 + 2) L := by rw [ex3]; exact (show vp_in (nI i + nI 2) L by rw [nI_add]; exact vp_in_nI (by omega) (by omega))
  have hin3 : vp_in (x3 + 3) L := by rw [ex3]; exact (show vp_in (nI i + nI 3) L by rw [nI_add]; exact vp_in_nI (by omega) (by omega))
  have hin4 : vp_in (x3 + 4) L := by rw [ex3]; exact (show vp_in (nI i + nI 4) L by rw [nI_add]; exact vp_in_nI (by omega) (by omega))
  refine lv_aload_n hx hb dL_law_215 rfl (lv_at hl 1 rfl) ?_
  obtain ⟨r, fi', gi', br', h8, h9, hRel⟩ := st_read hRel 
  refine lawCI (As := []) (rest := []) B w (c_X8_read l D ca ak av ad fi fl ar  h8) (gV kt2_79 kt2_80 kt2_81 kt1_1 kt2_82) hdV_X8_read rfl rfl ⟨Nat.le_of_ble_eq_true rfl, Nat.le_of_ble_eq_true rfl⟩ rfl hl.1 rfl (Nat.le_of_ble_eq_true rfl) dL_law_216 (fun H locs w => ?_)
  refine lv_aload_n hx hb dL_law_219 rfl (lv_at hl 2 rfl) ?_
  refine lawMI (As := []) (rest := [.int r]) B w (c_X9_read l D cb ak av bd gi gl br  h9) (gV kt4_99 kt4_100 kt4_101 kt1_11 kt4_102) hdV_X9_read rfl rfl ⟨Nat.le_of_ble_eq_true rfl, Nat.le_of_ble_eq_true rfl⟩ rfl hl.1 rfl (Nat.le_of_ble_eq_true rfl) dL_law_220 (fun H locs w => ?_)
  refine lv_icmp_eq (tgt := 951) hx hb dL_law_223 (by decide) (fun _ => ?_) (fun c => absurd rfl c)
  exact ih _ _ _ _ _ _ H locs ls hRel w hl
set_option maxHeartbeats 4000000 in
set_option maxRecDepth 100000 in
theorem law_2 {p : Program} {l : Launch} {e : Env} {s : State} {m : MethodId} {below : List Frame} {meth : Method} {c : Code} {D : va_G} {ca cb : Nat → ClassId} {ak av ad bd : Nat → Nat} {b L : Nat} {xs : Nat → Int32} (hL : L ≤ 2560) (C0 : lw_At p s m meth c b L xs) (B : LB p m c s #[Value.ref b] D ca cb ak av (fun q : Nat => s.heap.size ≤ q)) {i : Nat} {x3 : Int32} (ex3 : x3 = nI i) (hi : i + 5 ≤ L) (ih : ∀ (fi : Nat → Int32) (fl : Nat → Int64) (ar : Nat → Nat → Int32) (gi : Nat → Int32) (gl : Nat → Int64) (br : Nat → Nat → Int32) (H : Heap) (locs : List Loc) (ls : Array Slot), Rel fi fl ar gi gl br → LW D (fun q : Nat => s.heap.size ≤ q) s (wC ad ca fi fl ar ++ wM bd cb gi gl br) H locs → lv_has ls 4 [(0, .ref b), (1, .ref (ad 0)), (2, .ref (bd 0)), (3, .int x3)] → W p l e room_1 s m #[Value.ref b] below meth c H locs 25 7506 (lw_Z below #[Value.ref b] s) (F0 m 951 ls [])) {fi : Nat → Int32} {fl : Nat → Int64} {ar : Nat → Nat → Int32} {gi : Nat → Int32} {gl : Nat → Int64} {br : Nat → Nat → Int32} {H : Heap} {locs : List Loc} {ls : Array Slot} (hRel : Rel fi fl ar gi gl br) (w : LW D (fun q : Nat => s.heap.size ≤ q) s (wC ad ca fi fl ar ++ wM bd cb gi gl br) H locs) (hl : lv_has ls 4 [(0, .ref b), (1, .ref (ad 0)), (2, .ref (bd 0)), (3, .int x3)]) : W p l e room_1 s m #[Value.ref b] below meth c H locs 25 7506 (lw_Z below #[Value.ref b] s) (F0 m 228 ls []) := by
  obtain ⟨hx, hb, hr, hml, hown, hts0, hX, hbl, hlocks, hgv⟩ := C0
  have hts := B.1.2.2.2.2
  have hbA : ¬ (fun q : Nat => s.heap.size ≤ q) b := Nat.not_le.mpr hbl
  have hin1 : vp_in (x3 + 1) L := by rw [ex3]; exact (show vp_in (nI i + nI 1) L by rw [nI_add]; exact vp_in_nI (by omega) (by omega))
  have hin2 : vp_in (x3 + 2) L := by rw [ex3]; exact (show vp_in (nI i + nI 2) L by rw [nI_add]; exact vp_in_nI (by omega) (by omega))
  have hin3 : vp_in (x3 + 3) L := by rw [ex3]; exact (show vp_in (nI i + nI 3) L by rw [nI_add]; exact vp_in_nI (by omega) (by omega))
  have hin4 : vp_in (x3 + 4) L := by rw [ex3]; exact (show vp_in (nI i + nI 4) L by rw [nI_add]; exact vp_in_nI (by omega) (by omega))
  refine lv_aload_n hx hb dL_law_228 rfl (lv_at hl 1 rfl) ?_
  obtain ⟨r, h8, h9, hRel⟩ := st_fault hRel 
  refine lawCI (As := []) (rest := []) B w (c_X8_fault l D ca ak av ad fi fl ar  h8) (gV kt2_198 kt2_199 kt2_200 kt1_1 kt2_201) hdV_X8_fault rfl rfl ⟨Nat.le_of_ble_eq_true rfl, Nat.le_of_ble_eq_true rfl⟩ rfl hl.1 rfl (Nat.le_of_ble_eq_true rfl) dL_law_229 (fun H locs w => ?_)
  refine lv_aload_n hx hb dL_law_232 rfl (lv_at hl 2 rfl) ?_
  refine lawMI (As := []) (rest := [.int r]) B w (c_X9_fault l D cb ak av bd gi gl br  h9) (gV kt4_146 kt4_147 kt4_148 kt1_11 kt4_149) hdV_X9_fault rfl rfl ⟨Nat.le_of_ble_eq_true rfl, Nat.le_of_ble_eq_true rfl⟩ rfl hl.1 rfl (Nat.le_of_ble_eq_true rfl) dL_law_233 (fun H locs w => ?_)
  refine lv_icmp_eq (tgt := 951) hx hb dL_law_236 (by decide) (fun _ => ?_) (fun c => absurd rfl c)
  exact ih _ _ _ _ _ _ H locs ls hRel w hl
set_option maxHeartbeats 4000000 in
set_option maxRecDepth 100000 in
theorem law_3 {p : Program} {l : Launch} {e : Env} {s : State} {m : MethodId} {below : List Frame} {meth : Method} {c : Code} {D : va_G} {ca cb : Nat → ClassId} {ak av ad bd : Nat → Nat} {b L : Nat} {xs : Nat → Int32} (hL : L ≤ 2560) (C0 : lw_At p s m meth c b L xs) (B : LB p m c s #[Value.ref b] D ca cb ak av (fun q : Nat => s.heap.size ≤ q)) {i : Nat} {x3 : Int32} (ex3 : x3 = nI i) (hi : i + 5 ≤ L) (ih : ∀ (fi : Nat → Int32) (fl : Nat → Int64) (ar : Nat → Nat → Int32) (gi : Nat → Int32) (gl : Nat → Int64) (br : Nat → Nat → Int32) (H : Heap) (locs : List Loc) (ls : Array Slot), Rel fi fl ar gi gl br → LW D (fun q : Nat => s.heap.size ≤ q) s (wC ad ca fi fl ar ++ wM bd cb gi gl br) H locs → lv_has ls 4 [(0, .ref b), (1, .ref (ad 0)), (2, .ref (bd 0)), (3, .int x3)] → W p l e room_1 s m #[Value.ref b] below meth c H locs 25 7506 (lw_Z below #[Value.ref b] s) (F0 m 951 ls [])) {fi : Nat → Int32} {fl : Nat → Int64} {ar : Nat → Nat → Int32} {gi : Nat → Int32} {gl : Nat → Int64} {br : Nat → Nat → Int32} {H : Heap} {locs : List Loc} {ls : Array Slot} (hRel : Rel fi fl ar gi gl br) (w : LW D (fun q : Nat => s.heap.size ≤ q) s (wC ad ca fi fl ar ++ wM bd cb gi gl br) H locs) (hl : lv_has ls 4 [(0, .ref b), (1, .ref (ad 0)), (2, .ref (bd 0)), (3, .int x3)]) : W p l e room_1 s m #[Value.ref b] below meth c H locs 25 7506 (lw_Z below #[Value.ref b] s) (F0 m 241 ls []) := by
  obtain ⟨hx, hb, hr, hml, hown, hts0, hX, hbl, hlocks, hgv⟩ := C0
  have hts := B.1.2.2.2.2
  have hbA : ¬ (fun q : Nat => s.heap.size ≤ q) b := Nat.not_le.mpr hbl
  have hin1 : vp_in (x3 + 1) L := by rw [ex3]; exact (show vp_in (nI i + nI 1) L by rw [nI_add]; exact vp_in_nI (by omega) (by omega))
  have hin2 : vp_in (x3 + 2) L := by rw [ex3]; exact (show vp_in (nI i + nI 2) L by rw [nI_add]; exact vp_in_nI (by omega) (by omega))
  have hin3 : vp_in (x3 + 3) L := by rw [ex3]; exact (show vp_in (nI i + nI 3) L by rw [nI_add]; exact vp_in_nI (by omega) (by omega))
  have hin4 : vp_in (x3 + 4) L := by rw [ex3]; exact (show vp_in (nI i + nI 4) L by rw [nI_add]; exact vp_in_nI (by omega) (by omega))
  refine lv_aload_n hx hb dL_law_241 rfl (lv_at hl 1 rfl) ?_
  refine lv_aload_n hx hb dL_law_242 rfl (lv_at hl 0 rfl) ?_
  refine lv_iload_n hx hb dL_law_243 rfl (lv_at hl 3 rfl) ?_
  refine lv_iconst (v := 1) hx hb dL_law_244 (by decide) ?_
  refine lv_iadd (x := x3) (y := 1) hx hb dL_law_245 ?_
  refine va_sld hx hb hX hbl hbA w.2.2 hin1 dL_law_246 ?_
  obtain ⟨r, h8, h9, hRel⟩ := st_village hRel (xs (Int32.toNatClampNeg (x3 + 1)))
  refine lawCI (As := [.int (xs (Int32.toNatClampNeg (x3 + 1)))]) (rest := []) B w (c_X8_village l D ca ak av ad fi fl ar (xs (Int32.toNatClampNeg (x3 + 1))) h8) (gV kt2_202 kt2_203 kt2_204 kt1_1 kt2_205) hdV_X8_village rfl rfl ⟨Nat.le_of_ble_eq_true rfl, Nat.le_of_ble_eq_true rfl⟩ rfl hl.1 rfl (Nat.le_of_ble_eq_true rfl) dL_law_247 (fun H locs w => ?_)
  refine lv_aload_n hx hb dL_law_250 rfl (lv_at hl 2 rfl) ?_
  refine lv_aload_n hx hb dL_law_251 rfl (lv_at hl 0 rfl) ?_
  refine lv_iload_n hx hb dL_law_252 rfl (lv_at hl 3 rfl) ?_
  refine lv_iconst (v := 1) hx hb dL_law_253 (by decide) ?_
  refine lv_iadd (x := x3) (y := 1) hx hb dL_law_254 ?_
  refine va_sld hx hb hX hbl hbA w.2.2 hin1 dL_law_255 ?_
  refine lawMI (As := [.int (xs (Int32.toNatClampNeg (x3 + 1)))]) (rest := [.int r]) B w (c_X9_village l D cb ak av bd gi gl br (xs (Int32.toNatClampNeg (x3 + 1))) h9) (gV kt4_150 kt4_151 kt4_152 kt1_11 kt4_153) hdV_X9_village rfl rfl ⟨Nat.le_of_ble_eq_true rfl, Nat.le_of_ble_eq_true rfl⟩ rfl hl.1 rfl (Nat.le_of_ble_eq_true rfl) dL_law_256 (fun H locs w => ?_)
  refine lv_icmp_eq (tgt := 951) hx hb dL_law_259 (by decide) (fun _ => ?_) (fun c => absurd rfl c)
  exact ih _ _ _ _ _ _ H locs ls hRel w hl
set_option maxHeartbeats 4000000 in
set_option maxRecDepth 100000 in
theorem law_4 {p : Program} {l : Launch} {e : Env} {s : State} {m : MethodId} {below : List Frame} {meth : Method} {c : Code} {D : va_G} {ca cb : Nat → ClassId} {ak av ad bd : Nat → Nat} {b L : Nat} {xs : Nat → Int32} (hL : L ≤ 2560) (C0 : lw_At p s m meth c b L xs) (B : LB p m c s #[Value.ref b] D ca cb ak av (fun q : Nat => s.heap.size ≤ q)) {i : Nat} {x3 : Int32} (ex3 : x3 = nI i) (hi : i + 5 ≤ L) (ih : ∀ (fi : Nat → Int32) (fl : Nat → Int64) (ar : Nat → Nat → Int32) (gi : Nat → Int32) (gl : Nat → Int64) (br : Nat → Nat → Int32) (H : Heap) (locs : List Loc) (ls : Array Slot), Rel fi fl ar gi gl br → LW D (fun q : Nat => s.heap.size ≤ q) s (wC ad ca fi fl ar ++ wM bd cb gi gl br) H locs → lv_has ls 4 [(0, .ref b), (1, .ref (ad 0)), (2, .ref (bd 0)), (3, .int x3)] → W p l e room_1 s m #[Value.ref b] below meth c H locs 25 7506 (lw_Z below #[Value.ref b] s) (F0 m 951 ls [])) {fi : Nat → Int32} {fl : Nat → Int64} {ar : Nat → Nat → Int32} {gi : Nat → Int32} {gl : Nat → Int64} {br : Nat → Nat → Int32} {H : Heap} {locs : List Loc} {ls : Array Slot} (hRel : Rel fi fl ar gi gl br) (w : LW D (fun q : Nat => s.heap.size ≤ q) s (wC ad ca fi fl ar ++ wM bd cb gi gl br) H locs) (hl : lv_has ls 4 [(0, .ref b), (1, .ref (ad 0)), (2, .ref (bd 0)), (3, .int x3)]) : W p l e room_1 s m #[Value.ref b] below meth c H locs 25 7506 (lw_Z below #[Value.ref b] s) (F0 m 264 ls []) := by
  obtain ⟨hx, hb, hr, hml, hown, hts0, hX, hbl, hlocks, hgv⟩ := C0
  have hts := B.1.2.2.2.2
  have hbA : ¬ (fun q : Nat => s.heap.size ≤ q) b := Nat.not_le.mpr hbl
  have hin1 : vp_in (x3 + 1) L := by rw [ex3]; exact (show vp_in (nI i + nI 1) L by rw [nI_add]; exact vp_in_nI (by omega) (by omega))
  have hin2 : vp_in (x3 + 2) L := by rw [ex3]; exact (show vp_in (nI i + nI 2) L by rw [nI_add]; exact vp_in_nI (by omega) (by omega))
  have hin3 : vp_in (x3 + 3) L := by rw [ex3]; exact (show vp_in (nI i + nI 3) L by rw [nI_add]; exact vp_in_nI (by omega) (by omega))
  have hin4 : vp_in (x3 + 4) L := by rw [ex3]; exact (show vp_in (nI i + nI 4) L by rw [nI_add]; exact vp_in_nI (by omega) (by omega))
  refine lv_aload_n hx hb dL_law_264 rfl (lv_at hl 1 rfl) ?_
  refine lv_aload_n hx hb dL_law_265 rfl (lv_at hl 0 rfl) ?_
  refine lv_iload_n hx hb dL_law_266 rfl (lv_at hl 3 rfl) ?_
  refine lv_iconst (v := 1) hx hb dL_law_267 (by decide) ?_
  refine lv_iadd (x := x3) (y := 1) hx hb dL_law_268 ?_
  refine va_sld hx hb hX hbl hbA w.2.2 hin1 dL_law_269 ?_
  obtain ⟨r, fi', gi', h8, h9, hRel⟩ := st_least hRel (xs (Int32.toNatClampNeg (x3 + 1)))
  refine lawCI (As := [.int (xs (Int32.toNatClampNeg (x3 + 1)))]) (rest := []) B w (c_X8_least l D ca ak av ad fi fl ar (xs (Int32.toNatClampNeg (x3 + 1))) h8) (gV kt2_206 kt2_207 kt2_208 kt1_1 kt2_209) hdV_X8_least rfl rfl ⟨Nat.le_of_ble_eq_true rfl, Nat.le_of_ble_eq_true rfl⟩ rfl hl.1 rfl (Nat.le_of_ble_eq_true rfl) dL_law_270 (fun H locs w => ?_)
  refine lv_aload_n hx hb dL_law_273 rfl (lv_at hl 2 rfl) ?_
  refine lv_aload_n hx hb dL_law_274 rfl (lv_at hl 0 rfl) ?_
  refine lv_iload_n hx hb dL_law_275 rfl (lv_at hl 3 rfl) ?_
  refine lv_iconst (v := 1) hx hb dL_law_276 (by decide) ?_
  refine lv_iadd (x := x3) (y := 1) hx hb dL_law_277 ?_
  refine va_sld hx hb hX hbl hbA w.2.2 hin1 dL_law_278 ?_
  refine lawMI (As := [.int (xs (Int32.toNatClampNeg (x3 + 1)))]) (rest := [.int r]) B w (c_X9_least l D cb ak av bd gi gl br (xs (Int32.toNatClampNeg (x3 + 1))) h9) (gV kt4_155 kt4_156 kt4_157 kt1_11 kt4_158) hdV_X9_least rfl rfl ⟨Nat.le_of_ble_eq_true rfl, Nat.le_of_ble_eq_true rfl⟩ rfl hl.1 rfl (Nat.le_of_ble_eq_true rfl) dL_law_279 (fun H locs w => ?_)
  refine lv_icmp_eq (tgt := 951) hx hb dL_law_282 (by decide) (fun _ => ?_) (fun c => absurd rfl c)
  exact ih _ _ _ _ _ _ H locs ls hRel w hl
set_option maxHeartbeats 4000000 in
set_option maxRecDepth 100000 in
theorem law_5 {p : Program} {l : Launch} {e : Env} {s : State} {m : MethodId} {below : List Frame} {meth : Method} {c : Code} {D : va_G} {ca cb : Nat → ClassId} {ak av ad bd : Nat → Nat} {b L : Nat} {xs : Nat → Int32} (hL : L ≤ 2560) (C0 : lw_At p s m meth c b L xs) (B : LB p m c s #[Value.ref b] D ca cb ak av (fun q : Nat => s.heap.size ≤ q)) {i : Nat} {x3 : Int32} (ex3 : x3 = nI i) (hi : i + 5 ≤ L) (ih : ∀ (fi : Nat → Int32) (fl : Nat → Int64) (ar : Nat → Nat → Int32) (gi : Nat → Int32) (gl : Nat → Int64) (br : Nat → Nat → Int32) (H : Heap) (locs : List Loc) (ls : Array Slot), Rel fi fl ar gi gl br → LW D (fun q : Nat => s.heap.size ≤ q) s (wC ad ca fi fl ar ++ wM bd cb gi gl br) H locs → lv_has ls 4 [(0, .ref b), (1, .ref (ad 0)), (2, .ref (bd 0)), (3, .int x3)] → W p l e room_1 s m #[Value.ref b] below meth c H locs 25 7506 (lw_Z below #[Value.ref b] s) (F0 m 951 ls [])) {fi : Nat → Int32} {fl : Nat → Int64} {ar : Nat → Nat → Int32} {gi : Nat → Int32} {gl : Nat → Int64} {br : Nat → Nat → Int32} {H : Heap} {locs : List Loc} {ls : Array Slot} (hRel : Rel fi fl ar gi gl br) (w : LW D (fun q : Nat => s.heap.size ≤ q) s (wC ad ca fi fl ar ++ wM bd cb gi gl br) H locs) (hl : lv_has ls 4 [(0, .ref b), (1, .ref (ad 0)), (2, .ref (bd 0)), (3, .int x3)]) : W p l e room_1 s m #[Value.ref b] below meth c H locs 25 7506 (lw_Z below #[Value.ref b] s) (F0 m 287 ls []) := by
  obtain ⟨hx, hb, hr, hml, hown, hts0, hX, hbl, hlocks, hgv⟩ := C0
  have hts := B.1.2.2.2.2
  have hbA : ¬ (fun q : Nat => s.heap.size ≤ q) b := Nat.not_le.mpr hbl
  have hin1 : vp_in (x3 + 1) L := by rw [ex3]; exact (show vp_in (nI i + nI 1) L by rw [nI_add]; exact vp_in_nI (by omega) (by omega))
  have hin2 : vp_in (x3 + 2) L := by rw [ex3]; exact (show vp_in (nI i + nI 2) L by rw [nI_add]; exact vp_in_nI (by omega) (by omega))
  have hin3 : vp_in (x3 + 3) L := by rw [ex3]; exact (show vp_in (nI i + nI 3) L by rw [nI_add]; exact vp_in_nI (by omega) (by omega))
  have hin4 : vp_in (x3 + 4) L := by rw [ex3]; exact (show vp_in (nI i + nI 4) L by rw [nI_add]; exact vp_in_nI (by omega) (by omega))
  refine lv_aload_n hx hb dL_law_287 rfl (lv_at hl 1 rfl) ?_
  refine lv_aload_n hx hb dL_law_288 rfl (lv_at hl 0 rfl) ?_
  refine lv_iload_n hx hb dL_law_289 rfl (lv_at hl 3 rfl) ?_
  refine lv_iconst (v := 1) hx hb dL_law_290 (by decide) ?_
  refine lv_iadd (x := x3) (y := 1) hx hb dL_law_291 ?_
  refine va_sld hx hb hX hbl hbA w.2.2 hin1 dL_law_292 ?_
  refine lv_aload_n hx hb dL_law_293 rfl (lv_at hl 0 rfl) ?_
  refine lv_iload_n hx hb dL_law_294 rfl (lv_at hl 3 rfl) ?_
  refine lv_iconst (v := 2) hx hb dL_law_295 (by decide) ?_
  refine lv_iadd (x := x3) (y := 2) hx hb dL_law_296 ?_
  refine va_sld hx hb hX hbl hbA w.2.2 hin2 dL_law_297 ?_
  refine lv_aload_n hx hb dL_law_298 rfl (lv_at hl 0 rfl) ?_
  refine lv_iload_n hx hb dL_law_299 rfl (lv_at hl 3 rfl) ?_
  refine lv_iconst (v := 3) hx hb dL_law_300 (by decide) ?_
  refine lv_iadd (x := x3) (y := 3) hx hb dL_law_301 ?_
  refine va_sld hx hb hX hbl hbA w.2.2 hin3 dL_law_302 ?_
  refine lv_aload_n hx hb dL_law_303 rfl (lv_at hl 0 rfl) ?_
  refine lv_iload_n hx hb dL_law_304 rfl (lv_at hl 3 rfl) ?_
  refine lv_iconst (v := 4) hx hb dL_law_305 (by decide) ?_
  refine lv_iadd (x := x3) (y := 4) hx hb dL_law_306 ?_
  refine va_sld hx hb hX hbl hbA w.2.2 hin4 dL_law_307 ?_
  obtain ⟨r, h8, h9, hRel⟩ := st_does hRel (xs (Int32.toNatClampNeg (x3 + 1))) (xs (Int32.toNatClampNeg (x3 + 2))) (xs (Int32.toNatClampNeg (x3 + 3))) (xs (Int32.toNatClampNeg (x3 + 4)))
  refine lawCI (As := [.int (xs (Int32.toNatClampNeg (x3 + 1))), .int (xs (Int32.toNatClampNeg (x3 + 2))), .int (xs (Int32.toNatClampNeg (x3 + 3))), .int (xs (Int32.toNatClampNeg (x3 + 4)))]) (rest := []) B w (c_X8_does l D ca ak av ad fi fl ar (xs (Int32.toNatClampNeg (x3 + 1))) (xs (Int32.toNatClampNeg (x3 + 2))) (xs (Int32.toNatClampNeg (x3 + 3))) (xs (Int32.toNatClampNeg (x3 + 4))) h8) (gV kt2_211 kt2_212 kt2_213 kt1_1 kt2_214) hdV_X8_does rfl rfl ⟨Nat.le_of_ble_eq_true rfl, Nat.le_of_ble_eq_true rfl⟩ rfl hl.1 rfl (Nat.le_of_ble_eq_true rfl) dL_law_308 (fun H locs w => ?_)
  refine lv_aload_n hx hb dL_law_311 rfl (lv_at hl 2 rfl) ?_
  refine lv_aload_n hx hb dL_law_312 rfl (lv_at hl 0 rfl) ?_
  refine lv_iload_n hx hb dL_law_313 rfl (lv_at hl 3 rfl) ?_
  refine lv_iconst (v := 1) hx hb dL_law_314 (by decide) ?_
  refine lv_iadd (x := x3) (y := 1) hx hb dL_law_315 ?_
  refine va_sld hx hb hX hbl hbA w.2.2 hin1 dL_law_316 ?_
  refine lv_aload_n hx hb dL_law_317 rfl (lv_at hl 0 rfl) ?_
  refine lv_iload_n hx hb dL_law_318 rfl (lv_at hl 3 rfl) ?_
  refine lv_iconst (v := 2) hx hb dL_law_319 (by decide) ?_
  refine lv_iadd (x := x3) (y := 2) hx hb dL_law_320 ?_
  refine va_sld hx hb hX hbl hbA w.2.2 hin2 dL_law_321 ?_
  refine lv_aload_n hx hb dL_law_322 rfl (lv_at hl 0 rfl) ?_
  refine lv_iload_n hx hb dL_law_323 rfl (lv_at hl 3 rfl) ?_
  refine lv_iconst (v := 3) hx hb dL_law_324 (by decide) ?_
  refine lv_iadd (x := x3) (y := 3) hx hb dL_law_325 ?_
  refine va_sld hx hb hX hbl hbA w.2.2 hin3 dL_law_326 ?_
  refine lv_aload_n hx hb dL_law_327 rfl (lv_at hl 0 rfl) ?_
  refine lv_iload_n hx hb dL_law_328 rfl (lv_at hl 3 rfl) ?_
  refine lv_iconst (v := 4) hx hb dL_law_329 (by decide) ?_
  refine lv_iadd (x := x3) (y := 4) hx hb dL_law_330 ?_
  refine va_sld hx hb hX hbl hbA w.2.2 hin4 dL_law_331 ?_
  refine lawMI (As := [.int (xs (Int32.toNatClampNeg (x3 + 1))), .int (xs (Int32.toNatClampNeg (x3 + 2))), .int (xs (Int32.toNatClampNeg (x3 + 3))), .int (xs (Int32.toNatClampNeg (x3 + 4)))]) (rest := [.int r]) B w (c_X9_does l D cb ak av bd gi gl br (xs (Int32.toNatClampNeg (x3 + 1))) (xs (Int32.toNatClampNeg (x3 + 2))) (xs (Int32.toNatClampNeg (x3 + 3))) (xs (Int32.toNatClampNeg (x3 + 4))) h9) (gV kt4_160 kt4_161 kt4_162 kt1_11 kt4_163) hdV_X9_does rfl rfl ⟨Nat.le_of_ble_eq_true rfl, Nat.le_of_ble_eq_true rfl⟩ rfl hl.1 rfl (Nat.le_of_ble_eq_true rfl) dL_law_332 (fun H locs w => ?_)
  refine lv_icmp_eq (tgt := 951) hx hb dL_law_335 (by decide) (fun _ => ?_) (fun c => absurd rfl c)
  exact ih _ _ _ _ _ _ H locs ls hRel w hl
set_option maxHeartbeats 4000000 in
set_option maxRecDepth 100000 in
theorem law_6 {p : Program} {l : Launch} {e : Env} {s : State} {m : MethodId} {below : List Frame} {meth : Method} {c : Code} {D : va_G} {ca cb : Nat → ClassId} {ak av ad bd : Nat → Nat} {b L : Nat} {xs : Nat → Int32} (hL : L ≤ 2560) (C0 : lw_At p s m meth c b L xs) (B : LB p m c s #[Value.ref b] D ca cb ak av (fun q : Nat => s.heap.size ≤ q)) {i : Nat} {x3 : Int32} (ex3 : x3 = nI i) (hi : i + 5 ≤ L) (ih : ∀ (fi : Nat → Int32) (fl : Nat → Int64) (ar : Nat → Nat → Int32) (gi : Nat → Int32) (gl : Nat → Int64) (br : Nat → Nat → Int32) (H : Heap) (locs : List Loc) (ls : Array Slot), Rel fi fl ar gi gl br → LW D (fun q : Nat => s.heap.size ≤ q) s (wC ad ca fi fl ar ++ wM bd cb gi gl br) H locs → lv_has ls 4 [(0, .ref b), (1, .ref (ad 0)), (2, .ref (bd 0)), (3, .int x3)] → W p l e room_1 s m #[Value.ref b] below meth c H locs 25 7506 (lw_Z below #[Value.ref b] s) (F0 m 951 ls [])) {fi : Nat → Int32} {fl : Nat → Int64} {ar : Nat → Nat → Int32} {gi : Nat → Int32} {gl : Nat → Int64} {br : Nat → Nat → Int32} {H : Heap} {locs : List Loc} {ls : Array Slot} (hRel : Rel fi fl ar gi gl br) (w : LW D (fun q : Nat => s.heap.size ≤ q) s (wC ad ca fi fl ar ++ wM bd cb gi gl br) H locs) (hl : lv_has ls 4 [(0, .ref b), (1, .ref (ad 0)), (2, .ref (bd 0)), (3, .int x3)]) : W p l e room_1 s m #[Value.ref b] below meth c H locs 25 7506 (lw_Z below #[Value.ref b] s) (F0 m 340 ls []) := by
  obtain ⟨hx, hb, hr, hml, hown, hts0, hX, hbl, hlocks, hgv⟩ := C0
  have hts := B.1.2.2.2.2
  have hbA : ¬ (fun q : Nat => s.heap.size ≤ q) b := Nat.not_le.mpr hbl
  have hin1 : vp_in (x3 + 1) L := by rw [ex3]; exact (show vp_in (nI i + nI 1) L by rw [nI_add]; exact vp_in_nI (by omega) (by omega))
  have hin2 : vp_in (x3 + 2) L := by rw [ex3]; exact (show vp_in (nI i + nI 2) L by rw [nI_add]; exact vp_in_nI (by omega) (by omega))
  have hin3 : vp_in (x3 + 3) L := by rw [ex3]; exact (show vp_in (nI i + nI 3) L by rw [nI_add]; exact vp_in_nI (by omega) (by omega))
  have hin4 : vp_in (x3 + 4) L := by rw [ex3]; exact (show vp_in (nI i + nI 4) L by rw [nI_add]; exact vp_in_nI (by omega) (by omega))
  refine lv_aload_n hx hb dL_law_340 rfl (lv_at hl 1 rfl) ?_
  refine lv_aload_n hx hb dL_law_341 rfl (lv_at hl 0 rfl) ?_
  refine lv_iload_n hx hb dL_law_342 rfl (lv_at hl 3 rfl) ?_
  refine lv_iconst (v := 1) hx hb dL_law_343 (by decide) ?_
  refine lv_iadd (x := x3) (y := 1) hx hb dL_law_344 ?_
  refine va_sld hx hb hX hbl hbA w.2.2 hin1 dL_law_345 ?_
  refine lv_aload_n hx hb dL_law_346 rfl (lv_at hl 0 rfl) ?_
  refine lv_iload_n hx hb dL_law_347 rfl (lv_at hl 3 rfl) ?_
  refine lv_iconst (v := 2) hx hb dL_law_348 (by decide) ?_
  refine lv_iadd (x := x3) (y := 2) hx hb dL_law_349 ?_
  refine va_sld hx hb hX hbl hbA w.2.2 hin2 dL_law_350 ?_
  obtain ⟨r, fi', ar', h8, h9, hRel⟩ := st_step hRel (xs (Int32.toNatClampNeg (x3 + 1))) (xs (Int32.toNatClampNeg (x3 + 2)))
  refine lawCI (As := [.int (xs (Int32.toNatClampNeg (x3 + 1))), .int (xs (Int32.toNatClampNeg (x3 + 2)))]) (rest := []) B w (c_X8_step l D ca ak av ad fi fl ar (xs (Int32.toNatClampNeg (x3 + 1))) (xs (Int32.toNatClampNeg (x3 + 2))) h8) (gV kt2_225 kt2_226 kt2_227 kt1_1 kt2_228) hdV_X8_step rfl rfl ⟨Nat.le_of_ble_eq_true rfl, Nat.le_of_ble_eq_true rfl⟩ rfl hl.1 rfl (Nat.le_of_ble_eq_true rfl) dL_law_351 (fun H locs w => ?_)
  refine lv_aload_n hx hb dL_law_354 rfl (lv_at hl 2 rfl) ?_
  refine lv_aload_n hx hb dL_law_355 rfl (lv_at hl 0 rfl) ?_
  refine lv_iload_n hx hb dL_law_356 rfl (lv_at hl 3 rfl) ?_
  refine lv_iconst (v := 1) hx hb dL_law_357 (by decide) ?_
  refine lv_iadd (x := x3) (y := 1) hx hb dL_law_358 ?_
  refine va_sld hx hb hX hbl hbA w.2.2 hin1 dL_law_359 ?_
  refine lv_aload_n hx hb dL_law_360 rfl (lv_at hl 0 rfl) ?_
  refine lv_iload_n hx hb dL_law_361 rfl (lv_at hl 3 rfl) ?_
  refine lv_iconst (v := 2) hx hb dL_law_362 (by decide) ?_
  refine lv_iadd (x := x3) (y := 2) hx hb dL_law_363 ?_
  refine va_sld hx hb hX hbl hbA w.2.2 hin2 dL_law_364 ?_
  refine lawMI (As := [.int (xs (Int32.toNatClampNeg (x3 + 1))), .int (xs (Int32.toNatClampNeg (x3 + 2)))]) (rest := [.int r]) B w (c_X9_step l D cb ak av bd gi gl br (xs (Int32.toNatClampNeg (x3 + 1))) (xs (Int32.toNatClampNeg (x3 + 2))) h9) (gV kt4_178 kt4_179 kt4_180 kt1_11 kt4_181) hdV_X9_step rfl rfl ⟨Nat.le_of_ble_eq_true rfl, Nat.le_of_ble_eq_true rfl⟩ rfl hl.1 rfl (Nat.le_of_ble_eq_true rfl) dL_law_365 (fun H locs w => ?_)
  refine lv_icmp_eq (tgt := 951) hx hb dL_law_368 (by decide) (fun _ => ?_) (fun c => absurd rfl c)
  exact ih _ _ _ _ _ _ H locs ls hRel w hl
set_option maxHeartbeats 4000000 in
set_option maxRecDepth 100000 in
theorem law_7 {p : Program} {l : Launch} {e : Env} {s : State} {m : MethodId} {below : List Frame} {meth : Method} {c : Code} {D : va_G} {ca cb : Nat → ClassId} {ak av ad bd : Nat → Nat} {b L : Nat} {xs : Nat → Int32} (hL : L ≤ 2560) (C0 : lw_At p s m meth c b L xs) (B : LB p m c s #[Value.ref b] D ca cb ak av (fun q : Nat => s.heap.size ≤ q)) {i : Nat} {x3 : Int32} (ex3 : x3 = nI i) (hi : i + 5 ≤ L) (ih : ∀ (fi : Nat → Int32) (fl : Nat → Int64) (ar : Nat → Nat → Int32) (gi : Nat → Int32) (gl : Nat → Int64) (br : Nat → Nat → Int32) (H : Heap) (locs : List Loc) (ls : Array Slot), Rel fi fl ar gi gl br → LW D (fun q : Nat => s.heap.size ≤ q) s (wC ad ca fi fl ar ++ wM bd cb gi gl br) H locs → lv_has ls 4 [(0, .ref b), (1, .ref (ad 0)), (2, .ref (bd 0)), (3, .int x3)] → W p l e room_1 s m #[Value.ref b] below meth c H locs 25 7506 (lw_Z below #[Value.ref b] s) (F0 m 951 ls [])) {fi : Nat → Int32} {fl : Nat → Int64} {ar : Nat → Nat → Int32} {gi : Nat → Int32} {gl : Nat → Int64} {br : Nat → Nat → Int32} {H : Heap} {locs : List Loc} {ls : Array Slot} (hRel : Rel fi fl ar gi gl br) (w : LW D (fun q : Nat => s.heap.size ≤ q) s (wC ad ca fi fl ar ++ wM bd cb gi gl br) H locs) (hl : lv_has ls 4 [(0, .ref b), (1, .ref (ad 0)), (2, .ref (bd 0)), (3, .int x3)]) : W p l e room_1 s m #[Value.ref b] below meth c H locs 25 7506 (lw_Z below #[Value.ref b] s) (F0 m 373 ls []) := by
  obtain ⟨hx, hb, hr, hml, hown, hts0, hX, hbl, hlocks, hgv⟩ := C0
  have hts := B.1.2.2.2.2
  have hbA : ¬ (fun q : Nat => s.heap.size ≤ q) b := Nat.not_le.mpr hbl
  have hin1 : vp_in (x3 + 1) L := by rw [ex3]; exact (show vp_in (nI i + nI 1) L by rw [nI_add]; exact vp_in_nI (by omega) (by omega))
  have hin2 : vp_in (x3 + 2) L := by rw [ex3]; exact (show vp_in (nI i + nI 2) L by rw [nI_add]; exact vp_in_nI (by omega) (by omega))
  have hin3 : vp_in (x3 + 3) L := by rw [ex3]; exact (show vp_in (nI i + nI 3) L by rw [nI_add]; exact vp_in_nI (by omega) (by omega))
  have hin4 : vp_in (x3 + 4) L := by rw [ex3]; exact (show vp_in (nI i + nI 4) L by rw [nI_add]; exact vp_in_nI (by omega) (by omega))
  refine lv_aload_n hx hb dL_law_373 rfl (lv_at hl 1 rfl) ?_
  refine lv_aload_n hx hb dL_law_374 rfl (lv_at hl 0 rfl) ?_
  refine lv_iload_n hx hb dL_law_375 rfl (lv_at hl 3 rfl) ?_
  refine lv_iconst (v := 1) hx hb dL_law_376 (by decide) ?_
  refine lv_iadd (x := x3) (y := 1) hx hb dL_law_377 ?_
  refine va_sld hx hb hX hbl hbA w.2.2 hin1 dL_law_378 ?_
  refine lv_aload_n hx hb dL_law_379 rfl (lv_at hl 0 rfl) ?_
  refine lv_iload_n hx hb dL_law_380 rfl (lv_at hl 3 rfl) ?_
  refine lv_iconst (v := 2) hx hb dL_law_381 (by decide) ?_
  refine lv_iadd (x := x3) (y := 2) hx hb dL_law_382 ?_
  refine va_sld hx hb hX hbl hbA w.2.2 hin2 dL_law_383 ?_
  refine lv_aload_n hx hb dL_law_384 rfl (lv_at hl 0 rfl) ?_
  refine lv_iload_n hx hb dL_law_385 rfl (lv_at hl 3 rfl) ?_
  refine lv_iconst (v := 3) hx hb dL_law_386 (by decide) ?_
  refine lv_iadd (x := x3) (y := 3) hx hb dL_law_387 ?_
  refine va_sld hx hb hX hbl hbA w.2.2 hin3 dL_law_388 ?_
  obtain ⟨r, fi', ar', gi', br', h8, h9, hRel⟩ := st_from hRel (xs (Int32.toNatClampNeg (x3 + 1))) (xs (Int32.toNatClampNeg (x3 + 2))) (xs (Int32.toNatClampNeg (x3 + 3)))
  refine lawCI (As := [.int (xs (Int32.toNatClampNeg (x3 + 1))), .int (xs (Int32.toNatClampNeg (x3 + 2))), .int (xs (Int32.toNatClampNeg (x3 + 3)))]) (rest := []) B w (c_X8_from l D ca ak av ad fi fl ar (xs (Int32.toNatClampNeg (x3 + 1))) (xs (Int32.toNatClampNeg (x3 + 2))) (xs (Int32.toNatClampNeg (x3 + 3))) h8) (gV kt3_4 kt3_5 kt3_6 kt1_1 kt3_7) hdV_X8_from rfl rfl ⟨Nat.le_of_ble_eq_true rfl, Nat.le_of_ble_eq_true rfl⟩ rfl hl.1 rfl (Nat.le_of_ble_eq_true rfl) dL_law_389 (fun H locs w => ?_)
  refine lv_aload_n hx hb dL_law_392 rfl (lv_at hl 2 rfl) ?_
  refine lv_aload_n hx hb dL_law_393 rfl (lv_at hl 0 rfl) ?_
  refine lv_iload_n hx hb dL_law_394 rfl (lv_at hl 3 rfl) ?_
  refine lv_iconst (v := 1) hx hb dL_law_395 (by decide) ?_
  refine lv_iadd (x := x3) (y := 1) hx hb dL_law_396 ?_
  refine va_sld hx hb hX hbl hbA w.2.2 hin1 dL_law_397 ?_
  refine lv_aload_n hx hb dL_law_398 rfl (lv_at hl 0 rfl) ?_
  refine lv_iload_n hx hb dL_law_399 rfl (lv_at hl 3 rfl) ?_
  refine lv_iconst (v := 2) hx hb dL_law_400 (by decide) ?_
  refine lv_iadd (x := x3) (y := 2) hx hb dL_law_401 ?_
  refine va_sld hx hb hX hbl hbA w.2.2 hin2 dL_law_402 ?_
  refine lv_aload_n hx hb dL_law_403 rfl (lv_at hl 0 rfl) ?_
  refine lv_iload_n hx hb dL_law_404 rfl (lv_at hl 3 rfl) ?_
  refine lv_iconst (v := 3) hx hb dL_law_405 (by decide) ?_
  refine lv_iadd (x := x3) (y := 3) hx hb dL_law_406 ?_
  refine va_sld hx hb hX hbl hbA w.2.2 hin3 dL_law_407 ?_
  refine lawMI (As := [.int (xs (Int32.toNatClampNeg (x3 + 1))), .int (xs (Int32.toNatClampNeg (x3 + 2))), .int (xs (Int32.toNatClampNeg (x3 + 3)))]) (rest := [.int r]) B w (c_X9_from l D cb ak av bd gi gl br (xs (Int32.toNatClampNeg (x3 + 1))) (xs (Int32.toNatClampNeg (x3 + 2))) (xs (Int32.toNatClampNeg (x3 + 3))) h9) (gV kt4_198 kt4_199 kt4_200 kt1_11 kt4_201) hdV_X9_from rfl rfl ⟨Nat.le_of_ble_eq_true rfl, Nat.le_of_ble_eq_true rfl⟩ rfl hl.1 rfl (Nat.le_of_ble_eq_true rfl) dL_law_408 (fun H locs w => ?_)
  refine lv_icmp_eq (tgt := 951) hx hb dL_law_411 (by decide) (fun _ => ?_) (fun c => absurd rfl c)
  exact ih _ _ _ _ _ _ H locs ls hRel w hl
set_option maxHeartbeats 4000000 in
set_option maxRecDepth 100000 in
theorem law_8 {p : Program} {l : Launch} {e : Env} {s : State} {m : MethodId} {below : List Frame} {meth : Method} {c : Code} {D : va_G} {ca cb : Nat → ClassId} {ak av ad bd : Nat → Nat} {b L : Nat} {xs : Nat → Int32} (hL : L ≤ 2560) (C0 : lw_At p s m meth c b L xs) (B : LB p m c s #[Value.ref b] D ca cb ak av (fun q : Nat => s.heap.size ≤ q)) {i : Nat} {x3 : Int32} (ex3 : x3 = nI i) (hi : i + 5 ≤ L) (ih : ∀ (fi : Nat → Int32) (fl : Nat → Int64) (ar : Nat → Nat → Int32) (gi : Nat → Int32) (gl : Nat → Int64) (br : Nat → Nat → Int32) (H : Heap) (locs : List Loc) (ls : Array Slot), Rel fi fl ar gi gl br → LW D (fun q : Nat => s.heap.size ≤ q) s (wC ad ca fi fl ar ++ wM bd cb gi gl br) H locs → lv_has ls 4 [(0, .ref b), (1, .ref (ad 0)), (2, .ref (bd 0)), (3, .int x3)] → W p l e room_1 s m #[Value.ref b] below meth c H locs 25 7506 (lw_Z below #[Value.ref b] s) (F0 m 951 ls [])) {fi : Nat → Int32} {fl : Nat → Int64} {ar : Nat → Nat → Int32} {gi : Nat → Int32} {gl : Nat → Int64} {br : Nat → Nat → Int32} {H : Heap} {locs : List Loc} {ls : Array Slot} (hRel : Rel fi fl ar gi gl br) (w : LW D (fun q : Nat => s.heap.size ≤ q) s (wC ad ca fi fl ar ++ wM bd cb gi gl br) H locs) (hl : lv_has ls 4 [(0, .ref b), (1, .ref (ad 0)), (2, .ref (bd 0)), (3, .int x3)]) : W p l e room_1 s m #[Value.ref b] below meth c H locs 25 7506 (lw_Z below #[Value.ref b] s) (F0 m 416 ls []) := by
  obtain ⟨hx, hb, hr, hml, hown, hts0, hX, hbl, hlocks, hgv⟩ := C0
  have hts := B.1.2.2.2.2
  have hbA : ¬ (fun q : Nat => s.heap.size ≤ q) b := Nat.not_le.mpr hbl
  have hin1 : vp_in (x3 + 1) L := by rw [ex3]; exact (show vp_in (nI i + nI 1) L by rw [nI_add]; exact vp_in_nI (by omega) (by omega))
  have hin2 : vp_in (x3 + 2) L := by rw [ex3]; exact (show vp_in (nI i + nI 2) L by rw [nI_add]; exact vp_in_nI (by omega) (by omega))
  have hin3 : vp_in (x3 + 3) L := by rw [ex3]; exact (show vp_in (nI i + nI 3) L by rw [nI_add]; exact vp_in_nI (by omega) (by omega))
  have hin4 : vp_in (x3 + 4) L := by rw [ex3]; exact (show vp_in (nI i + nI 4) L by rw [nI_add]; exact vp_in_nI (by omega) (by omega))
  refine lv_aload_n hx hb dL_law_416 rfl (lv_at hl 1 rfl) ?_
  refine lv_aload_n hx hb dL_law_417 rfl (lv_at hl 0 rfl) ?_
  refine lv_iload_n hx hb dL_law_418 rfl (lv_at hl 3 rfl) ?_
  refine lv_iconst (v := 1) hx hb dL_law_419 (by decide) ?_
  refine lv_iadd (x := x3) (y := 1) hx hb dL_law_420 ?_
  refine va_sld hx hb hX hbl hbA w.2.2 hin1 dL_law_421 ?_
  refine lv_aload_n hx hb dL_law_422 rfl (lv_at hl 0 rfl) ?_
  refine lv_iload_n hx hb dL_law_423 rfl (lv_at hl 3 rfl) ?_
  refine lv_iconst (v := 2) hx hb dL_law_424 (by decide) ?_
  refine lv_iadd (x := x3) (y := 2) hx hb dL_law_425 ?_
  refine va_sld hx hb hX hbl hbA w.2.2 hin2 dL_law_426 ?_
  obtain ⟨r, fi', ar', h8, h9, hRel⟩ := st_helped hRel (xs (Int32.toNatClampNeg (x3 + 1))) (xs (Int32.toNatClampNeg (x3 + 2)))
  refine lawCI (As := [.int (xs (Int32.toNatClampNeg (x3 + 1))), .int (xs (Int32.toNatClampNeg (x3 + 2)))]) (rest := []) B w (c_X8_helped l D ca ak av ad fi fl ar (xs (Int32.toNatClampNeg (x3 + 1))) (xs (Int32.toNatClampNeg (x3 + 2))) h8) (gV kt3_18 kt3_19 kt3_20 kt1_1 kt3_21) hdV_X8_helped rfl rfl ⟨Nat.le_of_ble_eq_true rfl, Nat.le_of_ble_eq_true rfl⟩ rfl hl.1 rfl (Nat.le_of_ble_eq_true rfl) dL_law_427 (fun H locs w => ?_)
  refine lv_aload_n hx hb dL_law_430 rfl (lv_at hl 2 rfl) ?_
  refine lv_aload_n hx hb dL_law_431 rfl (lv_at hl 0 rfl) ?_
  refine lv_iload_n hx hb dL_law_432 rfl (lv_at hl 3 rfl) ?_
  refine lv_iconst (v := 1) hx hb dL_law_433 (by decide) ?_
  refine lv_iadd (x := x3) (y := 1) hx hb dL_law_434 ?_
  refine va_sld hx hb hX hbl hbA w.2.2 hin1 dL_law_435 ?_
  refine lv_aload_n hx hb dL_law_436 rfl (lv_at hl 0 rfl) ?_
  refine lv_iload_n hx hb dL_law_437 rfl (lv_at hl 3 rfl) ?_
  refine lv_iconst (v := 2) hx hb dL_law_438 (by decide) ?_
  refine lv_iadd (x := x3) (y := 2) hx hb dL_law_439 ?_
  refine va_sld hx hb hX hbl hbA w.2.2 hin2 dL_law_440 ?_
  refine lawMI (As := [.int (xs (Int32.toNatClampNeg (x3 + 1))), .int (xs (Int32.toNatClampNeg (x3 + 2)))]) (rest := [.int r]) B w (c_X9_helped l D cb ak av bd gi gl br (xs (Int32.toNatClampNeg (x3 + 1))) (xs (Int32.toNatClampNeg (x3 + 2))) h9) (gV kt4_207 kt4_208 kt4_209 kt1_11 kt4_210) hdV_X9_helped rfl rfl ⟨Nat.le_of_ble_eq_true rfl, Nat.le_of_ble_eq_true rfl⟩ rfl hl.1 rfl (Nat.le_of_ble_eq_true rfl) dL_law_441 (fun H locs w => ?_)
  refine lv_icmp_eq (tgt := 951) hx hb dL_law_444 (by decide) (fun _ => ?_) (fun c => absurd rfl c)
  exact ih _ _ _ _ _ _ H locs ls hRel w hl
set_option maxHeartbeats 4000000 in
set_option maxRecDepth 100000 in
theorem law_9 {p : Program} {l : Launch} {e : Env} {s : State} {m : MethodId} {below : List Frame} {meth : Method} {c : Code} {D : va_G} {ca cb : Nat → ClassId} {ak av ad bd : Nat → Nat} {b L : Nat} {xs : Nat → Int32} (hL : L ≤ 2560) (C0 : lw_At p s m meth c b L xs) (B : LB p m c s #[Value.ref b] D ca cb ak av (fun q : Nat => s.heap.size ≤ q)) {i : Nat} {x3 : Int32} (ex3 : x3 = nI i) (hi : i + 5 ≤ L) (ih : ∀ (fi : Nat → Int32) (fl : Nat → Int64) (ar : Nat → Nat → Int32) (gi : Nat → Int32) (gl : Nat → Int64) (br : Nat → Nat → Int32) (H : Heap) (locs : List Loc) (ls : Array Slot), Rel fi fl ar gi gl br → LW D (fun q : Nat => s.heap.size ≤ q) s (wC ad ca fi fl ar ++ wM bd cb gi gl br) H locs → lv_has ls 4 [(0, .ref b), (1, .ref (ad 0)), (2, .ref (bd 0)), (3, .int x3)] → W p l e room_1 s m #[Value.ref b] below meth c H locs 25 7506 (lw_Z below #[Value.ref b] s) (F0 m 951 ls [])) {fi : Nat → Int32} {fl : Nat → Int64} {ar : Nat → Nat → Int32} {gi : Nat → Int32} {gl : Nat → Int64} {br : Nat → Nat → Int32} {H : Heap} {locs : List Loc} {ls : Array Slot} (hRel : Rel fi fl ar gi gl br) (w : LW D (fun q : Nat => s.heap.size ≤ q) s (wC ad ca fi fl ar ++ wM bd cb gi gl br) H locs) (hl : lv_has ls 4 [(0, .ref b), (1, .ref (ad 0)), (2, .ref (bd 0)), (3, .int x3)]) : W p l e room_1 s m #[Value.ref b] below meth c H locs 25 7506 (lw_Z below #[Value.ref b] s) (F0 m 449 ls []) := by
  obtain ⟨hx, hb, hr, hml, hown, hts0, hX, hbl, hlocks, hgv⟩ := C0
  have hts := B.1.2.2.2.2
  have hbA : ¬ (fun q : Nat => s.heap.size ≤ q) b := Nat.not_le.mpr hbl
  have hin1 : vp_in (x3 + 1) L := by rw [ex3]; exact (show vp_in (nI i + nI 1) L by rw [nI_add]; exact vp_in_nI (by omega) (by omega))
  have hin2 : vp_in (x3 + 2) L := by rw [ex3]; exact (show vp_in (nI i + nI 2) L by rw [nI_add]; exact vp_in_nI (by omega) (by omega))
  have hin3 : vp_in (x3 + 3) L := by rw [ex3]; exact (show vp_in (nI i + nI 3) L by rw [nI_add]; exact vp_in_nI (by omega) (by omega))
  have hin4 : vp_in (x3 + 4) L := by rw [ex3]; exact (show vp_in (nI i + nI 4) L by rw [nI_add]; exact vp_in_nI (by omega) (by omega))
  refine lv_aload_n hx hb dL_law_449 rfl (lv_at hl 1 rfl) ?_
  refine lv_aload_n hx hb dL_law_450 rfl (lv_at hl 0 rfl) ?_
  refine lv_iload_n hx hb dL_law_451 rfl (lv_at hl 3 rfl) ?_
  refine lv_iconst (v := 1) hx hb dL_law_452 (by decide) ?_
  refine lv_iadd (x := x3) (y := 1) hx hb dL_law_453 ?_
  refine va_sld hx hb hX hbl hbA w.2.2 hin1 dL_law_454 ?_
  refine lv_aload_n hx hb dL_law_455 rfl (lv_at hl 0 rfl) ?_
  refine lv_iload_n hx hb dL_law_456 rfl (lv_at hl 3 rfl) ?_
  refine lv_iconst (v := 2) hx hb dL_law_457 (by decide) ?_
  refine lv_iadd (x := x3) (y := 2) hx hb dL_law_458 ?_
  refine va_sld hx hb hX hbl hbA w.2.2 hin2 dL_law_459 ?_
  obtain ⟨r, fi', ar', h8, h9, hRel⟩ := st_fit hRel (xs (Int32.toNatClampNeg (x3 + 1))) (xs (Int32.toNatClampNeg (x3 + 2)))
  refine lawCI (As := [.int (xs (Int32.toNatClampNeg (x3 + 1))), .int (xs (Int32.toNatClampNeg (x3 + 2)))]) (rest := []) B w (c_X8_fit l D ca ak av ad fi fl ar (xs (Int32.toNatClampNeg (x3 + 1))) (xs (Int32.toNatClampNeg (x3 + 2))) h8) (gV kt3_27 kt3_28 kt3_29 kt1_1 kt3_30) hdV_X8_fit rfl rfl ⟨Nat.le_of_ble_eq_true rfl, Nat.le_of_ble_eq_true rfl⟩ rfl hl.1 rfl (Nat.le_of_ble_eq_true rfl) dL_law_460 (fun H locs w => ?_)
  refine lv_aload_n hx hb dL_law_463 rfl (lv_at hl 2 rfl) ?_
  refine lv_aload_n hx hb dL_law_464 rfl (lv_at hl 0 rfl) ?_
  refine lv_iload_n hx hb dL_law_465 rfl (lv_at hl 3 rfl) ?_
  refine lv_iconst (v := 1) hx hb dL_law_466 (by decide) ?_
  refine lv_iadd (x := x3) (y := 1) hx hb dL_law_467 ?_
  refine va_sld hx hb hX hbl hbA w.2.2 hin1 dL_law_468 ?_
  refine lv_aload_n hx hb dL_law_469 rfl (lv_at hl 0 rfl) ?_
  refine lv_iload_n hx hb dL_law_470 rfl (lv_at hl 3 rfl) ?_
  refine lv_iconst (v := 2) hx hb dL_law_471 (by decide) ?_
  refine lv_iadd (x := x3) (y := 2) hx hb dL_law_472 ?_
  refine va_sld hx hb hX hbl hbA w.2.2 hin2 dL_law_473 ?_
  refine lawMI (As := [.int (xs (Int32.toNatClampNeg (x3 + 1))), .int (xs (Int32.toNatClampNeg (x3 + 2)))]) (rest := [.int r]) B w (c_X9_fit l D cb ak av bd gi gl br (xs (Int32.toNatClampNeg (x3 + 1))) (xs (Int32.toNatClampNeg (x3 + 2))) h9) (gV kt4_215 kt4_216 kt4_217 kt1_11 kt4_218) hdV_X9_fit rfl rfl ⟨Nat.le_of_ble_eq_true rfl, Nat.le_of_ble_eq_true rfl⟩ rfl hl.1 rfl (Nat.le_of_ble_eq_true rfl) dL_law_474 (fun H locs w => ?_)
  refine lv_icmp_eq (tgt := 951) hx hb dL_law_477 (by decide) (fun _ => ?_) (fun c => absurd rfl c)
  exact ih _ _ _ _ _ _ H locs ls hRel w hl
set_option maxHeartbeats 4000000 in
set_option maxRecDepth 100000 in
theorem law_10 {p : Program} {l : Launch} {e : Env} {s : State} {m : MethodId} {below : List Frame} {meth : Method} {c : Code} {D : va_G} {ca cb : Nat → ClassId} {ak av ad bd : Nat → Nat} {b L : Nat} {xs : Nat → Int32} (hL : L ≤ 2560) (C0 : lw_At p s m meth c b L xs) (B : LB p m c s #[Value.ref b] D ca cb ak av (fun q : Nat => s.heap.size ≤ q)) {i : Nat} {x3 : Int32} (ex3 : x3 = nI i) (hi : i + 5 ≤ L) (ih : ∀ (fi : Nat → Int32) (fl : Nat → Int64) (ar : Nat → Nat → Int32) (gi : Nat → Int32) (gl : Nat → Int64) (br : Nat → Nat → Int32) (H : Heap) (locs : List Loc) (ls : Array Slot), Rel fi fl ar gi gl br → LW D (fun q : Nat => s.heap.size ≤ q) s (wC ad ca fi fl ar ++ wM bd cb gi gl br) H locs → lv_has ls 4 [(0, .ref b), (1, .ref (ad 0)), (2, .ref (bd 0)), (3, .int x3)] → W p l e room_1 s m #[Value.ref b] below meth c H locs 25 7506 (lw_Z below #[Value.ref b] s) (F0 m 951 ls [])) {fi : Nat → Int32} {fl : Nat → Int64} {ar : Nat → Nat → Int32} {gi : Nat → Int32} {gl : Nat → Int64} {br : Nat → Nat → Int32} {H : Heap} {locs : List Loc} {ls : Array Slot} (hRel : Rel fi fl ar gi gl br) (w : LW D (fun q : Nat => s.heap.size ≤ q) s (wC ad ca fi fl ar ++ wM bd cb gi gl br) H locs) (hl : lv_has ls 4 [(0, .ref b), (1, .ref (ad 0)), (2, .ref (bd 0)), (3, .int x3)]) : W p l e room_1 s m #[Value.ref b] below meth c H locs 25 7506 (lw_Z below #[Value.ref b] s) (F0 m 482 ls []) := by
  obtain ⟨hx, hb, hr, hml, hown, hts0, hX, hbl, hlocks, hgv⟩ := C0
  have hts := B.1.2.2.2.2
  have hbA : ¬ (fun q : Nat => s.heap.size ≤ q) b := Nat.not_le.mpr hbl
  have hin1 : vp_in (x3 + 1) L := by rw [ex3]; exact (show vp_in (nI i + nI 1) L by rw [nI_add]; exact vp_in_nI (by omega) (by omega))
  have hin2 : vp_in (x3 + 2) L := by rw [ex3]; exact (show vp_in (nI i + nI 2) L by rw [nI_add]; exact vp_in_nI (by omega) (by omega))
  have hin3 : vp_in (x3 + 3) L := by rw [ex3]; exact (show vp_in (nI i + nI 3) L by rw [nI_add]; exact vp_in_nI (by omega) (by omega))
  have hin4 : vp_in (x3 + 4) L := by rw [ex3]; exact (show vp_in (nI i + nI 4) L by rw [nI_add]; exact vp_in_nI (by omega) (by omega))
  refine lv_aload_n hx hb dL_law_482 rfl (lv_at hl 1 rfl) ?_
  refine lv_aload_n hx hb dL_law_483 rfl (lv_at hl 0 rfl) ?_
  refine lv_iload_n hx hb dL_law_484 rfl (lv_at hl 3 rfl) ?_
  refine lv_iconst (v := 1) hx hb dL_law_485 (by decide) ?_
  refine lv_iadd (x := x3) (y := 1) hx hb dL_law_486 ?_
  refine va_sld hx hb hX hbl hbA w.2.2 hin1 dL_law_487 ?_
  refine lv_aload_n hx hb dL_law_488 rfl (lv_at hl 0 rfl) ?_
  refine lv_iload_n hx hb dL_law_489 rfl (lv_at hl 3 rfl) ?_
  refine lv_iconst (v := 2) hx hb dL_law_490 (by decide) ?_
  refine lv_iadd (x := x3) (y := 2) hx hb dL_law_491 ?_
  refine va_sld hx hb hX hbl hbA w.2.2 hin2 dL_law_492 ?_
  refine lv_aload_n hx hb dL_law_493 rfl (lv_at hl 0 rfl) ?_
  refine lv_iload_n hx hb dL_law_494 rfl (lv_at hl 3 rfl) ?_
  refine lv_iconst (v := 3) hx hb dL_law_495 (by decide) ?_
  refine lv_iadd (x := x3) (y := 3) hx hb dL_law_496 ?_
  refine va_sld hx hb hX hbl hbA w.2.2 hin3 dL_law_497 ?_
  refine lv_aload_n hx hb dL_law_498 rfl (lv_at hl 0 rfl) ?_
  refine lv_iload_n hx hb dL_law_499 rfl (lv_at hl 3 rfl) ?_
  refine lv_iconst (v := 4) hx hb dL_law_500 (by decide) ?_
  refine lv_iadd (x := x3) (y := 4) hx hb dL_law_501 ?_
  refine va_sld hx hb hX hbl hbA w.2.2 hin4 dL_law_502 ?_
  obtain ⟨r, fi', fl', ar', gl', h8, h9, hRel⟩ := st_other hRel (xs (Int32.toNatClampNeg (x3 + 1))) (xs (Int32.toNatClampNeg (x3 + 2))) (xs (Int32.toNatClampNeg (x3 + 3))) (xs (Int32.toNatClampNeg (x3 + 4)))
  refine lawCL (As := [.int (xs (Int32.toNatClampNeg (x3 + 1))), .int (xs (Int32.toNatClampNeg (x3 + 2))), .int (xs (Int32.toNatClampNeg (x3 + 3))), .int (xs (Int32.toNatClampNeg (x3 + 4)))]) (rest := []) B w (c_X8_other l D ca ak av ad fi fl ar (xs (Int32.toNatClampNeg (x3 + 1))) (xs (Int32.toNatClampNeg (x3 + 2))) (xs (Int32.toNatClampNeg (x3 + 3))) (xs (Int32.toNatClampNeg (x3 + 4))) h8) (gV kt3_31 kt3_32 kt3_33 kt1_1 kt3_34) hdV_X8_other rfl rfl ⟨Nat.le_of_ble_eq_true rfl, Nat.le_of_ble_eq_true rfl⟩ rfl hl.1 rfl (Nat.le_of_ble_eq_true rfl) dL_law_503 (fun H locs w => ?_)
  refine lv_aload_n hx hb dL_law_506 rfl (lv_at hl 2 rfl) ?_
  refine lv_aload_n hx hb dL_law_507 rfl (lv_at hl 0 rfl) ?_
  refine lv_iload_n hx hb dL_law_508 rfl (lv_at hl 3 rfl) ?_
  refine lv_iconst (v := 1) hx hb dL_law_509 (by decide) ?_
  refine lv_iadd (x := x3) (y := 1) hx hb dL_law_510 ?_
  refine va_sld hx hb hX hbl hbA w.2.2 hin1 dL_law_511 ?_
  refine lv_aload_n hx hb dL_law_512 rfl (lv_at hl 0 rfl) ?_
  refine lv_iload_n hx hb dL_law_513 rfl (lv_at hl 3 rfl) ?_
  refine lv_iconst (v := 2) hx hb dL_law_514 (by decide) ?_
  refine lv_iadd (x := x3) (y := 2) hx hb dL_law_515 ?_
  refine va_sld hx hb hX hbl hbA w.2.2 hin2 dL_law_516 ?_
  refine lv_aload_n hx hb dL_law_517 rfl (lv_at hl 0 rfl) ?_
  refine lv_iload_n hx hb dL_law_518 rfl (lv_at hl 3 rfl) ?_
  refine lv_iconst (v := 3) hx hb dL_law_519 (by decide) ?_
  refine lv_iadd (x := x3) (y := 3) hx hb dL_law_520 ?_
  refine va_sld hx hb hX hbl hbA w.2.2 hin3 dL_law_521 ?_
  refine lv_aload_n hx hb dL_law_522 rfl (lv_at hl 0 rfl) ?_
  refine lv_iload_n hx hb dL_law_523 rfl (lv_at hl 3 rfl) ?_
  refine lv_iconst (v := 4) hx hb dL_law_524 (by decide) ?_
  refine lv_iadd (x := x3) (y := 4) hx hb dL_law_525 ?_
  refine va_sld hx hb hX hbl hbA w.2.2 hin4 dL_law_526 ?_
  refine lawML (As := [.int (xs (Int32.toNatClampNeg (x3 + 1))), .int (xs (Int32.toNatClampNeg (x3 + 2))), .int (xs (Int32.toNatClampNeg (x3 + 3))), .int (xs (Int32.toNatClampNeg (x3 + 4)))]) (rest := [.long r]) B w (c_X9_other l D cb ak av bd gi gl br (xs (Int32.toNatClampNeg (x3 + 1))) (xs (Int32.toNatClampNeg (x3 + 2))) (xs (Int32.toNatClampNeg (x3 + 3))) (xs (Int32.toNatClampNeg (x3 + 4))) h9) (gV kt4_219 kt4_220 kt4_221 kt1_11 kt4_222) hdV_X9_other rfl rfl ⟨Nat.le_of_ble_eq_true rfl, Nat.le_of_ble_eq_true rfl⟩ rfl hl.1 rfl (Nat.le_of_ble_eq_true rfl) dL_law_527 (fun H locs w => ?_)
  refine W.lcmp hx hb dL_law_530 ?_
  refine lv_if_eq (tgt := 951) hx hb dL_law_531 (by decide) (fun _ => ?_) (fun c => absurd ((lg_cmp_eq r r).mpr rfl) c)
  exact ih _ _ _ _ _ _ H locs ls hRel w hl
set_option maxHeartbeats 4000000 in
set_option maxRecDepth 100000 in
theorem law_11 {p : Program} {l : Launch} {e : Env} {s : State} {m : MethodId} {below : List Frame} {meth : Method} {c : Code} {D : va_G} {ca cb : Nat → ClassId} {ak av ad bd : Nat → Nat} {b L : Nat} {xs : Nat → Int32} (hL : L ≤ 2560) (C0 : lw_At p s m meth c b L xs) (B : LB p m c s #[Value.ref b] D ca cb ak av (fun q : Nat => s.heap.size ≤ q)) {i : Nat} {x3 : Int32} (ex3 : x3 = nI i) (hi : i + 5 ≤ L) (ih : ∀ (fi : Nat → Int32) (fl : Nat → Int64) (ar : Nat → Nat → Int32) (gi : Nat → Int32) (gl : Nat → Int64) (br : Nat → Nat → Int32) (H : Heap) (locs : List Loc) (ls : Array Slot), Rel fi fl ar gi gl br → LW D (fun q : Nat => s.heap.size ≤ q) s (wC ad ca fi fl ar ++ wM bd cb gi gl br) H locs → lv_has ls 4 [(0, .ref b), (1, .ref (ad 0)), (2, .ref (bd 0)), (3, .int x3)] → W p l e room_1 s m #[Value.ref b] below meth c H locs 25 7506 (lw_Z below #[Value.ref b] s) (F0 m 951 ls [])) {fi : Nat → Int32} {fl : Nat → Int64} {ar : Nat → Nat → Int32} {gi : Nat → Int32} {gl : Nat → Int64} {br : Nat → Nat → Int32} {H : Heap} {locs : List Loc} {ls : Array Slot} (hRel : Rel fi fl ar gi gl br) (w : LW D (fun q : Nat => s.heap.size ≤ q) s (wC ad ca fi fl ar ++ wM bd cb gi gl br) H locs) (hl : lv_has ls 4 [(0, .ref b), (1, .ref (ad 0)), (2, .ref (bd 0)), (3, .int x3)]) : W p l e room_1 s m #[Value.ref b] below meth c H locs 25 7506 (lw_Z below #[Value.ref b] s) (F0 m 536 ls []) := by
  obtain ⟨hx, hb, hr, hml, hown, hts0, hX, hbl, hlocks, hgv⟩ := C0
  have hts := B.1.2.2.2.2
  have hbA : ¬ (fun q : Nat => s.heap.size ≤ q) b := Nat.not_le.mpr hbl
  have hin1 : vp_in (x3 + 1) L := by rw [ex3]; exact (show vp_in (nI i + nI 1) L by rw [nI_add]; exact vp_in_nI (by omega) (by omega))
  have hin2 : vp_in (x3 + 2) L := by rw [ex3]; exact (show vp_in (nI i + nI 2) L by rw [nI_add]; exact vp_in_nI (by omega) (by omega))
  have hin3 : vp_in (x3 + 3) L := by rw [ex3]; exact (show vp_in (nI i + nI 3) L by rw [nI_add]; exact vp_in_nI (by omega) (by omega))
  have hin4 : vp_in (x3 + 4) L := by rw [ex3]; exact (show vp_in (nI i + nI 4) L by rw [nI_add]; exact vp_in_nI (by omega) (by omega))
  refine lv_aload_n hx hb dL_law_536 rfl (lv_at hl 1 rfl) ?_
  refine lv_aload_n hx hb dL_law_537 rfl (lv_at hl 0 rfl) ?_
  refine lv_iload_n hx hb dL_law_538 rfl (lv_at hl 3 rfl) ?_
  refine lv_iconst (v := 1) hx hb dL_law_539 (by decide) ?_
  refine lv_iadd (x := x3) (y := 1) hx hb dL_law_540 ?_
  refine va_sld hx hb hX hbl hbA w.2.2 hin1 dL_law_541 ?_
  refine lv_aload_n hx hb dL_law_542 rfl (lv_at hl 0 rfl) ?_
  refine lv_iload_n hx hb dL_law_543 rfl (lv_at hl 3 rfl) ?_
  refine lv_iconst (v := 2) hx hb dL_law_544 (by decide) ?_
  refine lv_iadd (x := x3) (y := 2) hx hb dL_law_545 ?_
  refine va_sld hx hb hX hbl hbA w.2.2 hin2 dL_law_546 ?_
  refine lv_aload_n hx hb dL_law_547 rfl (lv_at hl 0 rfl) ?_
  refine lv_iload_n hx hb dL_law_548 rfl (lv_at hl 3 rfl) ?_
  refine lv_iconst (v := 3) hx hb dL_law_549 (by decide) ?_
  refine lv_iadd (x := x3) (y := 3) hx hb dL_law_550 ?_
  refine va_sld hx hb hX hbl hbA w.2.2 hin3 dL_law_551 ?_
  obtain ⟨r, fi', fl', ar', gl', h8, h9, hRel⟩ := st_gain hRel (xs (Int32.toNatClampNeg (x3 + 1))) (xs (Int32.toNatClampNeg (x3 + 2))) (xs (Int32.toNatClampNeg (x3 + 3)))
  refine lawCI (As := [.int (xs (Int32.toNatClampNeg (x3 + 1))), .int (xs (Int32.toNatClampNeg (x3 + 2))), .int (xs (Int32.toNatClampNeg (x3 + 3)))]) (rest := []) B w (c_X8_gain l D ca ak av ad fi fl ar (xs (Int32.toNatClampNeg (x3 + 1))) (xs (Int32.toNatClampNeg (x3 + 2))) (xs (Int32.toNatClampNeg (x3 + 3))) h8) (gV kt3_70 kt3_71 kt3_72 kt1_1 kt3_73) hdV_X8_gain rfl rfl ⟨Nat.le_of_ble_eq_true rfl, Nat.le_of_ble_eq_true rfl⟩ rfl hl.1 rfl (Nat.le_of_ble_eq_true rfl) dL_law_552 (fun H locs w => ?_)
  refine lv_aload_n hx hb dL_law_555 rfl (lv_at hl 2 rfl) ?_
  refine lv_aload_n hx hb dL_law_556 rfl (lv_at hl 0 rfl) ?_
  refine lv_iload_n hx hb dL_law_557 rfl (lv_at hl 3 rfl) ?_
  refine lv_iconst (v := 1) hx hb dL_law_558 (by decide) ?_
  refine lv_iadd (x := x3) (y := 1) hx hb dL_law_559 ?_
  refine va_sld hx hb hX hbl hbA w.2.2 hin1 dL_law_560 ?_
  refine lv_aload_n hx hb dL_law_561 rfl (lv_at hl 0 rfl) ?_
  refine lv_iload_n hx hb dL_law_562 rfl (lv_at hl 3 rfl) ?_
  refine lv_iconst (v := 2) hx hb dL_law_563 (by decide) ?_
  refine lv_iadd (x := x3) (y := 2) hx hb dL_law_564 ?_
  refine va_sld hx hb hX hbl hbA w.2.2 hin2 dL_law_565 ?_
  refine lv_aload_n hx hb dL_law_566 rfl (lv_at hl 0 rfl) ?_
  refine lv_iload_n hx hb dL_law_567 rfl (lv_at hl 3 rfl) ?_
  refine lv_iconst (v := 3) hx hb dL_law_568 (by decide) ?_
  refine lv_iadd (x := x3) (y := 3) hx hb dL_law_569 ?_
  refine va_sld hx hb hX hbl hbA w.2.2 hin3 dL_law_570 ?_
  refine lawMI (As := [.int (xs (Int32.toNatClampNeg (x3 + 1))), .int (xs (Int32.toNatClampNeg (x3 + 2))), .int (xs (Int32.toNatClampNeg (x3 + 3)))]) (rest := [.int r]) B w (c_X9_gain l D cb ak av bd gi gl br (xs (Int32.toNatClampNeg (x3 + 1))) (xs (Int32.toNatClampNeg (x3 + 2))) (xs (Int32.toNatClampNeg (x3 + 3))) h9) (gV kt4_234 kt4_235 kt4_236 kt1_11 kt4_237) hdV_X9_gain rfl rfl ⟨Nat.le_of_ble_eq_true rfl, Nat.le_of_ble_eq_true rfl⟩ rfl hl.1 rfl (Nat.le_of_ble_eq_true rfl) dL_law_571 (fun H locs w => ?_)
  refine lv_icmp_eq (tgt := 951) hx hb dL_law_574 (by decide) (fun _ => ?_) (fun c => absurd rfl c)
  exact ih _ _ _ _ _ _ H locs ls hRel w hl
set_option maxHeartbeats 4000000 in
set_option maxRecDepth 100000 in
theorem law_12 {p : Program} {l : Launch} {e : Env} {s : State} {m : MethodId} {below : List Frame} {meth : Method} {c : Code} {D : va_G} {ca cb : Nat → ClassId} {ak av ad bd : Nat → Nat} {b L : Nat} {xs : Nat → Int32} (hL : L ≤ 2560) (C0 : lw_At p s m meth c b L xs) (B : LB p m c s #[Value.ref b] D ca cb ak av (fun q : Nat => s.heap.size ≤ q)) {i : Nat} {x3 : Int32} (ex3 : x3 = nI i) (hi : i + 5 ≤ L) (ih : ∀ (fi : Nat → Int32) (fl : Nat → Int64) (ar : Nat → Nat → Int32) (gi : Nat → Int32) (gl : Nat → Int64) (br : Nat → Nat → Int32) (H : Heap) (locs : List Loc) (ls : Array Slot), Rel fi fl ar gi gl br → LW D (fun q : Nat => s.heap.size ≤ q) s (wC ad ca fi fl ar ++ wM bd cb gi gl br) H locs → lv_has ls 4 [(0, .ref b), (1, .ref (ad 0)), (2, .ref (bd 0)), (3, .int x3)] → W p l e room_1 s m #[Value.ref b] below meth c H locs 25 7506 (lw_Z below #[Value.ref b] s) (F0 m 951 ls [])) {fi : Nat → Int32} {fl : Nat → Int64} {ar : Nat → Nat → Int32} {gi : Nat → Int32} {gl : Nat → Int64} {br : Nat → Nat → Int32} {H : Heap} {locs : List Loc} {ls : Array Slot} (hRel : Rel fi fl ar gi gl br) (w : LW D (fun q : Nat => s.heap.size ≤ q) s (wC ad ca fi fl ar ++ wM bd cb gi gl br) H locs) (hl : lv_has ls 4 [(0, .ref b), (1, .ref (ad 0)), (2, .ref (bd 0)), (3, .int x3)]) : W p l e room_1 s m #[Value.ref b] below meth c H locs 25 7506 (lw_Z below #[Value.ref b] s) (F0 m 579 ls []) := by
  obtain ⟨hx, hb, hr, hml, hown, hts0, hX, hbl, hlocks, hgv⟩ := C0
  have hts := B.1.2.2.2.2
  have hbA : ¬ (fun q : Nat => s.heap.size ≤ q) b := Nat.not_le.mpr hbl
  have hin1 : vp_in (x3 + 1) L := by rw [ex3]; exact (show vp_in (nI i + nI 1) L by rw [nI_add]; exact vp_in_nI (by omega) (by omega))
  have hin2 : vp_in (x3 + 2) L := by rw [ex3]; exact (show vp_in (nI i + nI 2) L by rw [nI_add]; exact vp_in_nI (by omega) (by omega))
  have hin3 : vp_in (x3 + 3) L := by rw [ex3]; exact (show vp_in (nI i + nI 3) L by rw [nI_add]; exact vp_in_nI (by omega) (by omega))
  have hin4 : vp_in (x3 + 4) L := by rw [ex3]; exact (show vp_in (nI i + nI 4) L by rw [nI_add]; exact vp_in_nI (by omega) (by omega))
  refine lv_aload_n hx hb dL_law_579 rfl (lv_at hl 1 rfl) ?_
  refine lv_aload_n hx hb dL_law_580 rfl (lv_at hl 0 rfl) ?_
  refine lv_iload_n hx hb dL_law_581 rfl (lv_at hl 3 rfl) ?_
  refine lv_iconst (v := 1) hx hb dL_law_582 (by decide) ?_
  refine lv_iadd (x := x3) (y := 1) hx hb dL_law_583 ?_
  refine va_sld hx hb hX hbl hbA w.2.2 hin1 dL_law_584 ?_
  obtain ⟨r, fi', fl', ar', gi', gl', br', h8, h9, hRel⟩ := st_holds hRel (xs (Int32.toNatClampNeg (x3 + 1)))
  refine lawCI (As := [.int (xs (Int32.toNatClampNeg (x3 + 1)))]) (rest := []) B w (c_X8_holds l D ca ak av ad fi fl ar (xs (Int32.toNatClampNeg (x3 + 1))) h8) (gV kt3_86 kt3_87 kt3_88 kt1_1 kt3_89) hdV_X8_holds rfl rfl ⟨Nat.le_of_ble_eq_true rfl, Nat.le_of_ble_eq_true rfl⟩ rfl hl.1 rfl (Nat.le_of_ble_eq_true rfl) dL_law_585 (fun H locs w => ?_)
  refine lv_aload_n hx hb dL_law_588 rfl (lv_at hl 2 rfl) ?_
  refine lv_aload_n hx hb dL_law_589 rfl (lv_at hl 0 rfl) ?_
  refine lv_iload_n hx hb dL_law_590 rfl (lv_at hl 3 rfl) ?_
  refine lv_iconst (v := 1) hx hb dL_law_591 (by decide) ?_
  refine lv_iadd (x := x3) (y := 1) hx hb dL_law_592 ?_
  refine va_sld hx hb hX hbl hbA w.2.2 hin1 dL_law_593 ?_
  refine lawMI (As := [.int (xs (Int32.toNatClampNeg (x3 + 1)))]) (rest := [.int r]) B w (c_X9_holds l D cb ak av bd gi gl br (xs (Int32.toNatClampNeg (x3 + 1))) h9) (gV kt5_8 kt5_9 kt5_10 kt1_11 kt5_11) hdV_X9_holds rfl rfl ⟨Nat.le_of_ble_eq_true rfl, Nat.le_of_ble_eq_true rfl⟩ rfl hl.1 rfl (Nat.le_of_ble_eq_true rfl) dL_law_594 (fun H locs w => ?_)
  refine lv_icmp_eq (tgt := 951) hx hb dL_law_597 (by decide) (fun _ => ?_) (fun c => absurd rfl c)
  exact ih _ _ _ _ _ _ H locs ls hRel w hl
set_option maxHeartbeats 4000000 in
set_option maxRecDepth 100000 in
theorem law_13 {p : Program} {l : Launch} {e : Env} {s : State} {m : MethodId} {below : List Frame} {meth : Method} {c : Code} {D : va_G} {ca cb : Nat → ClassId} {ak av ad bd : Nat → Nat} {b L : Nat} {xs : Nat → Int32} (hL : L ≤ 2560) (C0 : lw_At p s m meth c b L xs) (B : LB p m c s #[Value.ref b] D ca cb ak av (fun q : Nat => s.heap.size ≤ q)) {i : Nat} {x3 : Int32} (ex3 : x3 = nI i) (hi : i + 5 ≤ L) (ih : ∀ (fi : Nat → Int32) (fl : Nat → Int64) (ar : Nat → Nat → Int32) (gi : Nat → Int32) (gl : Nat → Int64) (br : Nat → Nat → Int32) (H : Heap) (locs : List Loc) (ls : Array Slot), Rel fi fl ar gi gl br → LW D (fun q : Nat => s.heap.size ≤ q) s (wC ad ca fi fl ar ++ wM bd cb gi gl br) H locs → lv_has ls 4 [(0, .ref b), (1, .ref (ad 0)), (2, .ref (bd 0)), (3, .int x3)] → W p l e room_1 s m #[Value.ref b] below meth c H locs 25 7506 (lw_Z below #[Value.ref b] s) (F0 m 951 ls [])) {fi : Nat → Int32} {fl : Nat → Int64} {ar : Nat → Nat → Int32} {gi : Nat → Int32} {gl : Nat → Int64} {br : Nat → Nat → Int32} {H : Heap} {locs : List Loc} {ls : Array Slot} (hRel : Rel fi fl ar gi gl br) (w : LW D (fun q : Nat => s.heap.size ≤ q) s (wC ad ca fi fl ar ++ wM bd cb gi gl br) H locs) (hl : lv_has ls 4 [(0, .ref b), (1, .ref (ad 0)), (2, .ref (bd 0)), (3, .int x3)]) : W p l e room_1 s m #[Value.ref b] below meth c H locs 25 7506 (lw_Z below #[Value.ref b] s) (F0 m 602 ls []) := by
  obtain ⟨hx, hb, hr, hml, hown, hts0, hX, hbl, hlocks, hgv⟩ := C0
  have hts := B.1.2.2.2.2
  have hbA : ¬ (fun q : Nat => s.heap.size ≤ q) b := Nat.not_le.mpr hbl
  have hin1 : vp_in (x3 + 1) L := by rw [ex3]; exact (show vp_in (nI i + nI 1) L by rw [nI_add]; exact vp_in_nI (by omega) (by omega))
  have hin2 : vp_in (x3 + 2) L := by rw [ex3]; exact (show vp_in (nI i + nI 2) L by rw [nI_add]; exact vp_in_nI (by omega) (by omega))
  have hin3 : vp_in (x3 + 3) L := by rw [ex3]; exact (show vp_in (nI i + nI 3) L by rw [nI_add]; exact vp_in_nI (by omega) (by omega))
  have hin4 : vp_in (x3 + 4) L := by rw [ex3]; exact (show vp_in (nI i + nI 4) L by rw [nI_add]; exact vp_in_nI (by omega) (by omega))
  refine lv_aload_n hx hb dL_law_602 rfl (lv_at hl 1 rfl) ?_
  refine lv_aload_n hx hb dL_law_603 rfl (lv_at hl 0 rfl) ?_
  refine lv_iload_n hx hb dL_law_604 rfl (lv_at hl 3 rfl) ?_
  refine lv_iconst (v := 1) hx hb dL_law_605 (by decide) ?_
  refine lv_iadd (x := x3) (y := 1) hx hb dL_law_606 ?_
  refine va_sld hx hb hX hbl hbA w.2.2 hin1 dL_law_607 ?_
  obtain ⟨r, fi', fl', ar', gi', gl', br', h8, h9, hRel⟩ := st_all hRel (xs (Int32.toNatClampNeg (x3 + 1)))
  refine lawCI (As := [.int (xs (Int32.toNatClampNeg (x3 + 1)))]) (rest := []) B w (c_X8_all l D ca ak av ad fi fl ar (xs (Int32.toNatClampNeg (x3 + 1))) h8) (gV kt3_99 kt3_100 kt3_101 kt1_1 kt3_102) hdV_X8_all rfl rfl ⟨Nat.le_of_ble_eq_true rfl, Nat.le_of_ble_eq_true rfl⟩ rfl hl.1 rfl (Nat.le_of_ble_eq_true rfl) dL_law_608 (fun H locs w => ?_)
  refine lv_aload_n hx hb dL_law_611 rfl (lv_at hl 2 rfl) ?_
  refine lv_aload_n hx hb dL_law_612 rfl (lv_at hl 0 rfl) ?_
  refine lv_iload_n hx hb dL_law_613 rfl (lv_at hl 3 rfl) ?_
  refine lv_iconst (v := 1) hx hb dL_law_614 (by decide) ?_
  refine lv_iadd (x := x3) (y := 1) hx hb dL_law_615 ?_
  refine va_sld hx hb hX hbl hbA w.2.2 hin1 dL_law_616 ?_
  refine lawMI (As := [.int (xs (Int32.toNatClampNeg (x3 + 1)))]) (rest := [.int r]) B w (c_X9_all l D cb ak av bd gi gl br (xs (Int32.toNatClampNeg (x3 + 1))) h9) (gV kt5_16 kt5_17 kt5_18 kt1_11 kt5_19) hdV_X9_all rfl rfl ⟨Nat.le_of_ble_eq_true rfl, Nat.le_of_ble_eq_true rfl⟩ rfl hl.1 rfl (Nat.le_of_ble_eq_true rfl) dL_law_617 (fun H locs w => ?_)
  refine lv_icmp_eq (tgt := 951) hx hb dL_law_620 (by decide) (fun _ => ?_) (fun c => absurd rfl c)
  exact ih _ _ _ _ _ _ H locs ls hRel w hl
set_option maxHeartbeats 4000000 in
set_option maxRecDepth 100000 in
theorem law_14 {p : Program} {l : Launch} {e : Env} {s : State} {m : MethodId} {below : List Frame} {meth : Method} {c : Code} {D : va_G} {ca cb : Nat → ClassId} {ak av ad bd : Nat → Nat} {b L : Nat} {xs : Nat → Int32} (hL : L ≤ 2560) (C0 : lw_At p s m meth c b L xs) (B : LB p m c s #[Value.ref b] D ca cb ak av (fun q : Nat => s.heap.size ≤ q)) {i : Nat} {x3 : Int32} (ex3 : x3 = nI i) (hi : i + 5 ≤ L) (ih : ∀ (fi : Nat → Int32) (fl : Nat → Int64) (ar : Nat → Nat → Int32) (gi : Nat → Int32) (gl : Nat → Int64) (br : Nat → Nat → Int32) (H : Heap) (locs : List Loc) (ls : Array Slot), Rel fi fl ar gi gl br → LW D (fun q : Nat => s.heap.size ≤ q) s (wC ad ca fi fl ar ++ wM bd cb gi gl br) H locs → lv_has ls 4 [(0, .ref b), (1, .ref (ad 0)), (2, .ref (bd 0)), (3, .int x3)] → W p l e room_1 s m #[Value.ref b] below meth c H locs 25 7506 (lw_Z below #[Value.ref b] s) (F0 m 951 ls [])) {fi : Nat → Int32} {fl : Nat → Int64} {ar : Nat → Nat → Int32} {gi : Nat → Int32} {gl : Nat → Int64} {br : Nat → Nat → Int32} {H : Heap} {locs : List Loc} {ls : Array Slot} (hRel : Rel fi fl ar gi gl br) (w : LW D (fun q : Nat => s.heap.size ≤ q) s (wC ad ca fi fl ar ++ wM bd cb gi gl br) H locs) (hl : lv_has ls 4 [(0, .ref b), (1, .ref (ad 0)), (2, .ref (bd 0)), (3, .int x3)]) : W p l e room_1 s m #[Value.ref b] below meth c H locs 25 7506 (lw_Z below #[Value.ref b] s) (F0 m 625 ls []) := by
  obtain ⟨hx, hb, hr, hml, hown, hts0, hX, hbl, hlocks, hgv⟩ := C0
  have hts := B.1.2.2.2.2
  have hbA : ¬ (fun q : Nat => s.heap.size ≤ q) b := Nat.not_le.mpr hbl
  have hin1 : vp_in (x3 + 1) L := by rw [ex3]; exact (show vp_in (nI i + nI 1) L by rw [nI_add]; exact vp_in_nI (by omega) (by omega))
  have hin2 : vp_in (x3 + 2) L := by rw [ex3]; exact (show vp_in (nI i + nI 2) L by rw [nI_add]; exact vp_in_nI (by omega) (by omega))
  have hin3 : vp_in (x3 + 3) L := by rw [ex3]; exact (show vp_in (nI i + nI 3) L by rw [nI_add]; exact vp_in_nI (by omega) (by omega))
  have hin4 : vp_in (x3 + 4) L := by rw [ex3]; exact (show vp_in (nI i + nI 4) L by rw [nI_add]; exact vp_in_nI (by omega) (by omega))
  refine lv_aload_n hx hb dL_law_625 rfl (lv_at hl 1 rfl) ?_
  refine lv_aload_n hx hb dL_law_626 rfl (lv_at hl 0 rfl) ?_
  refine lv_iload_n hx hb dL_law_627 rfl (lv_at hl 3 rfl) ?_
  refine lv_iconst (v := 1) hx hb dL_law_628 (by decide) ?_
  refine lv_iadd (x := x3) (y := 1) hx hb dL_law_629 ?_
  refine va_sld hx hb hX hbl hbA w.2.2 hin1 dL_law_630 ?_
  obtain ⟨r, fi', fl', ar', gi', gl', br', h8, h9, hRel⟩ := st_best hRel (xs (Int32.toNatClampNeg (x3 + 1)))
  refine lawCI (As := [.int (xs (Int32.toNatClampNeg (x3 + 1)))]) (rest := []) B w (c_X8_best l D ca ak av ad fi fl ar (xs (Int32.toNatClampNeg (x3 + 1))) h8) (gV kt3_124 kt3_125 kt3_126 kt1_1 kt3_127) hdV_X8_best rfl rfl ⟨Nat.le_of_ble_eq_true rfl, Nat.le_of_ble_eq_true rfl⟩ rfl hl.1 rfl (Nat.le_of_ble_eq_true rfl) dL_law_631 (fun H locs w => ?_)
  refine lv_aload_n hx hb dL_law_634 rfl (lv_at hl 2 rfl) ?_
  refine lv_aload_n hx hb dL_law_635 rfl (lv_at hl 0 rfl) ?_
  refine lv_iload_n hx hb dL_law_636 rfl (lv_at hl 3 rfl) ?_
  refine lv_iconst (v := 1) hx hb dL_law_637 (by decide) ?_
  refine lv_iadd (x := x3) (y := 1) hx hb dL_law_638 ?_
  refine va_sld hx hb hX hbl hbA w.2.2 hin1 dL_law_639 ?_
  refine lawMI (As := [.int (xs (Int32.toNatClampNeg (x3 + 1)))]) (rest := [.int r]) B w (c_X9_best l D cb ak av bd gi gl br (xs (Int32.toNatClampNeg (x3 + 1))) h9) (gV kt5_24 kt5_25 kt5_26 kt1_11 kt5_27) hdV_X9_best rfl rfl ⟨Nat.le_of_ble_eq_true rfl, Nat.le_of_ble_eq_true rfl⟩ rfl hl.1 rfl (Nat.le_of_ble_eq_true rfl) dL_law_640 (fun H locs w => ?_)
  refine lv_icmp_eq (tgt := 951) hx hb dL_law_643 (by decide) (fun _ => ?_) (fun c => absurd rfl c)
  exact ih _ _ _ _ _ _ H locs ls hRel w hl
set_option maxHeartbeats 4000000 in
set_option maxRecDepth 100000 in
theorem law_15 {p : Program} {l : Launch} {e : Env} {s : State} {m : MethodId} {below : List Frame} {meth : Method} {c : Code} {D : va_G} {ca cb : Nat → ClassId} {ak av ad bd : Nat → Nat} {b L : Nat} {xs : Nat → Int32} (hL : L ≤ 2560) (C0 : lw_At p s m meth c b L xs) (B : LB p m c s #[Value.ref b] D ca cb ak av (fun q : Nat => s.heap.size ≤ q)) {i : Nat} {x3 : Int32} (ex3 : x3 = nI i) (hi : i + 5 ≤ L) (ih : ∀ (fi : Nat → Int32) (fl : Nat → Int64) (ar : Nat → Nat → Int32) (gi : Nat → Int32) (gl : Nat → Int64) (br : Nat → Nat → Int32) (H : Heap) (locs : List Loc) (ls : Array Slot), Rel fi fl ar gi gl br → LW D (fun q : Nat => s.heap.size ≤ q) s (wC ad ca fi fl ar ++ wM bd cb gi gl br) H locs → lv_has ls 4 [(0, .ref b), (1, .ref (ad 0)), (2, .ref (bd 0)), (3, .int x3)] → W p l e room_1 s m #[Value.ref b] below meth c H locs 25 7506 (lw_Z below #[Value.ref b] s) (F0 m 951 ls [])) {fi : Nat → Int32} {fl : Nat → Int64} {ar : Nat → Nat → Int32} {gi : Nat → Int32} {gl : Nat → Int64} {br : Nat → Nat → Int32} {H : Heap} {locs : List Loc} {ls : Array Slot} (hRel : Rel fi fl ar gi gl br) (w : LW D (fun q : Nat => s.heap.size ≤ q) s (wC ad ca fi fl ar ++ wM bd cb gi gl br) H locs) (hl : lv_has ls 4 [(0, .ref b), (1, .ref (ad 0)), (2, .ref (bd 0)), (3, .int x3)]) : W p l e room_1 s m #[Value.ref b] below meth c H locs 25 7506 (lw_Z below #[Value.ref b] s) (F0 m 648 ls []) := by
  obtain ⟨hx, hb, hr, hml, hown, hts0, hX, hbl, hlocks, hgv⟩ := C0
  have hts := B.1.2.2.2.2
  have hbA : ¬ (fun q : Nat => s.heap.size ≤ q) b := Nat.not_le.mpr hbl
  have hin1 : vp_in (x3 + 1) L := by rw [ex3]; exact (show vp_in (nI i + nI 1) L by rw [nI_add]; exact vp_in_nI (by omega) (by omega))
  have hin2 : vp_in (x3 + 2) L := by rw [ex3]; exact (show vp_in (nI i + nI 2) L by rw [nI_add]; exact vp_in_nI (by omega) (by omega))
  have hin3 : vp_in (x3 + 3) L := by rw [ex3]; exact (show vp_in (nI i + nI 3) L by rw [nI_add]; exact vp_in_nI (by omega) (by omega))
  have hin4 : vp_in (x3 + 4) L := by rw [ex3]; exact (show vp_in (nI i + nI 4) L by rw [nI_add]; exact vp_in_nI (by omega) (by omega))
  refine lv_aload_n hx hb dL_law_648 rfl (lv_at hl 1 rfl) ?_
  refine lv_aload_n hx hb dL_law_649 rfl (lv_at hl 0 rfl) ?_
  refine lv_iload_n hx hb dL_law_650 rfl (lv_at hl 3 rfl) ?_
  refine lv_iconst (v := 1) hx hb dL_law_651 (by decide) ?_
  refine lv_iadd (x := x3) (y := 1) hx hb dL_law_652 ?_
  refine va_sld hx hb hX hbl hbA w.2.2 hin1 dL_law_653 ?_
  obtain ⟨r, h8, h9, hRel⟩ := st_plain hRel (xs (Int32.toNatClampNeg (x3 + 1)))
  refine lawCI (As := [.int (xs (Int32.toNatClampNeg (x3 + 1)))]) (rest := []) B w (c_X8_plain l D ca ak av ad fi fl ar (xs (Int32.toNatClampNeg (x3 + 1))) h8) (gV kt3_151 kt3_152 kt3_153 kt1_1 kt3_154) hdV_X8_plain rfl rfl ⟨Nat.le_of_ble_eq_true rfl, Nat.le_of_ble_eq_true rfl⟩ rfl hl.1 rfl (Nat.le_of_ble_eq_true rfl) dL_law_654 (fun H locs w => ?_)
  refine lv_aload_n hx hb dL_law_657 rfl (lv_at hl 2 rfl) ?_
  refine lv_aload_n hx hb dL_law_658 rfl (lv_at hl 0 rfl) ?_
  refine lv_iload_n hx hb dL_law_659 rfl (lv_at hl 3 rfl) ?_
  refine lv_iconst (v := 1) hx hb dL_law_660 (by decide) ?_
  refine lv_iadd (x := x3) (y := 1) hx hb dL_law_661 ?_
  refine va_sld hx hb hX hbl hbA w.2.2 hin1 dL_law_662 ?_
  refine lawMI (As := [.int (xs (Int32.toNatClampNeg (x3 + 1)))]) (rest := [.int r]) B w (c_X9_plain l D cb ak av bd gi gl br (xs (Int32.toNatClampNeg (x3 + 1))) h9) (gV kt5_46 kt5_47 kt5_48 kt1_11 kt5_49) hdV_X9_plain rfl rfl ⟨Nat.le_of_ble_eq_true rfl, Nat.le_of_ble_eq_true rfl⟩ rfl hl.1 rfl (Nat.le_of_ble_eq_true rfl) dL_law_663 (fun H locs w => ?_)
  refine lv_icmp_eq (tgt := 951) hx hb dL_law_666 (by decide) (fun _ => ?_) (fun c => absurd rfl c)
  exact ih _ _ _ _ _ _ H locs ls hRel w hl
set_option maxHeartbeats 4000000 in
set_option maxRecDepth 100000 in
theorem law_16 {p : Program} {l : Launch} {e : Env} {s : State} {m : MethodId} {below : List Frame} {meth : Method} {c : Code} {D : va_G} {ca cb : Nat → ClassId} {ak av ad bd : Nat → Nat} {b L : Nat} {xs : Nat → Int32} (hL : L ≤ 2560) (C0 : lw_At p s m meth c b L xs) (B : LB p m c s #[Value.ref b] D ca cb ak av (fun q : Nat => s.heap.size ≤ q)) {i : Nat} {x3 : Int32} (ex3 : x3 = nI i) (hi : i + 5 ≤ L) (ih : ∀ (fi : Nat → Int32) (fl : Nat → Int64) (ar : Nat → Nat → Int32) (gi : Nat → Int32) (gl : Nat → Int64) (br : Nat → Nat → Int32) (H : Heap) (locs : List Loc) (ls : Array Slot), Rel fi fl ar gi gl br → LW D (fun q : Nat => s.heap.size ≤ q) s (wC ad ca fi fl ar ++ wM bd cb gi gl br) H locs → lv_has ls 4 [(0, .ref b), (1, .ref (ad 0)), (2, .ref (bd 0)), (3, .int x3)] → W p l e room_1 s m #[Value.ref b] below meth c H locs 25 7506 (lw_Z below #[Value.ref b] s) (F0 m 951 ls [])) {fi : Nat → Int32} {fl : Nat → Int64} {ar : Nat → Nat → Int32} {gi : Nat → Int32} {gl : Nat → Int64} {br : Nat → Nat → Int32} {H : Heap} {locs : List Loc} {ls : Array Slot} (hRel : Rel fi fl ar gi gl br) (w : LW D (fun q : Nat => s.heap.size ≤ q) s (wC ad ca fi fl ar ++ wM bd cb gi gl br) H locs) (hl : lv_has ls 4 [(0, .ref b), (1, .ref (ad 0)), (2, .ref (bd 0)), (3, .int x3)]) : W p l e room_1 s m #[Value.ref b] below meth c H locs 25 7506 (lw_Z below #[Value.ref b] s) (F0 m 671 ls []) := by
  obtain ⟨hx, hb, hr, hml, hown, hts0, hX, hbl, hlocks, hgv⟩ := C0
  have hts := B.1.2.2.2.2
  have hbA : ¬ (fun q : Nat => s.heap.size ≤ q) b := Nat.not_le.mpr hbl
  have hin1 : vp_in (x3 + 1) L := by rw [ex3]; exact (show vp_in (nI i + nI 1) L by rw [nI_add]; exact vp_in_nI (by omega) (by omega))
  have hin2 : vp_in (x3 + 2) L := by rw [ex3]; exact (show vp_in (nI i + nI 2) L by rw [nI_add]; exact vp_in_nI (by omega) (by omega))
  have hin3 : vp_in (x3 + 3) L := by rw [ex3]; exact (show vp_in (nI i + nI 3) L by rw [nI_add]; exact vp_in_nI (by omega) (by omega))
  have hin4 : vp_in (x3 + 4) L := by rw [ex3]; exact (show vp_in (nI i + nI 4) L by rw [nI_add]; exact vp_in_nI (by omega) (by omega))
  refine lv_aload_n hx hb dL_law_671 rfl (lv_at hl 1 rfl) ?_
  refine lv_aload_n hx hb dL_law_672 rfl (lv_at hl 0 rfl) ?_
  refine lv_iload_n hx hb dL_law_673 rfl (lv_at hl 3 rfl) ?_
  refine lv_iconst (v := 1) hx hb dL_law_674 (by decide) ?_
  refine lv_iadd (x := x3) (y := 1) hx hb dL_law_675 ?_
  refine va_sld hx hb hX hbl hbA w.2.2 hin1 dL_law_676 ?_
  obtain ⟨r, fi', fl', ar', gi', gl', br', h8, h9, hRel⟩ := st_bears hRel (xs (Int32.toNatClampNeg (x3 + 1)))
  refine lawCI (As := [.int (xs (Int32.toNatClampNeg (x3 + 1)))]) (rest := []) B w (c_X8_bears l D ca ak av ad fi fl ar (xs (Int32.toNatClampNeg (x3 + 1))) h8) (gV kt3_156 kt3_157 kt3_158 kt1_1 kt3_159) hdV_X8_bears rfl rfl ⟨Nat.le_of_ble_eq_true rfl, Nat.le_of_ble_eq_true rfl⟩ rfl hl.1 rfl (Nat.le_of_ble_eq_true rfl) dL_law_677 (fun H locs w => ?_)
  refine lv_aload_n hx hb dL_law_680 rfl (lv_at hl 2 rfl) ?_
  refine lv_aload_n hx hb dL_law_681 rfl (lv_at hl 0 rfl) ?_
  refine lv_iload_n hx hb dL_law_682 rfl (lv_at hl 3 rfl) ?_
  refine lv_iconst (v := 1) hx hb dL_law_683 (by decide) ?_
  refine lv_iadd (x := x3) (y := 1) hx hb dL_law_684 ?_
  refine va_sld hx hb hX hbl hbA w.2.2 hin1 dL_law_685 ?_
  refine lawMI (As := [.int (xs (Int32.toNatClampNeg (x3 + 1)))]) (rest := [.int r]) B w (c_X9_bears l D cb ak av bd gi gl br (xs (Int32.toNatClampNeg (x3 + 1))) h9) (gV kt5_50 kt5_51 kt5_52 kt1_11 kt5_53) hdV_X9_bears rfl rfl ⟨Nat.le_of_ble_eq_true rfl, Nat.le_of_ble_eq_true rfl⟩ rfl hl.1 rfl (Nat.le_of_ble_eq_true rfl) dL_law_686 (fun H locs w => ?_)
  refine lv_icmp_eq (tgt := 951) hx hb dL_law_689 (by decide) (fun _ => ?_) (fun c => absurd rfl c)
  exact ih _ _ _ _ _ _ H locs ls hRel w hl
set_option maxHeartbeats 4000000 in
set_option maxRecDepth 100000 in
theorem law_17 {p : Program} {l : Launch} {e : Env} {s : State} {m : MethodId} {below : List Frame} {meth : Method} {c : Code} {D : va_G} {ca cb : Nat → ClassId} {ak av ad bd : Nat → Nat} {b L : Nat} {xs : Nat → Int32} (hL : L ≤ 2560) (C0 : lw_At p s m meth c b L xs) (B : LB p m c s #[Value.ref b] D ca cb ak av (fun q : Nat => s.heap.size ≤ q)) {i : Nat} {x3 : Int32} (ex3 : x3 = nI i) (hi : i + 5 ≤ L) (ih : ∀ (fi : Nat → Int32) (fl : Nat → Int64) (ar : Nat → Nat → Int32) (gi : Nat → Int32) (gl : Nat → Int64) (br : Nat → Nat → Int32) (H : Heap) (locs : List Loc) (ls : Array Slot), Rel fi fl ar gi gl br → LW D (fun q : Nat => s.heap.size ≤ q) s (wC ad ca fi fl ar ++ wM bd cb gi gl br) H locs → lv_has ls 4 [(0, .ref b), (1, .ref (ad 0)), (2, .ref (bd 0)), (3, .int x3)] → W p l e room_1 s m #[Value.ref b] below meth c H locs 25 7506 (lw_Z below #[Value.ref b] s) (F0 m 951 ls [])) {fi : Nat → Int32} {fl : Nat → Int64} {ar : Nat → Nat → Int32} {gi : Nat → Int32} {gl : Nat → Int64} {br : Nat → Nat → Int32} {H : Heap} {locs : List Loc} {ls : Array Slot} (hRel : Rel fi fl ar gi gl br) (w : LW D (fun q : Nat => s.heap.size ≤ q) s (wC ad ca fi fl ar ++ wM bd cb gi gl br) H locs) (hl : lv_has ls 4 [(0, .ref b), (1, .ref (ad 0)), (2, .ref (bd 0)), (3, .int x3)]) : W p l e room_1 s m #[Value.ref b] below meth c H locs 25 7506 (lw_Z below #[Value.ref b] s) (F0 m 694 ls []) := by
  obtain ⟨hx, hb, hr, hml, hown, hts0, hX, hbl, hlocks, hgv⟩ := C0
  have hts := B.1.2.2.2.2
  have hbA : ¬ (fun q : Nat => s.heap.size ≤ q) b := Nat.not_le.mpr hbl
  have hin1 : vp_in (x3 + 1) L := by rw [ex3]; exact (show vp_in (nI i + nI 1) L by rw [nI_add]; exact vp_in_nI (by omega) (by omega))
  have hin2 : vp_in (x3 + 2) L := by rw [ex3]; exact (show vp_in (nI i + nI 2) L by rw [nI_add]; exact vp_in_nI (by omega) (by omega))
  have hin3 : vp_in (x3 + 3) L := by rw [ex3]; exact (show vp_in (nI i + nI 3) L by rw [nI_add]; exact vp_in_nI (by omega) (by omega))
  have hin4 : vp_in (x3 + 4) L := by rw [ex3]; exact (show vp_in (nI i + nI 4) L by rw [nI_add]; exact vp_in_nI (by omega) (by omega))
  refine lv_aload_n hx hb dL_law_694 rfl (lv_at hl 1 rfl) ?_
  refine lv_aload_n hx hb dL_law_695 rfl (lv_at hl 0 rfl) ?_
  refine lv_iload_n hx hb dL_law_696 rfl (lv_at hl 3 rfl) ?_
  refine lv_iconst (v := 1) hx hb dL_law_697 (by decide) ?_
  refine lv_iadd (x := x3) (y := 1) hx hb dL_law_698 ?_
  refine va_sld hx hb hX hbl hbA w.2.2 hin1 dL_law_699 ?_
  obtain ⟨r, h8, h9, hRel⟩ := st_turned hRel (xs (Int32.toNatClampNeg (x3 + 1)))
  refine lawCI (As := [.int (xs (Int32.toNatClampNeg (x3 + 1)))]) (rest := []) B w (c_X8_turned l D ca ak av ad fi fl ar (xs (Int32.toNatClampNeg (x3 + 1))) h8) (gV kt3_161 kt3_162 kt3_163 kt1_1 kt3_164) hdV_X8_turned rfl rfl ⟨Nat.le_of_ble_eq_true rfl, Nat.le_of_ble_eq_true rfl⟩ rfl hl.1 rfl (Nat.le_of_ble_eq_true rfl) dL_law_700 (fun H locs w => ?_)
  refine lv_aload_n hx hb dL_law_703 rfl (lv_at hl 2 rfl) ?_
  refine lv_aload_n hx hb dL_law_704 rfl (lv_at hl 0 rfl) ?_
  refine lv_iload_n hx hb dL_law_705 rfl (lv_at hl 3 rfl) ?_
  refine lv_iconst (v := 1) hx hb dL_law_706 (by decide) ?_
  refine lv_iadd (x := x3) (y := 1) hx hb dL_law_707 ?_
  refine va_sld hx hb hX hbl hbA w.2.2 hin1 dL_law_708 ?_
  refine lawMI (As := [.int (xs (Int32.toNatClampNeg (x3 + 1)))]) (rest := [.int r]) B w (c_X9_turned l D cb ak av bd gi gl br (xs (Int32.toNatClampNeg (x3 + 1))) h9) (gV kt5_54 kt5_55 kt5_56 kt1_11 kt5_57) hdV_X9_turned rfl rfl ⟨Nat.le_of_ble_eq_true rfl, Nat.le_of_ble_eq_true rfl⟩ rfl hl.1 rfl (Nat.le_of_ble_eq_true rfl) dL_law_709 (fun H locs w => ?_)
  refine lv_icmp_eq (tgt := 951) hx hb dL_law_712 (by decide) (fun _ => ?_) (fun c => absurd rfl c)
  exact ih _ _ _ _ _ _ H locs ls hRel w hl
set_option maxHeartbeats 4000000 in
set_option maxRecDepth 100000 in
theorem law_18 {p : Program} {l : Launch} {e : Env} {s : State} {m : MethodId} {below : List Frame} {meth : Method} {c : Code} {D : va_G} {ca cb : Nat → ClassId} {ak av ad bd : Nat → Nat} {b L : Nat} {xs : Nat → Int32} (hL : L ≤ 2560) (C0 : lw_At p s m meth c b L xs) (B : LB p m c s #[Value.ref b] D ca cb ak av (fun q : Nat => s.heap.size ≤ q)) {i : Nat} {x3 : Int32} (ex3 : x3 = nI i) (hi : i + 5 ≤ L) (ih : ∀ (fi : Nat → Int32) (fl : Nat → Int64) (ar : Nat → Nat → Int32) (gi : Nat → Int32) (gl : Nat → Int64) (br : Nat → Nat → Int32) (H : Heap) (locs : List Loc) (ls : Array Slot), Rel fi fl ar gi gl br → LW D (fun q : Nat => s.heap.size ≤ q) s (wC ad ca fi fl ar ++ wM bd cb gi gl br) H locs → lv_has ls 4 [(0, .ref b), (1, .ref (ad 0)), (2, .ref (bd 0)), (3, .int x3)] → W p l e room_1 s m #[Value.ref b] below meth c H locs 25 7506 (lw_Z below #[Value.ref b] s) (F0 m 951 ls [])) {fi : Nat → Int32} {fl : Nat → Int64} {ar : Nat → Nat → Int32} {gi : Nat → Int32} {gl : Nat → Int64} {br : Nat → Nat → Int32} {H : Heap} {locs : List Loc} {ls : Array Slot} (hRel : Rel fi fl ar gi gl br) (w : LW D (fun q : Nat => s.heap.size ≤ q) s (wC ad ca fi fl ar ++ wM bd cb gi gl br) H locs) (hl : lv_has ls 4 [(0, .ref b), (1, .ref (ad 0)), (2, .ref (bd 0)), (3, .int x3)]) : W p l e room_1 s m #[Value.ref b] below meth c H locs 25 7506 (lw_Z below #[Value.ref b] s) (F0 m 717 ls []) := by
  obtain ⟨hx, hb, hr, hml, hown, hts0, hX, hbl, hlocks, hgv⟩ := C0
  have hts := B.1.2.2.2.2
  have hbA : ¬ (fun q : Nat => s.heap.size ≤ q) b := Nat.not_le.mpr hbl
  have hin1 : vp_in (x3 + 1) L := by rw [ex3]; exact (show vp_in (nI i + nI 1) L by rw [nI_add]; exact vp_in_nI (by omega) (by omega))
  have hin2 : vp_in (x3 + 2) L := by rw [ex3]; exact (show vp_in (nI i + nI 2) L by rw [nI_add]; exact vp_in_nI (by omega) (by omega))
  have hin3 : vp_in (x3 + 3) L := by rw [ex3]; exact (show vp_in (nI i + nI 3) L by rw [nI_add]; exact vp_in_nI (by omega) (by omega))
  have hin4 : vp_in (x3 + 4) L := by rw [ex3]; exact (show vp_in (nI i + nI 4) L by rw [nI_add]; exact vp_in_nI (by omega) (by omega))
  refine lv_aload_n hx hb dL_law_717 rfl (lv_at hl 1 rfl) ?_
  obtain ⟨r, fi', fl', ar', gi', gl', br', h8, h9, hRel⟩ := st_kinds hRel 
  refine lawCI (As := []) (rest := []) B w (c_X8_kinds l D ca ak av ad fi fl ar  h8) (gV kt3_168 kt3_169 kt3_170 kt1_1 kt3_171) hdV_X8_kinds rfl rfl ⟨Nat.le_of_ble_eq_true rfl, Nat.le_of_ble_eq_true rfl⟩ rfl hl.1 rfl (Nat.le_of_ble_eq_true rfl) dL_law_718 (fun H locs w => ?_)
  refine lv_aload_n hx hb dL_law_721 rfl (lv_at hl 2 rfl) ?_
  refine lawMI (As := []) (rest := [.int r]) B w (c_X9_kinds l D cb ak av bd gi gl br  h9) (gV kt5_61 kt5_62 kt5_63 kt1_11 kt5_64) hdV_X9_kinds rfl rfl ⟨Nat.le_of_ble_eq_true rfl, Nat.le_of_ble_eq_true rfl⟩ rfl hl.1 rfl (Nat.le_of_ble_eq_true rfl) dL_law_722 (fun H locs w => ?_)
  refine lv_icmp_eq (tgt := 951) hx hb dL_law_725 (by decide) (fun _ => ?_) (fun c => absurd rfl c)
  exact ih _ _ _ _ _ _ H locs ls hRel w hl
set_option maxHeartbeats 4000000 in
set_option maxRecDepth 100000 in
theorem law_19 {p : Program} {l : Launch} {e : Env} {s : State} {m : MethodId} {below : List Frame} {meth : Method} {c : Code} {D : va_G} {ca cb : Nat → ClassId} {ak av ad bd : Nat → Nat} {b L : Nat} {xs : Nat → Int32} (hL : L ≤ 2560) (C0 : lw_At p s m meth c b L xs) (B : LB p m c s #[Value.ref b] D ca cb ak av (fun q : Nat => s.heap.size ≤ q)) {i : Nat} {x3 : Int32} (ex3 : x3 = nI i) (hi : i + 5 ≤ L) (ih : ∀ (fi : Nat → Int32) (fl : Nat → Int64) (ar : Nat → Nat → Int32) (gi : Nat → Int32) (gl : Nat → Int64) (br : Nat → Nat → Int32) (H : Heap) (locs : List Loc) (ls : Array Slot), Rel fi fl ar gi gl br → LW D (fun q : Nat => s.heap.size ≤ q) s (wC ad ca fi fl ar ++ wM bd cb gi gl br) H locs → lv_has ls 4 [(0, .ref b), (1, .ref (ad 0)), (2, .ref (bd 0)), (3, .int x3)] → W p l e room_1 s m #[Value.ref b] below meth c H locs 25 7506 (lw_Z below #[Value.ref b] s) (F0 m 951 ls [])) {fi : Nat → Int32} {fl : Nat → Int64} {ar : Nat → Nat → Int32} {gi : Nat → Int32} {gl : Nat → Int64} {br : Nat → Nat → Int32} {H : Heap} {locs : List Loc} {ls : Array Slot} (hRel : Rel fi fl ar gi gl br) (w : LW D (fun q : Nat => s.heap.size ≤ q) s (wC ad ca fi fl ar ++ wM bd cb gi gl br) H locs) (hl : lv_has ls 4 [(0, .ref b), (1, .ref (ad 0)), (2, .ref (bd 0)), (3, .int x3)]) : W p l e room_1 s m #[Value.ref b] below meth c H locs 25 7506 (lw_Z below #[Value.ref b] s) (F0 m 730 ls []) := by
  obtain ⟨hx, hb, hr, hml, hown, hts0, hX, hbl, hlocks, hgv⟩ := C0
  have hts := B.1.2.2.2.2
  have hbA : ¬ (fun q : Nat => s.heap.size ≤ q) b := Nat.not_le.mpr hbl
  have hin1 : vp_in (x3 + 1) L := by rw [ex3]; exact (show vp_in (nI i + nI 1) L by rw [nI_add]; exact vp_in_nI (by omega) (by omega))
  have hin2 : vp_in (x3 + 2) L := by rw [ex3]; exact (show vp_in (nI i + nI 2) L by rw [nI_add]; exact vp_in_nI (by omega) (by omega))
  have hin3 : vp_in (x3 + 3) L := by rw [ex3]; exact (show vp_in (nI i + nI 3) L by rw [nI_add]; exact vp_in_nI (by omega) (by omega))
  have hin4 : vp_in (x3 + 4) L := by rw [ex3]; exact (show vp_in (nI i + nI 4) L by rw [nI_add]; exact vp_in_nI (by omega) (by omega))
  refine lv_aload_n hx hb dL_law_730 rfl (lv_at hl 1 rfl) ?_
  refine lv_aload_n hx hb dL_law_731 rfl (lv_at hl 0 rfl) ?_
  refine lv_iload_n hx hb dL_law_732 rfl (lv_at hl 3 rfl) ?_
  refine lv_iconst (v := 1) hx hb dL_law_733 (by decide) ?_
  refine lv_iadd (x := x3) (y := 1) hx hb dL_law_734 ?_
  refine va_sld hx hb hX hbl hbA w.2.2 hin1 dL_law_735 ?_
  refine lv_aload_n hx hb dL_law_736 rfl (lv_at hl 0 rfl) ?_
  refine lv_iload_n hx hb dL_law_737 rfl (lv_at hl 3 rfl) ?_
  refine lv_iconst (v := 2) hx hb dL_law_738 (by decide) ?_
  refine lv_iadd (x := x3) (y := 2) hx hb dL_law_739 ?_
  refine va_sld hx hb hX hbl hbA w.2.2 hin2 dL_law_740 ?_
  obtain ⟨r, h8, h9, hRel⟩ := st_view hRel (xs (Int32.toNatClampNeg (x3 + 1))) (xs (Int32.toNatClampNeg (x3 + 2)))
  refine lawCI (As := [.int (xs (Int32.toNatClampNeg (x3 + 1))), .int (xs (Int32.toNatClampNeg (x3 + 2)))]) (rest := []) B w (c_X8_view l D ca ak av ad fi fl ar (xs (Int32.toNatClampNeg (x3 + 1))) (xs (Int32.toNatClampNeg (x3 + 2))) h8) (gV kt3_177 kt3_178 kt3_179 kt1_1 kt3_180) hdV_X8_view rfl rfl ⟨Nat.le_of_ble_eq_true rfl, Nat.le_of_ble_eq_true rfl⟩ rfl hl.1 rfl (Nat.le_of_ble_eq_true rfl) dL_law_741 (fun H locs w => ?_)
  refine lv_aload_n hx hb dL_law_744 rfl (lv_at hl 2 rfl) ?_
  refine lv_aload_n hx hb dL_law_745 rfl (lv_at hl 0 rfl) ?_
  refine lv_iload_n hx hb dL_law_746 rfl (lv_at hl 3 rfl) ?_
  refine lv_iconst (v := 1) hx hb dL_law_747 (by decide) ?_
  refine lv_iadd (x := x3) (y := 1) hx hb dL_law_748 ?_
  refine va_sld hx hb hX hbl hbA w.2.2 hin1 dL_law_749 ?_
  refine lv_aload_n hx hb dL_law_750 rfl (lv_at hl 0 rfl) ?_
  refine lv_iload_n hx hb dL_law_751 rfl (lv_at hl 3 rfl) ?_
  refine lv_iconst (v := 2) hx hb dL_law_752 (by decide) ?_
  refine lv_iadd (x := x3) (y := 2) hx hb dL_law_753 ?_
  refine va_sld hx hb hX hbl hbA w.2.2 hin2 dL_law_754 ?_
  refine lawMI (As := [.int (xs (Int32.toNatClampNeg (x3 + 1))), .int (xs (Int32.toNatClampNeg (x3 + 2)))]) (rest := [.int r]) B w (c_X9_view l D cb ak av bd gi gl br (xs (Int32.toNatClampNeg (x3 + 1))) (xs (Int32.toNatClampNeg (x3 + 2))) h9) (gV kt5_65 kt5_66 kt5_67 kt1_11 kt5_68) hdV_X9_view rfl rfl ⟨Nat.le_of_ble_eq_true rfl, Nat.le_of_ble_eq_true rfl⟩ rfl hl.1 rfl (Nat.le_of_ble_eq_true rfl) dL_law_755 (fun H locs w => ?_)
  refine lv_icmp_eq (tgt := 951) hx hb dL_law_758 (by decide) (fun _ => ?_) (fun c => absurd rfl c)
  exact ih _ _ _ _ _ _ H locs ls hRel w hl
set_option maxHeartbeats 4000000 in
set_option maxRecDepth 100000 in
theorem law_20 {p : Program} {l : Launch} {e : Env} {s : State} {m : MethodId} {below : List Frame} {meth : Method} {c : Code} {D : va_G} {ca cb : Nat → ClassId} {ak av ad bd : Nat → Nat} {b L : Nat} {xs : Nat → Int32} (hL : L ≤ 2560) (C0 : lw_At p s m meth c b L xs) (B : LB p m c s #[Value.ref b] D ca cb ak av (fun q : Nat => s.heap.size ≤ q)) {i : Nat} {x3 : Int32} (ex3 : x3 = nI i) (hi : i + 5 ≤ L) (ih : ∀ (fi : Nat → Int32) (fl : Nat → Int64) (ar : Nat → Nat → Int32) (gi : Nat → Int32) (gl : Nat → Int64) (br : Nat → Nat → Int32) (H : Heap) (locs : List Loc) (ls : Array Slot), Rel fi fl ar gi gl br → LW D (fun q : Nat => s.heap.size ≤ q) s (wC ad ca fi fl ar ++ wM bd cb gi gl br) H locs → lv_has ls 4 [(0, .ref b), (1, .ref (ad 0)), (2, .ref (bd 0)), (3, .int x3)] → W p l e room_1 s m #[Value.ref b] below meth c H locs 25 7506 (lw_Z below #[Value.ref b] s) (F0 m 951 ls [])) {fi : Nat → Int32} {fl : Nat → Int64} {ar : Nat → Nat → Int32} {gi : Nat → Int32} {gl : Nat → Int64} {br : Nat → Nat → Int32} {H : Heap} {locs : List Loc} {ls : Array Slot} (hRel : Rel fi fl ar gi gl br) (w : LW D (fun q : Nat => s.heap.size ≤ q) s (wC ad ca fi fl ar ++ wM bd cb gi gl br) H locs) (hl : lv_has ls 4 [(0, .ref b), (1, .ref (ad 0)), (2, .ref (bd 0)), (3, .int x3)]) : W p l e room_1 s m #[Value.ref b] below meth c H locs 25 7506 (lw_Z below #[Value.ref b] s) (F0 m 763 ls []) := by
  obtain ⟨hx, hb, hr, hml, hown, hts0, hX, hbl, hlocks, hgv⟩ := C0
  have hts := B.1.2.2.2.2
  have hbA : ¬ (fun q : Nat => s.heap.size ≤ q) b := Nat.not_le.mpr hbl
  have hin1 : vp_in (x3 + 1) L := by rw [ex3]; exact (show vp_in (nI i + nI 1) L by rw [nI_add]; exact vp_in_nI (by omega) (by omega))
  have hin2 : vp_in (x3 + 2) L := by rw [ex3]; exact (show vp_in (nI i + nI 2) L by rw [nI_add]; exact vp_in_nI (by omega) (by omega))
  have hin3 : vp_in (x3 + 3) L := by rw [ex3]; exact (show vp_in (nI i + nI 3) L by rw [nI_add]; exact vp_in_nI (by omega) (by omega))
  have hin4 : vp_in (x3 + 4) L := by rw [ex3]; exact (show vp_in (nI i + nI 4) L by rw [nI_add]; exact vp_in_nI (by omega) (by omega))
  refine lv_aload_n hx hb dL_law_763 rfl (lv_at hl 1 rfl) ?_
  refine lv_aload_n hx hb dL_law_764 rfl (lv_at hl 0 rfl) ?_
  refine lv_iload_n hx hb dL_law_765 rfl (lv_at hl 3 rfl) ?_
  refine lv_iconst (v := 1) hx hb dL_law_766 (by decide) ?_
  refine lv_iadd (x := x3) (y := 1) hx hb dL_law_767 ?_
  refine va_sld hx hb hX hbl hbA w.2.2 hin1 dL_law_768 ?_
  refine lv_aload_n hx hb dL_law_769 rfl (lv_at hl 0 rfl) ?_
  refine lv_iload_n hx hb dL_law_770 rfl (lv_at hl 3 rfl) ?_
  refine lv_iconst (v := 2) hx hb dL_law_771 (by decide) ?_
  refine lv_iadd (x := x3) (y := 2) hx hb dL_law_772 ?_
  refine va_sld hx hb hX hbl hbA w.2.2 hin2 dL_law_773 ?_
  refine lv_aload_n hx hb dL_law_774 rfl (lv_at hl 0 rfl) ?_
  refine lv_iload_n hx hb dL_law_775 rfl (lv_at hl 3 rfl) ?_
  refine lv_iconst (v := 3) hx hb dL_law_776 (by decide) ?_
  refine lv_iadd (x := x3) (y := 3) hx hb dL_law_777 ?_
  refine va_sld hx hb hX hbl hbA w.2.2 hin3 dL_law_778 ?_
  obtain ⟨r, ar', br', h8, h9, hRel⟩ := st_call hRel (xs (Int32.toNatClampNeg (x3 + 1))) (xs (Int32.toNatClampNeg (x3 + 2))) (xs (Int32.toNatClampNeg (x3 + 3)))
  refine lawCI (As := [.int (xs (Int32.toNatClampNeg (x3 + 1))), .int (xs (Int32.toNatClampNeg (x3 + 2))), .int (xs (Int32.toNatClampNeg (x3 + 3)))]) (rest := []) B w (c_X8_call l D ca ak av ad fi fl ar (xs (Int32.toNatClampNeg (x3 + 1))) (xs (Int32.toNatClampNeg (x3 + 2))) (xs (Int32.toNatClampNeg (x3 + 3))) h8) (gV kt3_190 kt3_191 kt3_192 kt1_1 kt3_193) hdV_X8_call rfl rfl ⟨Nat.le_of_ble_eq_true rfl, Nat.le_of_ble_eq_true rfl⟩ rfl hl.1 rfl (Nat.le_of_ble_eq_true rfl) dL_law_779 (fun H locs w => ?_)
  refine lv_aload_n hx hb dL_law_782 rfl (lv_at hl 2 rfl) ?_
  refine lv_aload_n hx hb dL_law_783 rfl (lv_at hl 0 rfl) ?_
  refine lv_iload_n hx hb dL_law_784 rfl (lv_at hl 3 rfl) ?_
  refine lv_iconst (v := 1) hx hb dL_law_785 (by decide) ?_
  refine lv_iadd (x := x3) (y := 1) hx hb dL_law_786 ?_
  refine va_sld hx hb hX hbl hbA w.2.2 hin1 dL_law_787 ?_
  refine lv_aload_n hx hb dL_law_788 rfl (lv_at hl 0 rfl) ?_
  refine lv_iload_n hx hb dL_law_789 rfl (lv_at hl 3 rfl) ?_
  refine lv_iconst (v := 2) hx hb dL_law_790 (by decide) ?_
  refine lv_iadd (x := x3) (y := 2) hx hb dL_law_791 ?_
  refine va_sld hx hb hX hbl hbA w.2.2 hin2 dL_law_792 ?_
  refine lv_aload_n hx hb dL_law_793 rfl (lv_at hl 0 rfl) ?_
  refine lv_iload_n hx hb dL_law_794 rfl (lv_at hl 3 rfl) ?_
  refine lv_iconst (v := 3) hx hb dL_law_795 (by decide) ?_
  refine lv_iadd (x := x3) (y := 3) hx hb dL_law_796 ?_
  refine va_sld hx hb hX hbl hbA w.2.2 hin3 dL_law_797 ?_
  refine lawMI (As := [.int (xs (Int32.toNatClampNeg (x3 + 1))), .int (xs (Int32.toNatClampNeg (x3 + 2))), .int (xs (Int32.toNatClampNeg (x3 + 3)))]) (rest := [.int r]) B w (c_X9_call l D cb ak av bd gi gl br (xs (Int32.toNatClampNeg (x3 + 1))) (xs (Int32.toNatClampNeg (x3 + 2))) (xs (Int32.toNatClampNeg (x3 + 3))) h9) (gV kt5_77 kt5_78 kt5_79 kt1_11 kt5_80) hdV_X9_call rfl rfl ⟨Nat.le_of_ble_eq_true rfl, Nat.le_of_ble_eq_true rfl⟩ rfl hl.1 rfl (Nat.le_of_ble_eq_true rfl) dL_law_798 (fun H locs w => ?_)
  refine lv_icmp_eq (tgt := 951) hx hb dL_law_801 (by decide) (fun _ => ?_) (fun c => absurd rfl c)
  exact ih _ _ _ _ _ _ H locs ls hRel w hl
set_option maxHeartbeats 4000000 in
set_option maxRecDepth 100000 in
theorem law_21 {p : Program} {l : Launch} {e : Env} {s : State} {m : MethodId} {below : List Frame} {meth : Method} {c : Code} {D : va_G} {ca cb : Nat → ClassId} {ak av ad bd : Nat → Nat} {b L : Nat} {xs : Nat → Int32} (hL : L ≤ 2560) (C0 : lw_At p s m meth c b L xs) (B : LB p m c s #[Value.ref b] D ca cb ak av (fun q : Nat => s.heap.size ≤ q)) {i : Nat} {x3 : Int32} (ex3 : x3 = nI i) (hi : i + 5 ≤ L) (ih : ∀ (fi : Nat → Int32) (fl : Nat → Int64) (ar : Nat → Nat → Int32) (gi : Nat → Int32) (gl : Nat → Int64) (br : Nat → Nat → Int32) (H : Heap) (locs : List Loc) (ls : Array Slot), Rel fi fl ar gi gl br → LW D (fun q : Nat => s.heap.size ≤ q) s (wC ad ca fi fl ar ++ wM bd cb gi gl br) H locs → lv_has ls 4 [(0, .ref b), (1, .ref (ad 0)), (2, .ref (bd 0)), (3, .int x3)] → W p l e room_1 s m #[Value.ref b] below meth c H locs 25 7506 (lw_Z below #[Value.ref b] s) (F0 m 951 ls [])) {fi : Nat → Int32} {fl : Nat → Int64} {ar : Nat → Nat → Int32} {gi : Nat → Int32} {gl : Nat → Int64} {br : Nat → Nat → Int32} {H : Heap} {locs : List Loc} {ls : Array Slot} (hRel : Rel fi fl ar gi gl br) (w : LW D (fun q : Nat => s.heap.size ≤ q) s (wC ad ca fi fl ar ++ wM bd cb gi gl br) H locs) (hl : lv_has ls 4 [(0, .ref b), (1, .ref (ad 0)), (2, .ref (bd 0)), (3, .int x3)]) : W p l e room_1 s m #[Value.ref b] below meth c H locs 25 7506 (lw_Z below #[Value.ref b] s) (F0 m 806 ls []) := by
  obtain ⟨hx, hb, hr, hml, hown, hts0, hX, hbl, hlocks, hgv⟩ := C0
  have hts := B.1.2.2.2.2
  have hbA : ¬ (fun q : Nat => s.heap.size ≤ q) b := Nat.not_le.mpr hbl
  have hin1 : vp_in (x3 + 1) L := by rw [ex3]; exact (show vp_in (nI i + nI 1) L by rw [nI_add]; exact vp_in_nI (by omega) (by omega))
  have hin2 : vp_in (x3 + 2) L := by rw [ex3]; exact (show vp_in (nI i + nI 2) L by rw [nI_add]; exact vp_in_nI (by omega) (by omega))
  have hin3 : vp_in (x3 + 3) L := by rw [ex3]; exact (show vp_in (nI i + nI 3) L by rw [nI_add]; exact vp_in_nI (by omega) (by omega))
  have hin4 : vp_in (x3 + 4) L := by rw [ex3]; exact (show vp_in (nI i + nI 4) L by rw [nI_add]; exact vp_in_nI (by omega) (by omega))
  refine lv_aload_n hx hb dL_law_806 rfl (lv_at hl 1 rfl) ?_
  refine lv_aload_n hx hb dL_law_807 rfl (lv_at hl 0 rfl) ?_
  refine lv_iload_n hx hb dL_law_808 rfl (lv_at hl 3 rfl) ?_
  refine lv_iconst (v := 1) hx hb dL_law_809 (by decide) ?_
  refine lv_iadd (x := x3) (y := 1) hx hb dL_law_810 ?_
  refine va_sld hx hb hX hbl hbA w.2.2 hin1 dL_law_811 ?_
  refine lv_aload_n hx hb dL_law_812 rfl (lv_at hl 0 rfl) ?_
  refine lv_iload_n hx hb dL_law_813 rfl (lv_at hl 3 rfl) ?_
  refine lv_iconst (v := 2) hx hb dL_law_814 (by decide) ?_
  refine lv_iadd (x := x3) (y := 2) hx hb dL_law_815 ?_
  refine va_sld hx hb hX hbl hbA w.2.2 hin2 dL_law_816 ?_
  refine lv_aload_n hx hb dL_law_817 rfl (lv_at hl 0 rfl) ?_
  refine lv_iload_n hx hb dL_law_818 rfl (lv_at hl 3 rfl) ?_
  refine lv_iconst (v := 3) hx hb dL_law_819 (by decide) ?_
  refine lv_iadd (x := x3) (y := 3) hx hb dL_law_820 ?_
  refine va_sld hx hb hX hbl hbA w.2.2 hin3 dL_law_821 ?_
  obtain ⟨r, ar', br', h8, h9, hRel⟩ := st_meet hRel (xs (Int32.toNatClampNeg (x3 + 1))) (xs (Int32.toNatClampNeg (x3 + 2))) (xs (Int32.toNatClampNeg (x3 + 3)))
  refine lawCI (As := [.int (xs (Int32.toNatClampNeg (x3 + 1))), .int (xs (Int32.toNatClampNeg (x3 + 2))), .int (xs (Int32.toNatClampNeg (x3 + 3)))]) (rest := []) B w (c_X8_meet l D ca ak av ad fi fl ar (xs (Int32.toNatClampNeg (x3 + 1))) (xs (Int32.toNatClampNeg (x3 + 2))) (xs (Int32.toNatClampNeg (x3 + 3))) h8) (gV kt3_198 kt3_199 kt3_200 kt1_1 kt3_201) hdV_X8_meet rfl rfl ⟨Nat.le_of_ble_eq_true rfl, Nat.le_of_ble_eq_true rfl⟩ rfl hl.1 rfl (Nat.le_of_ble_eq_true rfl) dL_law_822 (fun H locs w => ?_)
  refine lv_aload_n hx hb dL_law_825 rfl (lv_at hl 2 rfl) ?_
  refine lv_aload_n hx hb dL_law_826 rfl (lv_at hl 0 rfl) ?_
  refine lv_iload_n hx hb dL_law_827 rfl (lv_at hl 3 rfl) ?_
  refine lv_iconst (v := 1) hx hb dL_law_828 (by decide) ?_
  refine lv_iadd (x := x3) (y := 1) hx hb dL_law_829 ?_
  refine va_sld hx hb hX hbl hbA w.2.2 hin1 dL_law_830 ?_
  refine lv_aload_n hx hb dL_law_831 rfl (lv_at hl 0 rfl) ?_
  refine lv_iload_n hx hb dL_law_832 rfl (lv_at hl 3 rfl) ?_
  refine lv_iconst (v := 2) hx hb dL_law_833 (by decide) ?_
  refine lv_iadd (x := x3) (y := 2) hx hb dL_law_834 ?_
  refine va_sld hx hb hX hbl hbA w.2.2 hin2 dL_law_835 ?_
  refine lv_aload_n hx hb dL_law_836 rfl (lv_at hl 0 rfl) ?_
  refine lv_iload_n hx hb dL_law_837 rfl (lv_at hl 3 rfl) ?_
  refine lv_iconst (v := 3) hx hb dL_law_838 (by decide) ?_
  refine lv_iadd (x := x3) (y := 3) hx hb dL_law_839 ?_
  refine va_sld hx hb hX hbl hbA w.2.2 hin3 dL_law_840 ?_
  refine lawMI (As := [.int (xs (Int32.toNatClampNeg (x3 + 1))), .int (xs (Int32.toNatClampNeg (x3 + 2))), .int (xs (Int32.toNatClampNeg (x3 + 3)))]) (rest := [.int r]) B w (c_X9_meet l D cb ak av bd gi gl br (xs (Int32.toNatClampNeg (x3 + 1))) (xs (Int32.toNatClampNeg (x3 + 2))) (xs (Int32.toNatClampNeg (x3 + 3))) h9) (gV kt5_81 kt5_82 kt5_83 kt1_11 kt5_84) hdV_X9_meet rfl rfl ⟨Nat.le_of_ble_eq_true rfl, Nat.le_of_ble_eq_true rfl⟩ rfl hl.1 rfl (Nat.le_of_ble_eq_true rfl) dL_law_841 (fun H locs w => ?_)
  refine lv_icmp_eq (tgt := 951) hx hb dL_law_844 (by decide) (fun _ => ?_) (fun c => absurd rfl c)
  exact ih _ _ _ _ _ _ H locs ls hRel w hl
set_option maxHeartbeats 4000000 in
set_option maxRecDepth 100000 in
theorem law_22 {p : Program} {l : Launch} {e : Env} {s : State} {m : MethodId} {below : List Frame} {meth : Method} {c : Code} {D : va_G} {ca cb : Nat → ClassId} {ak av ad bd : Nat → Nat} {b L : Nat} {xs : Nat → Int32} (hL : L ≤ 2560) (C0 : lw_At p s m meth c b L xs) (B : LB p m c s #[Value.ref b] D ca cb ak av (fun q : Nat => s.heap.size ≤ q)) {i : Nat} {x3 : Int32} (ex3 : x3 = nI i) (hi : i + 5 ≤ L) (ih : ∀ (fi : Nat → Int32) (fl : Nat → Int64) (ar : Nat → Nat → Int32) (gi : Nat → Int32) (gl : Nat → Int64) (br : Nat → Nat → Int32) (H : Heap) (locs : List Loc) (ls : Array Slot), Rel fi fl ar gi gl br → LW D (fun q : Nat => s.heap.size ≤ q) s (wC ad ca fi fl ar ++ wM bd cb gi gl br) H locs → lv_has ls 4 [(0, .ref b), (1, .ref (ad 0)), (2, .ref (bd 0)), (3, .int x3)] → W p l e room_1 s m #[Value.ref b] below meth c H locs 25 7506 (lw_Z below #[Value.ref b] s) (F0 m 951 ls [])) {fi : Nat → Int32} {fl : Nat → Int64} {ar : Nat → Nat → Int32} {gi : Nat → Int32} {gl : Nat → Int64} {br : Nat → Nat → Int32} {H : Heap} {locs : List Loc} {ls : Array Slot} (hRel : Rel fi fl ar gi gl br) (w : LW D (fun q : Nat => s.heap.size ≤ q) s (wC ad ca fi fl ar ++ wM bd cb gi gl br) H locs) (hl : lv_has ls 4 [(0, .ref b), (1, .ref (ad 0)), (2, .ref (bd 0)), (3, .int x3)]) : W p l e room_1 s m #[Value.ref b] below meth c H locs 25 7506 (lw_Z below #[Value.ref b] s) (F0 m 849 ls []) := by
  obtain ⟨hx, hb, hr, hml, hown, hts0, hX, hbl, hlocks, hgv⟩ := C0
  have hts := B.1.2.2.2.2
  have hbA : ¬ (fun q : Nat => s.heap.size ≤ q) b := Nat.not_le.mpr hbl
  have hin1 : vp_in (x3 + 1) L := by rw [ex3]; exact (show vp_in (nI i + nI 1) L by rw [nI_add]; exact vp_in_nI (by omega) (by omega))
  have hin2 : vp_in (x3 + 2) L := by rw [ex3]; exact (show vp_in (nI i + nI 2) L by rw [nI_add]; exact vp_in_nI (by omega) (by omega))
  have hin3 : vp_in (x3 + 3) L := by rw [ex3]; exact (show vp_in (nI i + nI 3) L by rw [nI_add]; exact vp_in_nI (by omega) (by omega))
  have hin4 : vp_in (x3 + 4) L := by rw [ex3]; exact (show vp_in (nI i + nI 4) L by rw [nI_add]; exact vp_in_nI (by omega) (by omega))
  refine lv_aload_n hx hb dL_law_849 rfl (lv_at hl 1 rfl) ?_
  refine lv_aload_n hx hb dL_law_850 rfl (lv_at hl 0 rfl) ?_
  refine lv_iload_n hx hb dL_law_851 rfl (lv_at hl 3 rfl) ?_
  refine lv_iconst (v := 1) hx hb dL_law_852 (by decide) ?_
  refine lv_iadd (x := x3) (y := 1) hx hb dL_law_853 ?_
  refine va_sld hx hb hX hbl hbA w.2.2 hin1 dL_law_854 ?_
  refine lv_aload_n hx hb dL_law_855 rfl (lv_at hl 0 rfl) ?_
  refine lv_iload_n hx hb dL_law_856 rfl (lv_at hl 3 rfl) ?_
  refine lv_iconst (v := 2) hx hb dL_law_857 (by decide) ?_
  refine lv_iadd (x := x3) (y := 2) hx hb dL_law_858 ?_
  refine va_sld hx hb hX hbl hbA w.2.2 hin2 dL_law_859 ?_
  obtain ⟨r, ar', br', h8, h9, hRel⟩ := st_kin hRel (xs (Int32.toNatClampNeg (x3 + 1))) (xs (Int32.toNatClampNeg (x3 + 2)))
  refine lawCI (As := [.int (xs (Int32.toNatClampNeg (x3 + 1))), .int (xs (Int32.toNatClampNeg (x3 + 2)))]) (rest := []) B w (c_X8_kin l D ca ak av ad fi fl ar (xs (Int32.toNatClampNeg (x3 + 1))) (xs (Int32.toNatClampNeg (x3 + 2))) h8) (gV kt3_215 kt3_216 kt3_217 kt1_1 kt3_218) hdV_X8_kin rfl rfl ⟨Nat.le_of_ble_eq_true rfl, Nat.le_of_ble_eq_true rfl⟩ rfl hl.1 rfl (Nat.le_of_ble_eq_true rfl) dL_law_860 (fun H locs w => ?_)
  refine lv_aload_n hx hb dL_law_863 rfl (lv_at hl 2 rfl) ?_
  refine lv_aload_n hx hb dL_law_864 rfl (lv_at hl 0 rfl) ?_
  refine lv_iload_n hx hb dL_law_865 rfl (lv_at hl 3 rfl) ?_
  refine lv_iconst (v := 1) hx hb dL_law_866 (by decide) ?_
  refine lv_iadd (x := x3) (y := 1) hx hb dL_law_867 ?_
  refine va_sld hx hb hX hbl hbA w.2.2 hin1 dL_law_868 ?_
  refine lv_aload_n hx hb dL_law_869 rfl (lv_at hl 0 rfl) ?_
  refine lv_iload_n hx hb dL_law_870 rfl (lv_at hl 3 rfl) ?_
  refine lv_iconst (v := 2) hx hb dL_law_871 (by decide) ?_
  refine lv_iadd (x := x3) (y := 2) hx hb dL_law_872 ?_
  refine va_sld hx hb hX hbl hbA w.2.2 hin2 dL_law_873 ?_
  refine lawMI (As := [.int (xs (Int32.toNatClampNeg (x3 + 1))), .int (xs (Int32.toNatClampNeg (x3 + 2)))]) (rest := [.int r]) B w (c_X9_kin l D cb ak av bd gi gl br (xs (Int32.toNatClampNeg (x3 + 1))) (xs (Int32.toNatClampNeg (x3 + 2))) h9) (gV kt5_86 kt5_87 kt5_88 kt1_11 kt5_89) hdV_X9_kin rfl rfl ⟨Nat.le_of_ble_eq_true rfl, Nat.le_of_ble_eq_true rfl⟩ rfl hl.1 rfl (Nat.le_of_ble_eq_true rfl) dL_law_874 (fun H locs w => ?_)
  refine lv_icmp_eq (tgt := 951) hx hb dL_law_877 (by decide) (fun _ => ?_) (fun c => absurd rfl c)
  exact ih _ _ _ _ _ _ H locs ls hRel w hl
set_option maxHeartbeats 4000000 in
set_option maxRecDepth 100000 in
theorem law_23 {p : Program} {l : Launch} {e : Env} {s : State} {m : MethodId} {below : List Frame} {meth : Method} {c : Code} {D : va_G} {ca cb : Nat → ClassId} {ak av ad bd : Nat → Nat} {b L : Nat} {xs : Nat → Int32} (hL : L ≤ 2560) (C0 : lw_At p s m meth c b L xs) (B : LB p m c s #[Value.ref b] D ca cb ak av (fun q : Nat => s.heap.size ≤ q)) {i : Nat} {x3 : Int32} (ex3 : x3 = nI i) (hi : i + 5 ≤ L) (ih : ∀ (fi : Nat → Int32) (fl : Nat → Int64) (ar : Nat → Nat → Int32) (gi : Nat → Int32) (gl : Nat → Int64) (br : Nat → Nat → Int32) (H : Heap) (locs : List Loc) (ls : Array Slot), Rel fi fl ar gi gl br → LW D (fun q : Nat => s.heap.size ≤ q) s (wC ad ca fi fl ar ++ wM bd cb gi gl br) H locs → lv_has ls 4 [(0, .ref b), (1, .ref (ad 0)), (2, .ref (bd 0)), (3, .int x3)] → W p l e room_1 s m #[Value.ref b] below meth c H locs 25 7506 (lw_Z below #[Value.ref b] s) (F0 m 951 ls [])) {fi : Nat → Int32} {fl : Nat → Int64} {ar : Nat → Nat → Int32} {gi : Nat → Int32} {gl : Nat → Int64} {br : Nat → Nat → Int32} {H : Heap} {locs : List Loc} {ls : Array Slot} (hRel : Rel fi fl ar gi gl br) (w : LW D (fun q : Nat => s.heap.size ≤ q) s (wC ad ca fi fl ar ++ wM bd cb gi gl br) H locs) (hl : lv_has ls 4 [(0, .ref b), (1, .ref (ad 0)), (2, .ref (bd 0)), (3, .int x3)]) : W p l e room_1 s m #[Value.ref b] below meth c H locs 25 7506 (lw_Z below #[Value.ref b] s) (F0 m 882 ls []) := by
  obtain ⟨hx, hb, hr, hml, hown, hts0, hX, hbl, hlocks, hgv⟩ := C0
  have hts := B.1.2.2.2.2
  have hbA : ¬ (fun q : Nat => s.heap.size ≤ q) b := Nat.not_le.mpr hbl
  have hin1 : vp_in (x3 + 1) L := by rw [ex3]; exact (show vp_in (nI i + nI 1) L by rw [nI_add]; exact vp_in_nI (by omega) (by omega))
  have hin2 : vp_in (x3 + 2) L := by rw [ex3]; exact (show vp_in (nI i + nI 2) L by rw [nI_add]; exact vp_in_nI (by omega) (by omega))
  have hin3 : vp_in (x3 + 3) L := by rw [ex3]; exact (show vp_in (nI i + nI 3) L by rw [nI_add]; exact vp_in_nI (by omega) (by omega))
  have hin4 : vp_in (x3 + 4) L := by rw [ex3]; exact (show vp_in (nI i + nI 4) L by rw [nI_add]; exact vp_in_nI (by omega) (by omega))
  refine lv_aload_n hx hb dL_law_882 rfl (lv_at hl 1 rfl) ?_
  refine lv_aload_n hx hb dL_law_883 rfl (lv_at hl 0 rfl) ?_
  refine lv_iload_n hx hb dL_law_884 rfl (lv_at hl 3 rfl) ?_
  refine lv_iconst (v := 1) hx hb dL_law_885 (by decide) ?_
  refine lv_iadd (x := x3) (y := 1) hx hb dL_law_886 ?_
  refine va_sld hx hb hX hbl hbA w.2.2 hin1 dL_law_887 ?_
  refine lv_aload_n hx hb dL_law_888 rfl (lv_at hl 0 rfl) ?_
  refine lv_iload_n hx hb dL_law_889 rfl (lv_at hl 3 rfl) ?_
  refine lv_iconst (v := 2) hx hb dL_law_890 (by decide) ?_
  refine lv_iadd (x := x3) (y := 2) hx hb dL_law_891 ?_
  refine va_sld hx hb hX hbl hbA w.2.2 hin2 dL_law_892 ?_
  obtain ⟨r, ar', br', h8, h9, hRel⟩ := st_talk hRel (xs (Int32.toNatClampNeg (x3 + 1))) (xs (Int32.toNatClampNeg (x3 + 2)))
  refine lawCI (As := [.int (xs (Int32.toNatClampNeg (x3 + 1))), .int (xs (Int32.toNatClampNeg (x3 + 2)))]) (rest := []) B w (c_X8_talk l D ca ak av ad fi fl ar (xs (Int32.toNatClampNeg (x3 + 1))) (xs (Int32.toNatClampNeg (x3 + 2))) h8) (gV kt3_223 kt3_224 kt3_225 kt1_1 kt3_226) hdV_X8_talk rfl rfl ⟨Nat.le_of_ble_eq_true rfl, Nat.le_of_ble_eq_true rfl⟩ rfl hl.1 rfl (Nat.le_of_ble_eq_true rfl) dL_law_893 (fun H locs w => ?_)
  refine lv_aload_n hx hb dL_law_896 rfl (lv_at hl 2 rfl) ?_
  refine lv_aload_n hx hb dL_law_897 rfl (lv_at hl 0 rfl) ?_
  refine lv_iload_n hx hb dL_law_898 rfl (lv_at hl 3 rfl) ?_
  refine lv_iconst (v := 1) hx hb dL_law_899 (by decide) ?_
  refine lv_iadd (x := x3) (y := 1) hx hb dL_law_900 ?_
  refine va_sld hx hb hX hbl hbA w.2.2 hin1 dL_law_901 ?_
  refine lv_aload_n hx hb dL_law_902 rfl (lv_at hl 0 rfl) ?_
  refine lv_iload_n hx hb dL_law_903 rfl (lv_at hl 3 rfl) ?_
  refine lv_iconst (v := 2) hx hb dL_law_904 (by decide) ?_
  refine lv_iadd (x := x3) (y := 2) hx hb dL_law_905 ?_
  refine va_sld hx hb hX hbl hbA w.2.2 hin2 dL_law_906 ?_
  refine lawMI (As := [.int (xs (Int32.toNatClampNeg (x3 + 1))), .int (xs (Int32.toNatClampNeg (x3 + 2)))]) (rest := [.int r]) B w (c_X9_talk l D cb ak av bd gi gl br (xs (Int32.toNatClampNeg (x3 + 1))) (xs (Int32.toNatClampNeg (x3 + 2))) h9) (gV kt5_90 kt5_91 kt5_92 kt1_11 kt5_93) hdV_X9_talk rfl rfl ⟨Nat.le_of_ble_eq_true rfl, Nat.le_of_ble_eq_true rfl⟩ rfl hl.1 rfl (Nat.le_of_ble_eq_true rfl) dL_law_907 (fun H locs w => ?_)
  refine lv_icmp_eq (tgt := 951) hx hb dL_law_910 (by decide) (fun _ => ?_) (fun c => absurd rfl c)
  exact ih _ _ _ _ _ _ H locs ls hRel w hl
set_option maxHeartbeats 4000000 in
set_option maxRecDepth 100000 in
theorem law_24 {p : Program} {l : Launch} {e : Env} {s : State} {m : MethodId} {below : List Frame} {meth : Method} {c : Code} {D : va_G} {ca cb : Nat → ClassId} {ak av ad bd : Nat → Nat} {b L : Nat} {xs : Nat → Int32} (hL : L ≤ 2560) (C0 : lw_At p s m meth c b L xs) (B : LB p m c s #[Value.ref b] D ca cb ak av (fun q : Nat => s.heap.size ≤ q)) {i : Nat} {x3 : Int32} (ex3 : x3 = nI i) (hi : i + 5 ≤ L) (ih : ∀ (fi : Nat → Int32) (fl : Nat → Int64) (ar : Nat → Nat → Int32) (gi : Nat → Int32) (gl : Nat → Int64) (br : Nat → Nat → Int32) (H : Heap) (locs : List Loc) (ls : Array Slot), Rel fi fl ar gi gl br → LW D (fun q : Nat => s.heap.size ≤ q) s (wC ad ca fi fl ar ++ wM bd cb gi gl br) H locs → lv_has ls 4 [(0, .ref b), (1, .ref (ad 0)), (2, .ref (bd 0)), (3, .int x3)] → W p l e room_1 s m #[Value.ref b] below meth c H locs 25 7506 (lw_Z below #[Value.ref b] s) (F0 m 951 ls [])) {fi : Nat → Int32} {fl : Nat → Int64} {ar : Nat → Nat → Int32} {gi : Nat → Int32} {gl : Nat → Int64} {br : Nat → Nat → Int32} {H : Heap} {locs : List Loc} {ls : Array Slot} (hRel : Rel fi fl ar gi gl br) (w : LW D (fun q : Nat => s.heap.size ≤ q) s (wC ad ca fi fl ar ++ wM bd cb gi gl br) H locs) (hl : lv_has ls 4 [(0, .ref b), (1, .ref (ad 0)), (2, .ref (bd 0)), (3, .int x3)]) : W p l e room_1 s m #[Value.ref b] below meth c H locs 25 7506 (lw_Z below #[Value.ref b] s) (F0 m 915 ls []) := by
  obtain ⟨hx, hb, hr, hml, hown, hts0, hX, hbl, hlocks, hgv⟩ := C0
  have hts := B.1.2.2.2.2
  have hbA : ¬ (fun q : Nat => s.heap.size ≤ q) b := Nat.not_le.mpr hbl
  have hin1 : vp_in (x3 + 1) L := by rw [ex3]; exact (show vp_in (nI i + nI 1) L by rw [nI_add]; exact vp_in_nI (by omega) (by omega))
  have hin2 : vp_in (x3 + 2) L := by rw [ex3]; exact (show vp_in (nI i + nI 2) L by rw [nI_add]; exact vp_in_nI (by omega) (by omega))
  have hin3 : vp_in (x3 + 3) L := by rw [ex3]; exact (show vp_in (nI i + nI 3) L by rw [nI_add]; exact vp_in_nI (by omega) (by omega))
  have hin4 : vp_in (x3 + 4) L := by rw [ex3]; exact (show vp_in (nI i + nI 4) L by rw [nI_add]; exact vp_in_nI (by omega) (by omega))
  refine lv_aload_n hx hb dL_law_915 rfl (lv_at hl 1 rfl) ?_
  refine lv_aload_n hx hb dL_law_916 rfl (lv_at hl 0 rfl) ?_
  refine lv_iload_n hx hb dL_law_917 rfl (lv_at hl 3 rfl) ?_
  refine lv_iconst (v := 1) hx hb dL_law_918 (by decide) ?_
  refine lv_iadd (x := x3) (y := 1) hx hb dL_law_919 ?_
  refine va_sld hx hb hX hbl hbA w.2.2 hin1 dL_law_920 ?_
  obtain ⟨r, h8, h9, hRel⟩ := st_agreed hRel (xs (Int32.toNatClampNeg (x3 + 1)))
  refine lawCI (As := [.int (xs (Int32.toNatClampNeg (x3 + 1)))]) (rest := []) B w (c_X8_agreed l D ca ak av ad fi fl ar (xs (Int32.toNatClampNeg (x3 + 1))) h8) (gV kt3_231 kt3_232 kt3_233 kt1_1 kt3_234) hdV_X8_agreed rfl rfl ⟨Nat.le_of_ble_eq_true rfl, Nat.le_of_ble_eq_true rfl⟩ rfl hl.1 rfl (Nat.le_of_ble_eq_true rfl) dL_law_921 (fun H locs w => ?_)
  refine lv_aload_n hx hb dL_law_924 rfl (lv_at hl 2 rfl) ?_
  refine lv_aload_n hx hb dL_law_925 rfl (lv_at hl 0 rfl) ?_
  refine lv_iload_n hx hb dL_law_926 rfl (lv_at hl 3 rfl) ?_
  refine lv_iconst (v := 1) hx hb dL_law_927 (by decide) ?_
  refine lv_iadd (x := x3) (y := 1) hx hb dL_law_928 ?_
  refine va_sld hx hb hX hbl hbA w.2.2 hin1 dL_law_929 ?_
  refine lawMI (As := [.int (xs (Int32.toNatClampNeg (x3 + 1)))]) (rest := [.int r]) B w (c_X9_agreed l D cb ak av bd gi gl br (xs (Int32.toNatClampNeg (x3 + 1))) h9) (gV kt5_94 kt5_95 kt5_96 kt1_11 kt5_97) hdV_X9_agreed rfl rfl ⟨Nat.le_of_ble_eq_true rfl, Nat.le_of_ble_eq_true rfl⟩ rfl hl.1 rfl (Nat.le_of_ble_eq_true rfl) dL_law_930 (fun H locs w => ?_)
  refine lv_icmp_eq (tgt := 951) hx hb dL_law_933 (by decide) (fun _ => ?_) (fun c => absurd rfl c)
  exact ih _ _ _ _ _ _ H locs ls hRel w hl
set_option maxHeartbeats 4000000 in
set_option maxRecDepth 100000 in
theorem law_25 {p : Program} {l : Launch} {e : Env} {s : State} {m : MethodId} {below : List Frame} {meth : Method} {c : Code} {D : va_G} {ca cb : Nat → ClassId} {ak av ad bd : Nat → Nat} {b L : Nat} {xs : Nat → Int32} (hL : L ≤ 2560) (C0 : lw_At p s m meth c b L xs) (B : LB p m c s #[Value.ref b] D ca cb ak av (fun q : Nat => s.heap.size ≤ q)) {i : Nat} {x3 : Int32} (ex3 : x3 = nI i) (hi : i + 5 ≤ L) (ih : ∀ (fi : Nat → Int32) (fl : Nat → Int64) (ar : Nat → Nat → Int32) (gi : Nat → Int32) (gl : Nat → Int64) (br : Nat → Nat → Int32) (H : Heap) (locs : List Loc) (ls : Array Slot), Rel fi fl ar gi gl br → LW D (fun q : Nat => s.heap.size ≤ q) s (wC ad ca fi fl ar ++ wM bd cb gi gl br) H locs → lv_has ls 4 [(0, .ref b), (1, .ref (ad 0)), (2, .ref (bd 0)), (3, .int x3)] → W p l e room_1 s m #[Value.ref b] below meth c H locs 25 7506 (lw_Z below #[Value.ref b] s) (F0 m 951 ls [])) {fi : Nat → Int32} {fl : Nat → Int64} {ar : Nat → Nat → Int32} {gi : Nat → Int32} {gl : Nat → Int64} {br : Nat → Nat → Int32} {H : Heap} {locs : List Loc} {ls : Array Slot} (hRel : Rel fi fl ar gi gl br) (w : LW D (fun q : Nat => s.heap.size ≤ q) s (wC ad ca fi fl ar ++ wM bd cb gi gl br) H locs) (hl : lv_has ls 4 [(0, .ref b), (1, .ref (ad 0)), (2, .ref (bd 0)), (3, .int x3)]) : W p l e room_1 s m #[Value.ref b] below meth c H locs 25 7506 (lw_Z below #[Value.ref b] s) (F0 m 938 ls []) := by
  obtain ⟨hx, hb, hr, hml, hown, hts0, hX, hbl, hlocks, hgv⟩ := C0
  have hts := B.1.2.2.2.2
  have hbA : ¬ (fun q : Nat => s.heap.size ≤ q) b := Nat.not_le.mpr hbl
  have hin1 : vp_in (x3 + 1) L := by rw [ex3]; exact (show vp_in (nI i + nI 1) L by rw [nI_add]; exact vp_in_nI (by omega) (by omega))
  have hin2 : vp_in (x3 + 2) L := by rw [ex3]; exact (show vp_in (nI i + nI 2) L by rw [nI_add]; exact vp_in_nI (by omega) (by omega))
  have hin3 : vp_in (x3 + 3) L := by rw [ex3]; exact (show vp_in (nI i + nI 3) L by rw [nI_add]; exact vp_in_nI (by omega) (by omega))
  have hin4 : vp_in (x3 + 4) L := by rw [ex3]; exact (show vp_in (nI i + nI 4) L by rw [nI_add]; exact vp_in_nI (by omega) (by omega))
  refine lv_aload_n hx hb dL_law_938 rfl (lv_at hl 1 rfl) ?_
  obtain ⟨r, ar', br', h8, h9, hRel⟩ := st_forget hRel 
  refine lawCI (As := []) (rest := []) B w (c_X8_forget l D ca ak av ad fi fl ar  h8) (gV kt4_11 kt4_12 kt4_13 kt1_1 kt4_14) hdV_X8_forget rfl rfl ⟨Nat.le_of_ble_eq_true rfl, Nat.le_of_ble_eq_true rfl⟩ rfl hl.1 rfl (Nat.le_of_ble_eq_true rfl) dL_law_939 (fun H locs w => ?_)
  refine lv_aload_n hx hb dL_law_942 rfl (lv_at hl 2 rfl) ?_
  refine lawMI (As := []) (rest := [.int r]) B w (c_X9_forget l D cb ak av bd gi gl br  h9) (gV kt5_98 kt5_99 kt5_100 kt1_11 kt5_101) hdV_X9_forget rfl rfl ⟨Nat.le_of_ble_eq_true rfl, Nat.le_of_ble_eq_true rfl⟩ rfl hl.1 rfl (Nat.le_of_ble_eq_true rfl) dL_law_943 (fun H locs w => ?_)
  refine lv_icmp_eq (tgt := 951) hx hb dL_law_946 (by decide) (fun _ => ?_) (fun c => absurd rfl c)
  exact ih _ _ _ _ _ _ H locs ls hRel w hl
set_option maxHeartbeats 4000000 in
set_option maxRecDepth 100000 in
theorem law_loop {p : Program} {l : Launch} {e : Env} {s : State} {m : MethodId} {below : List Frame} {meth : Method} {c : Code} {D : va_G} {ca cb : Nat → ClassId} {ak av ad bd : Nat → Nat} {b L : Nat} {xs : Nat → Int32} (hL : L ≤ 2560) (C0 : lw_At p s m meth c b L xs) (B : LB p m c s #[Value.ref b] D ca cb ak av (fun q : Nat => s.heap.size ≤ q)) : ∀ (n i : Nat) (x3 : Int32), x3 = nI i → i ≤ 3000 → L + 5 ≤ i + 5 * n → ∀ (fi : Nat → Int32) (fl : Nat → Int64) (ar : Nat → Nat → Int32) (gi : Nat → Int32) (gl : Nat → Int64) (br : Nat → Nat → Int32) (H : Heap) (locs : List Loc) (ls : Array Slot), Rel fi fl ar gi gl br → LW D (fun q : Nat => s.heap.size ≤ q) s (wC ad ca fi fl ar ++ wM bd cb gi gl br) H locs → lv_has ls 4 [(0, .ref b), (1, .ref (ad 0)), (2, .ref (bd 0)), (3, .int x3)] → W p l e room_1 s m #[Value.ref b] below meth c H locs 25 7506 (lw_Z below #[Value.ref b] s) (F0 m 18 ls []) := by
  have C := C0
  obtain ⟨hx, hb, hr, hml, hown, hts0, hX, hbl, hlocks, hgv⟩ := C0
  have hbA : ¬ (fun q : Nat => s.heap.size ≤ q) b := Nat.not_le.mpr hbl
  intro n
  induction n with
  | zero =>
    intro i x3 ex3 hi h0 fi fl ar gi gl br H locs ls hRel w hl
    refine lv_iload_n hx hb dL_law_18 rfl (lv_at hl 3 rfl) ?_
    refine lv_aload_n hx hb dL_law_19 rfl (lv_at hl 0 rfl) ?_
    refine va_slen hx hb hX hbl hbA w.2.2 dL_law_20 ?_
    refine lv_iconst (v := 5) hx hb dL_law_21 (by decide) ?_
    refine lv_isub hx hb dL_law_22 ?_
    refine lv_icmp_gt (tgt := 957) hx hb dL_law_23 (by decide) (fun _ => ?_) (fun hc => absurd (law_gt ex3 (by omega) (by omega) (by omega)) hc)
    refine lv_iconst (v := 1) hx hb dL_law_957 (by decide) ?_
    refine va_forget (fun q hq => w.2.2.2.2 q hq) ?_
    exact lw_ret hx hb hr hlocks dL_law_958
  | succ n ihn =>
    intro i x3 ex3 hi h0 fi fl ar gi gl br H locs ls hRel w hl
    refine lv_iload_n hx hb dL_law_18 rfl (lv_at hl 3 rfl) ?_
    refine lv_aload_n hx hb dL_law_19 rfl (lv_at hl 0 rfl) ?_
    refine va_slen hx hb hX hbl hbA w.2.2 dL_law_20 ?_
    refine lv_iconst (v := 5) hx hb dL_law_21 (by decide) ?_
    refine lv_isub hx hb dL_law_22 ?_
    refine lv_icmp_gt (tgt := 957) hx hb dL_law_23 (by decide) (fun _ => ?_) (fun hc => ?_)
    · refine lv_iconst (v := 1) hx hb dL_law_957 (by decide) ?_
      refine va_forget (fun q hq => w.2.2.2.2 q hq) ?_
      exact lw_ret hx hb hr hlocks dL_law_958
    · have hi5 : i + 5 ≤ L := by
        rcases Nat.lt_or_ge L (i + 5) with q | q
        · exact absurd (law_gt ex3 q (by omega) (by omega)) hc
        · exact q
      have hin0 : vp_in x3 L := by rw [ex3]; exact vp_in_nI (by omega) (by omega)
      have J951 : ∀ (fi : Nat → Int32) (fl : Nat → Int64) (ar : Nat → Nat → Int32) (gi : Nat → Int32) (gl : Nat → Int64) (br : Nat → Nat → Int32) (H : Heap) (locs : List Loc) (ls : Array Slot), Rel fi fl ar gi gl br → LW D (fun q : Nat => s.heap.size ≤ q) s (wC ad ca fi fl ar ++ wM bd cb gi gl br) H locs → lv_has ls 4 [(0, .ref b), (1, .ref (ad 0)), (2, .ref (bd 0)), (3, .int x3)] → W p l e room_1 s m #[Value.ref b] below meth c H locs 25 7506 (lw_Z below #[Value.ref b] s) (F0 m 951 ls []) := by
        intro fi fl ar gi gl br H locs ls hRel w hl
        obtain ⟨z, ez⟩ : ∃ y : Int32, y = x3 + 5 := ⟨_, rfl⟩
        refine lv_iinc (v := z) (lv' := [(3, .int z), (0, .ref b), (1, .ref (ad 0)), (2, .ref (bd 0))]) hx hb dL_law_951 hl (k := 3) rfl (by rw [ez]; rfl) (by decide) rfl (fun ls hl => ?_)
        refine lv_goto (tgt := 18) hx hb dL_law_954 (by decide) ?_
        exact ihn (i + 5) z (by rw [ez, ex3]; exact nI_add i 5) (by omega) (by omega) fi fl ar gi gl br H locs ls hRel w (lv_sub hl [1, 2, 3, 0] rfl)
      refine lv_aload_n hx hb dL_law_26 rfl (lv_at hl 0 rfl) ?_
      refine lv_iload_n hx hb dL_law_27 rfl (lv_at hl 3 rfl) ?_
      refine va_sld hx hb hX hbl hbA w.2.2 hin0 dL_law_28 ?_
      refine lv_bipush (v := 31) hx hb dL_law_29 (by decide) ?_
      refine lv_iand hx hb dL_law_31 ?_
      refine lv_topi (fun t et => ?_)
      by_cases c0 : t = 0
      · refine lv_tableIn (tgt := 152) (off := 120) hx hb dL_law_32 (by rw [c0]; decide) (by rw [c0]; decide) (by rw [c0]; decide) (by decide) ?_
        exact law_0 hL C B ex3 hi5 J951 hRel w hl
      · skip
        by_cases c1 : t = 1
        · refine lv_tableIn (tgt := 215) (off := 183) hx hb dL_law_32 (by rw [c1]; decide) (by rw [c1]; decide) (by rw [c1]; decide) (by decide) ?_
          exact law_1 hL C B ex3 hi5 J951 hRel w hl
        · skip
          by_cases c2 : t = 2
          · refine lv_tableIn (tgt := 228) (off := 196) hx hb dL_law_32 (by rw [c2]; decide) (by rw [c2]; decide) (by rw [c2]; decide) (by decide) ?_
            exact law_2 hL C B ex3 hi5 J951 hRel w hl
          · skip
            by_cases c3 : t = 3
            · refine lv_tableIn (tgt := 241) (off := 209) hx hb dL_law_32 (by rw [c3]; decide) (by rw [c3]; decide) (by rw [c3]; decide) (by decide) ?_
              exact law_3 hL C B ex3 hi5 J951 hRel w hl
            · skip
              by_cases c4 : t = 4
              · refine lv_tableIn (tgt := 264) (off := 232) hx hb dL_law_32 (by rw [c4]; decide) (by rw [c4]; decide) (by rw [c4]; decide) (by decide) ?_
                exact law_4 hL C B ex3 hi5 J951 hRel w hl
              · skip
                by_cases c5 : t = 5
                · refine lv_tableIn (tgt := 287) (off := 255) hx hb dL_law_32 (by rw [c5]; decide) (by rw [c5]; decide) (by rw [c5]; decide) (by decide) ?_
                  exact law_5 hL C B ex3 hi5 J951 hRel w hl
                · skip
                  by_cases c6 : t = 6
                  · refine lv_tableIn (tgt := 340) (off := 308) hx hb dL_law_32 (by rw [c6]; decide) (by rw [c6]; decide) (by rw [c6]; decide) (by decide) ?_
                    exact law_6 hL C B ex3 hi5 J951 hRel w hl
                  · skip
                    by_cases c7 : t = 7
                    · refine lv_tableIn (tgt := 373) (off := 341) hx hb dL_law_32 (by rw [c7]; decide) (by rw [c7]; decide) (by rw [c7]; decide) (by decide) ?_
                      exact law_7 hL C B ex3 hi5 J951 hRel w hl
                    · skip
                      by_cases c8 : t = 8
                      · refine lv_tableIn (tgt := 416) (off := 384) hx hb dL_law_32 (by rw [c8]; decide) (by rw [c8]; decide) (by rw [c8]; decide) (by decide) ?_
                        exact law_8 hL C B ex3 hi5 J951 hRel w hl
                      · skip
                        by_cases c9 : t = 9
                        · refine lv_tableIn (tgt := 449) (off := 417) hx hb dL_law_32 (by rw [c9]; decide) (by rw [c9]; decide) (by rw [c9]; decide) (by decide) ?_
                          exact law_9 hL C B ex3 hi5 J951 hRel w hl
                        · skip
                          by_cases c10 : t = 10
                          · refine lv_tableIn (tgt := 482) (off := 450) hx hb dL_law_32 (by rw [c10]; decide) (by rw [c10]; decide) (by rw [c10]; decide) (by decide) ?_
                            exact law_10 hL C B ex3 hi5 J951 hRel w hl
                          · skip
                            by_cases c11 : t = 11
                            · refine lv_tableIn (tgt := 536) (off := 504) hx hb dL_law_32 (by rw [c11]; decide) (by rw [c11]; decide) (by rw [c11]; decide) (by decide) ?_
                              exact law_11 hL C B ex3 hi5 J951 hRel w hl
                            · skip
                              by_cases c12 : t = 12
                              · refine lv_tableIn (tgt := 579) (off := 547) hx hb dL_law_32 (by rw [c12]; decide) (by rw [c12]; decide) (by rw [c12]; decide) (by decide) ?_
                                exact law_12 hL C B ex3 hi5 J951 hRel w hl
                              · skip
                                by_cases c13 : t = 13
                                · refine lv_tableIn (tgt := 602) (off := 570) hx hb dL_law_32 (by rw [c13]; decide) (by rw [c13]; decide) (by rw [c13]; decide) (by decide) ?_
                                  exact law_13 hL C B ex3 hi5 J951 hRel w hl
                                · skip
                                  by_cases c14 : t = 14
                                  · refine lv_tableIn (tgt := 625) (off := 593) hx hb dL_law_32 (by rw [c14]; decide) (by rw [c14]; decide) (by rw [c14]; decide) (by decide) ?_
                                    exact law_14 hL C B ex3 hi5 J951 hRel w hl
                                  · skip
                                    by_cases c15 : t = 15
                                    · refine lv_tableIn (tgt := 648) (off := 616) hx hb dL_law_32 (by rw [c15]; decide) (by rw [c15]; decide) (by rw [c15]; decide) (by decide) ?_
                                      exact law_15 hL C B ex3 hi5 J951 hRel w hl
                                    · skip
                                      by_cases c16 : t = 16
                                      · refine lv_tableIn (tgt := 671) (off := 639) hx hb dL_law_32 (by rw [c16]; decide) (by rw [c16]; decide) (by rw [c16]; decide) (by decide) ?_
                                        exact law_16 hL C B ex3 hi5 J951 hRel w hl
                                      · skip
                                        by_cases c17 : t = 17
                                        · refine lv_tableIn (tgt := 694) (off := 662) hx hb dL_law_32 (by rw [c17]; decide) (by rw [c17]; decide) (by rw [c17]; decide) (by decide) ?_
                                          exact law_17 hL C B ex3 hi5 J951 hRel w hl
                                        · skip
                                          by_cases c18 : t = 18
                                          · refine lv_tableIn (tgt := 717) (off := 685) hx hb dL_law_32 (by rw [c18]; decide) (by rw [c18]; decide) (by rw [c18]; decide) (by decide) ?_
                                            exact law_18 hL C B ex3 hi5 J951 hRel w hl
                                          · skip
                                            by_cases c19 : t = 19
                                            · refine lv_tableIn (tgt := 730) (off := 698) hx hb dL_law_32 (by rw [c19]; decide) (by rw [c19]; decide) (by rw [c19]; decide) (by decide) ?_
                                              exact law_19 hL C B ex3 hi5 J951 hRel w hl
                                            · skip
                                              by_cases c20 : t = 20
                                              · refine lv_tableIn (tgt := 763) (off := 731) hx hb dL_law_32 (by rw [c20]; decide) (by rw [c20]; decide) (by rw [c20]; decide) (by decide) ?_
                                                exact law_20 hL C B ex3 hi5 J951 hRel w hl
                                              · skip
                                                by_cases c21 : t = 21
                                                · refine lv_tableIn (tgt := 806) (off := 774) hx hb dL_law_32 (by rw [c21]; decide) (by rw [c21]; decide) (by rw [c21]; decide) (by decide) ?_
                                                  exact law_21 hL C B ex3 hi5 J951 hRel w hl
                                                · skip
                                                  by_cases c22 : t = 22
                                                  · refine lv_tableIn (tgt := 849) (off := 817) hx hb dL_law_32 (by rw [c22]; decide) (by rw [c22]; decide) (by rw [c22]; decide) (by decide) ?_
                                                    exact law_22 hL C B ex3 hi5 J951 hRel w hl
                                                  · skip
                                                    by_cases c23 : t = 23
                                                    · refine lv_tableIn (tgt := 882) (off := 850) hx hb dL_law_32 (by rw [c23]; decide) (by rw [c23]; decide) (by rw [c23]; decide) (by decide) ?_
                                                      exact law_23 hL C B ex3 hi5 J951 hRel w hl
                                                    · skip
                                                      by_cases c24 : t = 24
                                                      · refine lv_tableIn (tgt := 915) (off := 883) hx hb dL_law_32 (by rw [c24]; decide) (by rw [c24]; decide) (by rw [c24]; decide) (by decide) ?_
                                                        exact law_24 hL C B ex3 hi5 J951 hRel w hl
                                                      · skip
                                                        by_cases c25 : t = 25
                                                        · refine lv_tableIn (tgt := 938) (off := 906) hx hb dL_law_32 (by rw [c25]; decide) (by rw [c25]; decide) (by rw [c25]; decide) (by decide) ?_
                                                          exact law_25 hL C B ex3 hi5 J951 hRel w hl
                                                        · skip
                                                          have t0 := lv_neT c0 (show (0 : Int32).toInt = 0 by decide)
                                                          have t1 := lv_neT c1 (show (1 : Int32).toInt = 1 by decide)
                                                          have t2 := lv_neT c2 (show (2 : Int32).toInt = 2 by decide)
                                                          have t3 := lv_neT c3 (show (3 : Int32).toInt = 3 by decide)
                                                          have t4 := lv_neT c4 (show (4 : Int32).toInt = 4 by decide)
                                                          have t5 := lv_neT c5 (show (5 : Int32).toInt = 5 by decide)
                                                          have t6 := lv_neT c6 (show (6 : Int32).toInt = 6 by decide)
                                                          have t7 := lv_neT c7 (show (7 : Int32).toInt = 7 by decide)
                                                          have t8 := lv_neT c8 (show (8 : Int32).toInt = 8 by decide)
                                                          have t9 := lv_neT c9 (show (9 : Int32).toInt = 9 by decide)
                                                          have t10 := lv_neT c10 (show (10 : Int32).toInt = 10 by decide)
                                                          have t11 := lv_neT c11 (show (11 : Int32).toInt = 11 by decide)
                                                          have t12 := lv_neT c12 (show (12 : Int32).toInt = 12 by decide)
                                                          have t13 := lv_neT c13 (show (13 : Int32).toInt = 13 by decide)
                                                          have t14 := lv_neT c14 (show (14 : Int32).toInt = 14 by decide)
                                                          have t15 := lv_neT c15 (show (15 : Int32).toInt = 15 by decide)
                                                          have t16 := lv_neT c16 (show (16 : Int32).toInt = 16 by decide)
                                                          have t17 := lv_neT c17 (show (17 : Int32).toInt = 17 by decide)
                                                          have t18 := lv_neT c18 (show (18 : Int32).toInt = 18 by decide)
                                                          have t19 := lv_neT c19 (show (19 : Int32).toInt = 19 by decide)
                                                          have t20 := lv_neT c20 (show (20 : Int32).toInt = 20 by decide)
                                                          have t21 := lv_neT c21 (show (21 : Int32).toInt = 21 by decide)
                                                          have t22 := lv_neT c22 (show (22 : Int32).toInt = 22 by decide)
                                                          have t23 := lv_neT c23 (show (23 : Int32).toInt = 23 by decide)
                                                          have t24 := lv_neT c24 (show (24 : Int32).toInt = 24 by decide)
                                                          have t25 := lv_neT c25 (show (25 : Int32).toInt = 25 by decide)
                                                          refine lv_tableOut (tgt := 951) hx hb dL_law_32 (by omega) (by decide) ?_
                                                          exact J951 fi fl ar gi gl br H locs ls hRel w hl
