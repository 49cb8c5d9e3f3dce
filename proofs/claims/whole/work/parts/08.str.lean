def MtT (ty : FieldType) (l : Launch) (y : MethodName) (cc : ByteArray) (nL : Nat) (rm : Room) (E : VE) (vs : List Value) (w w' : va_W) (r : Int32) : Prop := ∀ sz, Met l y (.code y cc nL (some ty) :: wsU) rm (Pre E vs w sz) (Qi E (va_A w sz) w' r) 0 0 (va_A w sz)
theorem MtT.of {ty : FieldType} {l : Launch} {y : MethodName} {cc : ByteArray} {nL : Nat} {rm : Room} {E : VE} {vs : List Value} {w w' : va_W} {r : Int32} {own : String} (hy : plainFor y = true) (ho : y.cls = own) (hn : (lg_sl vs).length ≤ nL)
    (body : ∀ (p : Program) (e : Env) (s : State) (m : MethodId) (args : Array Value) (below : List Frame) (meth : Method) (c : Code) (A : Nat → Prop), Bd p m c cc nL s args own E A → meth.sig.returnType = some ty → meth.locks = false → Wd E A s w s.heap [] → ∀ ls : Array Slot, lv_has ls nL (lv_args 0 vs) → W p l e rm s m args below meth c s.heap [] 0 0 (MQ below (Qi E A w' r) args s 0 0 A) (F0 m 0 ls [])) : MtT ty l y cc nL rm E vs w w' r := by
  intro sz
  refine va_MetF (cc := cc) (maxL := nL) (ret := some ty) hy rfl ?_
  intro p e s m args below meth c s₁ B hml hv
  obtain ⟨rfl, hsz, hP, hK, hD0, hN, hX⟩ := hv
  subst hsz
  have hts := atoms_spec B.pre
  have hb : Bd p m c cc nL s vs.toArray own E (va_A w s.heap.size) := ⟨⟨B.exec, B.bytes, hml, ho ▸ findClass_of_methodNamed B.named, fun w hw => hts w (List.mem_cons_of_mem _ hw)⟩, hK, hN, fun q h => Or.inr h, hX⟩
  have hl := lv_entry vs (n := nL) hn
  rw [lg_entry_eq]
  exact body p e s m _ below meth c _ hb B.returns B.notSynchronized ⟨hP, hD0.self, va_S.rf⟩ _ hl
section STRS
variable {p : Program} {l : Launch} {e : Env} {R : Room} {s : State} {m : MethodId} {args : Array Value} {below : List Frame} {meth : Method} {c : Code} {H : Heap} {locs : List Loc} {Q : State → Prop} {cells slots : Nat}
variable {cc : ByteArray} {nL pc : Nat} {ls : Array Slot} {rest st : List Value} {own : String} {E : VE} {A : Nat → Prop} {w0 w1 : va_W} {D : va_G} {ca : Nat → ClassId} {ak av : Nat → Nat}
theorem retT {ty : FieldType} {v : Int32} (B : Bd p m c cc nL s args own E A) (hr : meth.sig.returnType = some ty) (hk : meth.locks = false) (w : Wd E A s w0 H locs) (hz : narrow ty (.int v) = .int v) (hdg : decode cc pc = .ok (.ireturn, 1)) : W p l e R s m args below meth c H locs cells slots (MQ below (Qi E A w0 v) args s cells slots A) (F0 m pc ls [.int v]) :=
  W.zret B.1.1 B.1.2.1 hr hz (fun t ht hW => ⟨⟨v, (), rfl, rfl, by rw [ht]; exact w.1, w.2.1⟩, w.2.2.F ht⟩) w.2.2.2.2 hdg hk
theorem ldS {i idx : Nat} (B : Bd p m c cc nL s args RX3 (EC D ca ak av) A) (hi : i < 12) (hx : idS.getD i 0 = idx) (hdg : decode cc pc = .ok (.ldc idx, 2)) (kk : W p l e R s m args below meth c H locs cells slots Q (F0 m (pc + 2) ls (.ref (ak i) :: rest))) : W p l e R s m args below meth c H locs cells slots Q (F0 m pc ls rest) := by
  subst hx
  exact va_ldcS B.1.1 B.1.2.1 B.1.2.2.2.1 ((B.2.2.2.2 rfl).2.1 i hi) hdg kk
theorem callStr {ty : FieldType} {y : MethodName} {cc' : ByteArray} {nL' idx n i : Nat} {rm' : Room} {As : List Value} {r : Int32} (B : Bd p m c cc nL s args own (EC D ca ak av) A) (w : Wd (EC D ca ak av) A s w0 H locs) (hM : MtT ty l y cc' nL' rm' (EC D ca ak av) (.ref (ak i) :: As) [] [] r) (hG : GoodIn wsU (wsV own idx RJ0 y (.code y cc' nL' (some ty) :: wsU)))
    (hd : y.cls = RJ0 ∧ y.cls ≠ "java/lang/invoke/MethodHandle" ∧ y.cls ≠ "java/lang/invoke/VarHandle" ∧ (parseMethodDescriptor y.desc).map (fun d => d.parameters.length) = some n) (hi : i < 12) (hrc : rm'.cells = 0) (hrs : rm'.slots = 0)
    (hR : rm'.frames + 1 ≤ R.frames ∧ 8 + (nL' + 11) + rm'.locals ≤ R.locals) (hn : As.length = n) (hls : ls.size = nL) (hst : st = As.reverse ++ .ref (ak i) :: rest) (hrm : (rest.map fun v => v.category).sum ≤ 8) (hdg : decode cc pc = .ok (.invokevirtual idx, 3))
    (hcs : cells ≤ R.cells ∧ slots ≤ R.slots) (kk : ∀ (H1 : Heap) (locs1 : List Loc), Wd (EC D ca ak av) A s w0 H1 locs1 → W p l e R s m args below meth c H1 locs1 cells slots Q (F0 m (pc + 3) ls (.int r :: rest))) : W p l e R s m args below meth c H locs cells slots Q (F0 m pc ls st) := by
  subst hst
  have hFc := Wd.free0 B w
  refine va_calli (va_runV (As := As) (rest := rest) B.1 (hM H.size) (cwV n B.1.2.2.2.2 hG rfl hrc hrs hd hR) ⟨Pre.blind, vk_recv (B.2.2.2.2 rfl).1 hi w.2.2, preS0 B w _⟩ rfl hn hls rfl (lv_room hrm) hdg hcs) w.2.2 (fun q _ h => hFc q h) hFc (fun r' u t H1 locs1 ht hvm hw hB hz1 hk1 hS => ?_)
  subst hw
  exact kk H1 locs1 (w.keep0 hk1 hS)
theorem callST {ty : FieldType} {y : MethodName} {cc' : ByteArray} {nL' idx n : Nat} {rm' : Room} {As : List Value} {r : Int32} (B : Bd p m c cc nL s args own E A) (w : Wd E A s w0 H locs) (hM : MtT ty l y cc' nL' rm' E As [] [] r) (hG : GoodIn wsU (va_wsS own idx y (.code y cc' nL' (some ty) :: wsU)))
    (hd : y.cls ≠ "java/lang/invoke/MethodHandle" ∧ y.cls ≠ "java/lang/invoke/VarHandle" ∧ (parseMethodDescriptor y.desc).map (fun d => d.parameters.length) = some n) (hrc : rm'.cells = 0) (hrs : rm'.slots = 0)
    (hR : rm'.frames + 1 ≤ R.frames ∧ 8 + (nL' + 11) + rm'.locals ≤ R.locals) (hn : As.length = n) (hls : ls.size = nL) (hst : st = As.reverse ++ rest) (hrm : (rest.map fun v => v.category).sum ≤ 8) (hdg : decode cc pc = .ok (.invokestatic idx, 3))
    (hcs : cells ≤ R.cells ∧ slots ≤ R.slots) (kk : ∀ (H1 : Heap) (locs1 : List Loc), Wd E A s w0 H1 locs1 → W p l e R s m args below meth c H1 locs1 cells slots Q (F0 m (pc + 3) ls (.int r :: rest))) : W p l e R s m args below meth c H locs cells slots Q (F0 m pc ls st) := by
  subst hst
  have hFc := Wd.free0 B w
  refine va_calli (va_runS (As := As) (rest := rest) B.1 (hM H.size) (va_cwS n B.1.2.2.2.2 hG rfl hrc hrs hd hR) ⟨Pre.blind, preS0 B w _⟩ rfl hn hls rfl (lv_room hrm) hdg hcs) w.2.2 (fun q _ h => hFc q h) hFc (fun r' u t H1 locs1 ht hvm hw hB hz1 hk1 hS => ?_)
  subst hw
  exact kk H1 locs1 (w.keep0 hk1 hS)
theorem callSV {y : MethodName} {cc' : ByteArray} {nL' idx n : Nat} {rm' : Room} {As : List Value} (B : Bd p m c cc nL s args own E A) (w : Wd E A s w0 H locs) (hM : MtV l y cc' nL' rm' E As [] []) (hG : GoodIn wsU (va_wsS own idx y (.code y cc' nL' none :: wsU)))
    (hd : y.cls ≠ "java/lang/invoke/MethodHandle" ∧ y.cls ≠ "java/lang/invoke/VarHandle" ∧ (parseMethodDescriptor y.desc).map (fun d => d.parameters.length) = some n) (hrc : rm'.cells = 0) (hrs : rm'.slots = 0)
    (hR : rm'.frames + 1 ≤ R.frames ∧ 8 + (nL' + 11) + rm'.locals ≤ R.locals) (hn : As.length = n) (hls : ls.size = nL) (hst : st = As.reverse ++ rest) (hrm : (rest.map fun v => v.category).sum ≤ 8) (hdg : decode cc pc = .ok (.invokestatic idx, 3))
    (hcs : cells ≤ R.cells ∧ slots ≤ R.slots) (kk : ∀ (H1 : Heap) (locs1 : List Loc), Wd E A s w0 H1 locs1 → W p l e R s m args below meth c H1 locs1 cells slots Q (F0 m (pc + 3) ls rest)) : W p l e R s m args below meth c H locs cells slots Q (F0 m pc ls st) := by
  subst hst
  have hFc := Wd.free0 B w
  refine va_callv (va_runS (As := As) (rest := rest) B.1 (hM H.size) (va_cwS n B.1.2.2.2.2 hG rfl hrc hrs hd hR) ⟨Pre.blind, preS0 B w _⟩ rfl hn hls rfl (lv_room hrm) hdg hcs) w.2.2 (fun q _ h => hFc q h) hFc (fun u t H1 locs1 ht hvm hw hB hz1 hk1 hS => ?_)
  exact kk H1 locs1 (w.keep0 hk1 hS)
end STRS
set_option maxHeartbeats 4000000 in
set_option maxRecDepth 100000 in
theorem c_J3_checkIndex_8e157 (l : Launch) (E : VE) (i n : Int32) (v : Value) (hv : v.category = 1) (h0 : ¬ i < 0) (h1 : i < n) : MtI l yJ3_checkIndex_8e157 cJ3_checkIndex_8e157 3 { frames := 0, cells := 0, slots := 0, locals := 0 } E [.int i, .int n, v] [] [] i := by
  refine MtI.of (own := RJ3) (by decide +kernel) rfl (by simp [lg_sl, hv, show (Value.int i).category = 1 from rfl, show (Value.int n).category = 1 from rfl]) ?_
  intro p e s m args below meth c A B hr hk w ls hl
  have hx := B.1.1
  have hb := B.1.2.1
  have hown := B.1.2.2.2.1
  have hts := B.1.2.2.2.2
  have hl : lv_has ls 3 [(0, .int i), (1, .int n), (2, v)] := hl
  refine (show ∀ (H : Heap) (locs : List Loc), Wd E A s [] H locs → W p l e ({ frames := 0, cells := 0, slots := 0, locals := 0 } : Room) s m args below meth c H locs 0 0 (MQ below (Qi E A [] i) args s 0 0 A) (F0 m 0 ls []) from ?_) s.heap [] w
  intro H locs w
  refine lv_iload_n hx hb dJ3_checkIndex_8e157_0 rfl (lv_at hl 0 rfl) ?_
  refine lv_if_lt (tgt := 9) hx hb dJ3_checkIndex_8e157_1 (by decide) (fun h => absurd h h0) (fun _ => ?_)
  refine lv_iload_n hx hb dJ3_checkIndex_8e157_4 rfl (lv_at hl 0 rfl) ?_
  refine lv_iload_n hx hb dJ3_checkIndex_8e157_5 rfl (lv_at hl 1 rfl) ?_
  refine lv_icmp_lt (tgt := 16) hx hb dJ3_checkIndex_8e157_6 (by decide) (fun _ => ?_) (fun h => absurd h1 h)
  refine lv_iload_n hx hb dJ3_checkIndex_8e157_16 rfl (lv_at hl 0 rfl) ?_
  exact retI B hr hk w dJ3_checkIndex_8e157_17
set_option maxHeartbeats 4000000 in
set_option maxRecDepth 100000 in
theorem c_J0_checkIndex_df160 (l : Launch) (D : va_G) (ca : Nat → ClassId) (ak av : Nat → Nat) (i n : Int32) (h0 : ¬ i < 0) (h1 : i < n) : MtV l yJ0_checkIndex_df160 cJ0_checkIndex_df160 2 { frames := 1, cells := 0, slots := 0, locals := 22 } (EC D ca ak av) [.int i, .int n] [] [] := by
  refine MtV.of (own := RJ0) (by decide +kernel) rfl (Nat.le_of_ble_eq_true rfl) ?_
  intro p e s m args below meth c A B hr hk w ls hl
  have hx := B.1.1
  have hb := B.1.2.1
  have hown := B.1.2.2.2.1
  have hts := B.1.2.2.2.2
  have hl : lv_has ls 2 [(0, .int i), (1, .int n)] := hl
  refine (show ∀ (H : Heap) (locs : List Loc), Wd (EC D ca ak av) A s [] H locs → W p l e ({ frames := 1, cells := 0, slots := 0, locals := 22 } : Room) s m args below meth c H locs 0 0 (MQ below (Qv (EC D ca ak av) A []) args s 0 0 A) (F0 m 0 ls []) from ?_) s.heap [] w
  intro H locs w
  obtain ⟨-, -, -, v, hv, hZ⟩ := B.2.2.2.2 rfl
  refine lv_iload_n hx hb dJ0_checkIndex_df160_0 rfl (lv_at hl 0 rfl) ?_
  refine lv_iload_n hx hb dJ0_checkIndex_df160_1 rfl (lv_at hl 1 rfl) ?_
  refine va_gets hx hb hZ w.2.2 hown (hts _ kt2_130) (fun _ h => h) dJ0_checkIndex_df160_2 ?_
  refine callSI (As := [.int i, .int n, v]) (rest := []) B w (c_J3_checkIndex_8e157 l _ i n v hv h0 h1) (gS kt2_132 kt2_133 kt1_14 kt2_134) hdS_J3_checkIndex_8e157 rfl rfl ⟨Nat.le_of_ble_eq_true rfl, Nat.le_of_ble_eq_true rfl⟩ rfl hl.1 rfl (Nat.le_of_ble_eq_true rfl) dJ0_checkIndex_df160_5 ⟨Nat.le_of_ble_eq_true rfl, Nat.le_of_ble_eq_true rfl⟩ (fun H locs w => ?_)
  refine lv_pop hx hb dJ0_checkIndex_df160_8 rfl ?_
  exact retV B hr hk w dJ0_checkIndex_df160_9
set_option maxHeartbeats 4000000 in
set_option maxRecDepth 100000 in
theorem c_J1_charAt_3b067 (l : Launch) (D : va_G) (ca : Nat → ClassId) (ak av : Nat → Nat) (i : Nat) (k : Int32) (hi : i < 12) (hin : vp_in k (lenS.getD i 0)) : MtT .char l yJ1_charAt_3b067 cJ1_charAt_3b067 2 { frames := 2, cells := 0, slots := 0, locals := 43 } (EC D ca ak av) [.ref (av i), .int k] [] [] ((((bytS.getD i []).getD k.toNatClampNeg 0) &&& 255).toUInt32 % 65536).toInt32 := by
  refine MtT.of (own := RJ1) (by decide +kernel) rfl (Nat.le_of_ble_eq_true rfl) ?_
  intro p e s m args below meth c A B hr hk w ls hl
  have hx := B.1.1
  have hb := B.1.2.1
  have hown := B.1.2.2.2.1
  have hts := B.1.2.2.2.2
  have hl : lv_has ls 2 [(0, .ref (av i)), (1, .int k)] := hl
  refine (show ∀ (H : Heap) (locs : List Loc), Wd (EC D ca ak av) A s [] H locs → W p l e ({ frames := 2, cells := 0, slots := 0, locals := 43 } : Room) s m args below meth c H locs 0 0 (MQ below (Qi (EC D ca ak av) A [] ((((bytS.getD i []).getD k.toNatClampNeg 0) &&& 255).toUInt32 % 65536).toInt32) args s 0 0 A) (F0 m 0 ls []) from ?_) s.heap [] w
  intro H locs w
  obtain ⟨hS, -, -, -⟩ := B.2.2.2.2 rfl
  obtain ⟨-, -, -, hT⟩ := hS.1 i hi
  have hlen : lenS.getD i 0 < 10 := (show ∀ i, i < 12 → lenS.getD i 0 < 10 by decide) i hi
  have hk0 : ¬ k < 0 := fun h => hin (Or.inl h)
  have hk1 : k < Int32.ofNat (lenS.getD i 0) := by
    obtain ⟨j, hj, rfl⟩ := vp_in_of hin (by omega)
    exact nI_lt hj (by omega)
  refine lv_iload_n hx hb dJ1_charAt_3b067_0 rfl (lv_at hl 1 rfl) ?_
  refine lv_aload_n hx hb dJ1_charAt_3b067_1 rfl (lv_at hl 0 rfl) ?_
  refine va_tlen hx hb hT w.2.2 rfl dJ1_charAt_3b067_2 ?_
  refine callSV (As := [.int k, .int (Int32.ofNat (lenS.getD i 0))]) (rest := []) B w (c_J0_checkIndex_df160 l D ca ak av k _ hk0 hk1) (gS kt2_127 kt2_128 kt1_12 kt2_129) hdS_J0_checkIndex_df160 rfl rfl ⟨Nat.le_of_ble_eq_true rfl, Nat.le_of_ble_eq_true rfl⟩ rfl hl.1 rfl (Nat.le_of_ble_eq_true rfl) dJ1_charAt_3b067_3 ⟨Nat.le_of_ble_eq_true rfl, Nat.le_of_ble_eq_true rfl⟩ (fun H locs w => ?_)
  refine lv_aload_n hx hb dJ1_charAt_3b067_6 rfl (lv_at hl 0 rfl) ?_
  refine lv_iload_n hx hb dJ1_charAt_3b067_7 rfl (lv_at hl 1 rfl) ?_
  refine va_tb hx hb hT w.2.2 hin rfl dJ1_charAt_3b067_8 ?_
  refine lv_sipush (v := 255) hx hb dJ1_charAt_3b067_9 (by decide) ?_
  refine lv_iand hx hb dJ1_charAt_3b067_12 ?_
  refine lv_i2c hx hb dJ1_charAt_3b067_13 rfl ?_
  exact retT B hr hk w (pk_nc _) dJ1_charAt_3b067_14
set_option maxHeartbeats 4000000 in
set_option maxRecDepth 100000 in
theorem c_J0_coder_7d493 (l : Launch) (D : va_G) (ca : Nat → ClassId) (ak av : Nat → Nat) (i : Nat) (hi : i < 12) : MtT .byte l yJ0_coder_7d493 cJ0_coder_7d493 1 { frames := 0, cells := 0, slots := 0, locals := 0 } (EC D ca ak av) [.ref (ak i)] [] [] 0 := by
  refine MtT.of (own := RJ0) (by decide +kernel) rfl (Nat.le_of_ble_eq_true rfl) ?_
  intro p e s m args below meth c A B hr hk w ls hl
  have hx := B.1.1
  have hb := B.1.2.1
  have hown := B.1.2.2.2.1
  have hts := B.1.2.2.2.2
  have hl : lv_has ls 1 [(0, .ref (ak i))] := hl
  refine (show ∀ (H : Heap) (locs : List Loc), Wd (EC D ca ak av) A s [] H locs → W p l e ({ frames := 0, cells := 0, slots := 0, locals := 0 } : Room) s m args below meth c H locs 0 0 (MQ below (Qi (EC D ca ak av) A [] 0) args s 0 0 A) (F0 m 0 ls []) from ?_) s.heap [] w
  intro H locs w
  obtain ⟨hS, -, hZ, -⟩ := B.2.2.2.2 rfl
  obtain ⟨-, hC, -, -⟩ := hS.1 i hi
  refine va_gets hx hb hZ w.2.2 hown (hts _ kt2_114) (fun _ h => h) dJ0_coder_7d493_0 ?_
  refine lv_if_eq (tgt := 13) hx hb dJ0_coder_7d493_3 (by decide) (fun h => absurd h (by decide)) (fun _ => ?_)
  refine lv_aload_n hx hb dJ0_coder_7d493_6 rfl (lv_at hl 0 rfl) ?_
  refine vk_getf hx hb hC w.2.2 hown (hts _ kt5_104) (fun _ h => h) dJ0_coder_7d493_7 ?_
  refine lv_goto (tgt := 14) hx hb dJ0_coder_7d493_10 (by decide) ?_
  exact retT B hr hk w rfl dJ0_coder_7d493_14
set_option maxHeartbeats 4000000 in
set_option maxRecDepth 100000 in
theorem c_J0_isLatin1_aae02 (l : Launch) (D : va_G) (ca : Nat → ClassId) (ak av : Nat → Nat) (i : Nat) (hi : i < 12) : MtT .boolean l yJ0_isLatin1_aae02 cJ0_isLatin1_aae02 1 { frames := 0, cells := 0, slots := 0, locals := 0 } (EC D ca ak av) [.ref (ak i)] [] [] 1 := by
  refine MtT.of (own := RJ0) (by decide +kernel) rfl (Nat.le_of_ble_eq_true rfl) ?_
  intro p e s m args below meth c A B hr hk w ls hl
  have hx := B.1.1
  have hb := B.1.2.1
  have hown := B.1.2.2.2.1
  have hts := B.1.2.2.2.2
  have hl : lv_has ls 1 [(0, .ref (ak i))] := hl
  refine (show ∀ (H : Heap) (locs : List Loc), Wd (EC D ca ak av) A s [] H locs → W p l e ({ frames := 0, cells := 0, slots := 0, locals := 0 } : Room) s m args below meth c H locs 0 0 (MQ below (Qi (EC D ca ak av) A [] 1) args s 0 0 A) (F0 m 0 ls []) from ?_) s.heap [] w
  intro H locs w
  obtain ⟨hS, -, hZ, -⟩ := B.2.2.2.2 rfl
  obtain ⟨-, hC, -, -⟩ := hS.1 i hi
  refine va_gets hx hb hZ w.2.2 hown (hts _ kt2_114) (fun _ h => h) dJ0_isLatin1_aae02_0 ?_
  refine lv_if_eq (tgt := 17) hx hb dJ0_isLatin1_aae02_3 (by decide) (fun h => absurd h (by decide)) (fun _ => ?_)
  refine lv_aload_n hx hb dJ0_isLatin1_aae02_6 rfl (lv_at hl 0 rfl) ?_
  refine vk_getf hx hb hC w.2.2 hown (hts _ kt5_104) (fun _ h => h) dJ0_isLatin1_aae02_7 ?_
  refine lv_if_ne (tgt := 17) hx hb dJ0_isLatin1_aae02_10 (by decide) (fun h => absurd rfl h) (fun _ => ?_)
  refine lv_iconst (v := 1) hx hb dJ0_isLatin1_aae02_13 (by decide) ?_
  refine lv_goto (tgt := 18) hx hb dJ0_isLatin1_aae02_14 (by decide) ?_
  exact retT B hr hk w rfl dJ0_isLatin1_aae02_18
def f_J0_length_8abf5 (i : Nat) : Int32 := Int32.ofNat (lenS.getD i 0) >>> ((0 : Int32) &&& 31)
set_option maxHeartbeats 4000000 in
set_option maxRecDepth 100000 in
theorem c_J0_length_8abf5 (l : Launch) (D : va_G) (ca : Nat → ClassId) (ak av : Nat → Nat) (i : Nat) {r0 : Int32} (hf : f_J0_length_8abf5 i = r0) (hi : i < 12) : MtT .int l yJ0_length_8abf5 cJ0_length_8abf5 1 { frames := 2, cells := 0, slots := 0, locals := 60 } (EC D ca ak av) [.ref (ak i)] [] [] r0 := by
  refine MtT.of (own := RJ0) (by decide +kernel) rfl (Nat.le_of_ble_eq_true rfl) ?_
  intro p e s m args below meth c A B hr hk w ls hl
  have hx := B.1.1
  have hb := B.1.2.1
  have hown := B.1.2.2.2.1
  have hts := B.1.2.2.2.2
  have hl : lv_has ls 1 [(0, .ref (ak i))] := hl
  refine (show ∀ (H : Heap) (locs : List Loc), Wd (EC D ca ak av) A s [] H locs → W p l e ({ frames := 2, cells := 0, slots := 0, locals := 60 } : Room) s m args below meth c H locs 0 0 (MQ below (Qi (EC D ca ak av) A [] r0) args s 0 0 A) (F0 m 0 ls []) from ?_) s.heap [] w
  intro H locs w
  obtain ⟨hS, -, -, -⟩ := B.2.2.2.2 rfl
  obtain ⟨-, -, hV, hT⟩ := hS.1 i hi
  refine lv_aload_n hx hb dJ0_length_8abf5_0 rfl (lv_at hl 0 rfl) ?_
  refine vk_getf hx hb hV w.2.2 hown (hts _ kt5_103) (fun _ h => h) dJ0_length_8abf5_1 ?_
  refine va_tlen hx hb hT w.2.2 rfl dJ0_length_8abf5_4 ?_
  refine lv_aload_n hx hb dJ0_length_8abf5_5 rfl (lv_at hl 0 rfl) ?_
  refine callStr (As := []) (rest := [.int (Int32.ofNat (lenS.getD i 0))]) B w (c_J0_coder_7d493 l D ca ak av i hi) (gV kt2_110 kt2_111 kt2_112 kt1_12 kt2_113) hdV_J0_coder_7d493 hi rfl rfl ⟨Nat.le_of_ble_eq_true rfl, Nat.le_of_ble_eq_true rfl⟩ rfl hl.1 rfl (Nat.le_of_ble_eq_true rfl) dJ0_length_8abf5_6 ⟨Nat.le_of_ble_eq_true rfl, Nat.le_of_ble_eq_true rfl⟩ (fun H locs w => ?_)
  refine lv_ishr hx hb dJ0_length_8abf5_9 ?_
  unfold f_J0_length_8abf5 at hf
  cases hf
  exact retT B hr hk w rfl dJ0_length_8abf5_10
def f_J0_charAt_5068e (i : Nat) (k : Int32) : Option Int32 := gd k (lenS.getD i 0) (some ((((bytS.getD i []).getD k.toNatClampNeg 0) &&& 255).toUInt32 % 65536).toInt32)
set_option maxHeartbeats 4000000 in
set_option maxRecDepth 100000 in
theorem c_J0_charAt_5068e (l : Launch) (D : va_G) (ca : Nat → ClassId) (ak av : Nat → Nat) (i : Nat) (k : Int32) {r0 : Int32} (hf : f_J0_charAt_5068e i k = some r0) (hi : i < 12) : MtT .char l yJ0_charAt_5068e cJ0_charAt_5068e 2 { frames := 4, cells := 0, slots := 0, locals := 120 } (EC D ca ak av) [.ref (ak i), .int k] [] [] r0 := by
  refine MtT.of (own := RJ0) (by decide +kernel) rfl (Nat.le_of_ble_eq_true rfl) ?_
  intro p e s m args below meth c A B hr hk w ls hl
  have hx := B.1.1
  have hb := B.1.2.1
  have hown := B.1.2.2.2.1
  have hts := B.1.2.2.2.2
  have hl : lv_has ls 2 [(0, .ref (ak i)), (1, .int k)] := hl
  refine (show ∀ (H : Heap) (locs : List Loc), Wd (EC D ca ak av) A s [] H locs → W p l e ({ frames := 4, cells := 0, slots := 0, locals := 120 } : Room) s m args below meth c H locs 0 0 (MQ below (Qi (EC D ca ak av) A [] r0) args s 0 0 A) (F0 m 0 ls []) from ?_) s.heap [] w
  intro H locs w
  obtain ⟨hS, -, -, -⟩ := B.2.2.2.2 rfl
  obtain ⟨-, -, hV, hT⟩ := hS.1 i hi
  unfold f_J0_charAt_5068e at hf
  obtain ⟨hin, hf⟩ := gd_eq hf
  cases hf
  refine lv_aload_n hx hb dJ0_charAt_5068e_0 rfl (lv_at hl 0 rfl) ?_
  refine callStr (As := []) (rest := []) B w (c_J0_isLatin1_aae02 l D ca ak av i hi) (gV kt2_120 kt2_121 kt2_122 kt1_12 kt2_123) hdV_J0_isLatin1_aae02 hi rfl rfl ⟨Nat.le_of_ble_eq_true rfl, Nat.le_of_ble_eq_true rfl⟩ rfl hl.1 rfl (Nat.le_of_ble_eq_true rfl) dJ0_charAt_5068e_1 ⟨Nat.le_of_ble_eq_true rfl, Nat.le_of_ble_eq_true rfl⟩ (fun H locs w => ?_)
  refine lv_if_eq (tgt := 16) hx hb dJ0_charAt_5068e_4 (by decide) (fun h => absurd h (by decide)) (fun _ => ?_)
  refine lv_aload_n hx hb dJ0_charAt_5068e_7 rfl (lv_at hl 0 rfl) ?_
  refine vk_getf hx hb hV w.2.2 hown (hts _ kt5_103) (fun _ h => h) dJ0_charAt_5068e_8 ?_
  refine lv_iload_n hx hb dJ0_charAt_5068e_11 rfl (lv_at hl 1 rfl) ?_
  refine callST (As := [.ref (av i), .int k]) (rest := []) B w (c_J1_charAt_3b067 l D ca ak av i k hi hin) (gS kt2_124 kt2_125 kt1_13 kt2_126) hdS_J1_charAt_3b067 rfl rfl ⟨Nat.le_of_ble_eq_true rfl, Nat.le_of_ble_eq_true rfl⟩ rfl hl.1 rfl (Nat.le_of_ble_eq_true rfl) dJ0_charAt_5068e_12 ⟨Nat.le_of_ble_eq_true rfl, Nat.le_of_ble_eq_true rfl⟩ (fun H locs w => ?_)
  exact retT B hr hk w (pk_nc _) dJ0_charAt_5068e_15
