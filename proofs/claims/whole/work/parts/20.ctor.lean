def arV : Nat → Nat → Int32 := match f_X5_clear_V (fun _ _ => 0) with | some (_, z) => z | none => fun _ _ => 0
def rV : Int32 := match f_X5_clear_V (fun _ _ => 0) with | some (z, _) => z | none => 0
theorem eV : f_X5_clear_V (fun _ _ => 0) = some (rV, arV) := by
  have h : (f_X5_clear_V (fun _ _ => 0)).isSome = true := by decide +kernel
  unfold rV arV
  cases hz : f_X5_clear_V (fun _ _ => 0) with
  | none => rw [hz] at h; cases h
  | some z => rfl
set_option maxHeartbeats 4000000 in
set_option maxRecDepth 100000 in
theorem k_X6_init (l : Launch) (D : va_G) (h0 sz : Nat) : Met l yX6_init (.code yX6_init cX6_init 1 none :: wsU) { frames := 1, cells := 0, slots := 0, locals := 20 } (va_Pc [.ref h0] (fun U => U.heap.size = sz ∧ va_P D vwCl [(h0, .inr (6, [.int 0, .int 0, .int 0, .int 0, .int 0, .int 0, .int 0, .int 0]))] U.heap ∧ va_K D vwCl [] U ∧ va_D (fun _ => True) [(h0, .inr (6, [.int 0, .int 0, .int 0, .int 0, .int 0, .int 0, .int 0, .int 0]))] ∧ Nst U)) (va_Qv (fun _ : Unit => True) (fun _ t => va_P D vwCl [(h0, .inr (6, [.int 1, .int 3, .int 1, .int 1, .int 0, .int 1, .int 10, .int 153]))] t.heap ∧ va_K D vwCl [] t ∧ va_D (va_A [(h0, .inr (6, [.int 0, .int 0, .int 0, .int 0, .int 0, .int 0, .int 0, .int 0]))] sz) [(h0, .inr (6, [.int 1, .int 3, .int 1, .int 1, .int 0, .int 1, .int 10, .int 153]))]) (va_A [(h0, .inr (6, [.int 0, .int 0, .int 0, .int 0, .int 0, .int 0, .int 0, .int 0]))] sz)) 0 0 (va_A [(h0, .inr (6, [.int 0, .int 0, .int 0, .int 0, .int 0, .int 0, .int 0, .int 0]))] sz) := by
  refine va_MetF (cc := cX6_init) (maxL := 1) (ret := none) (by decide +kernel) rfl ?_
  intro p e s m args below meth c s₁ B hml hv
  obtain ⟨rfl, hsz, hP, hK, hD0, hN⟩ := hv
  have hx := B.exec
  have hb := B.bytes
  have hr := B.returns
  have hts0 := atoms_spec B.pre
  have hts : ∀ w ∈ wsU, w.before _ s = true := fun w hw => hts0 w (List.mem_cons_of_mem _ hw)
  have hown : s.vm.findClass RX6 = some m.cls := findClass_of_methodNamed B.named
  have hlocks := B.notSynchronized
  have hin : meth.name = "<init>" := (name_of_methodNamed B.named B.method).1
  subst hsz
  have hD := hD0.self (sz := s.heap.size)
  generalize hAe : va_A [(h0, .inr (6, [.int 0, .int 0, .int 0, .int 0, .int 0, .int 0, .int 0, .int 0]))] s.heap.size = A at hD ⊢
  have hA : ∀ q : Nat, s.heap.size ≤ q → A q := fun q h => by rw [← hAe]; exact Or.inr h
  have hS : va_S A s.heap s.heap [] := va_S.rf
  have hl := lv_entry ([.ref h0]) (n := 1) (Nat.le_of_ble_eq_true rfl)
  rw [lg_entry_eq]
  generalize (lg_sl ([.ref h0]) ++ List.replicate (1 - (lg_sl ([.ref h0])).length) Slot.unset).toArray = ls at hl ⊢
  have hl : lv_has ls 1 [(0, .ref h0)] := hl
  refine lv_aload_n hx hb dX6_init_0 rfl (lv_at hl 0 rfl) ?_
  refine W.objInit hx hb hown (hts _ kt1_31) (hts _ kt1_24) (hts _ kt1_25) rfl (by rw [hml]; exact hl.1) rfl dX6_init_1 (Nat.le_of_ble_eq_true rfl) (Nat.le_of_ble_eq_true rfl) ?_
  refine W.eq (g2 := F0 m 4 ls []) rfl ?_
  refine lv_aload_n hx hb dX6_init_4 rfl (lv_at hl 0 rfl) ?_
  obtain ⟨fi0, ef⟩ : ∃ z, f_X6_asAtFirst_U (fun _ => 0) = some z := ⟨_, rfl⟩
  have B : Bd p m c cX6_init 1 s #[Value.ref h0] RX6 (EU D (fun _ => 0) (fun _ => 0) (fun _ => 0)) A := ⟨⟨hx, hb, hml, hown, hts⟩, hK, hN, hA, fun h => by cases h⟩
  have w : Wd (EU D (fun _ => 0) (fun _ => 0) (fun _ => 0)) A s (wU (fun _ => h0) (fun _ => 0) (fun _ => 0) (fun _ => 0) (fun _ _ => 0)) s.heap [] := ⟨hP, hD, hS⟩
  refine callVV (As := []) (rest := []) B w (c_X6_asAtFirst_U l D (fun _ => 0) (fun _ => 0) (fun _ => 0) (fun _ => h0) (fun _ => 0) (fun _ => 0) (fun _ _ => 0) ef) (gV kt1_32 kt1_33 kt1_34 kt1_2 kt1_35) hdV_X6_asAtFirst 0 rfl rfl rfl rfl ⟨Nat.le_of_ble_eq_true rfl, Nat.le_of_ble_eq_true rfl⟩ rfl hl.1 rfl (Nat.le_of_ble_eq_true rfl) dX6_init_5 ⟨Nat.le_of_ble_eq_true rfl, Nat.le_of_ble_eq_true rfl⟩ (fun H locs w => ?_)
  obtain ⟨hP, hD, hS⟩ := w
  cases ef
  have hP : va_P D vwCl [(h0, .inr (6, [.int 1, .int 3, .int 1, .int 1, .int 0, .int 1, .int 10, .int 153]))] H := hP
  have hD : va_D A [(h0, .inr (6, [.int 1, .int 3, .int 1, .int 1, .int 0, .int 1, .int 10, .int 153]))] := hD
  refine W.widen (k := 0) (n := 0) (Nat.le_refl _) (Nat.le_refl _) ?_
  exact W.vret hx hb hr (fun t ht hW => ⟨⟨(), rfl, trivial, by rw [ht]; exact hP, va_K.moved hW.alike hK, hD⟩, hS.F ht⟩) hS.2.2 dX6_init_8 hlocks
set_option maxHeartbeats 4000000 in
set_option maxRecDepth 100000 in
theorem k_X0_init (l : Launch) (D : va_G) (h0 sz : Nat) : Met l yX0_init (.code yX0_init cX0_init 1 none :: wsU) { frames := 1, cells := 0, slots := 0, locals := 12 } (va_Pc [.ref h0] (fun U => U.heap.size = sz ∧ va_P D vwCl [(h0, .inr (0, [.long 0, .long 0, .long 0, .long 0, .long 0]))] U.heap ∧ va_K D vwCl [] U ∧ va_D (fun _ => True) [(h0, .inr (0, [.long 0, .long 0, .long 0, .long 0, .long 0]))] ∧ Nst U)) (va_Qv (fun _ : Unit => True) (fun _ t => va_P D vwCl [(h0, .inr (0, [.long 0, .long 0, .long 0, .long 0, .long 0]))] t.heap ∧ va_K D vwCl [] t ∧ va_D (va_A [(h0, .inr (0, [.long 0, .long 0, .long 0, .long 0, .long 0]))] sz) [(h0, .inr (0, [.long 0, .long 0, .long 0, .long 0, .long 0]))]) (va_A [(h0, .inr (0, [.long 0, .long 0, .long 0, .long 0, .long 0]))] sz)) 0 0 (va_A [(h0, .inr (0, [.long 0, .long 0, .long 0, .long 0, .long 0]))] sz) := by
  refine va_MetF (cc := cX0_init) (maxL := 1) (ret := none) (by decide +kernel) rfl ?_
  intro p e s m args below meth c s₁ B hml hv
  obtain ⟨rfl, hsz, hP, hK, hD0, hN⟩ := hv
  have hx := B.exec
  have hb := B.bytes
  have hr := B.returns
  have hts0 := atoms_spec B.pre
  have hts : ∀ w ∈ wsU, w.before _ s = true := fun w hw => hts0 w (List.mem_cons_of_mem _ hw)
  have hown : s.vm.findClass RX0 = some m.cls := findClass_of_methodNamed B.named
  have hlocks := B.notSynchronized
  have hin : meth.name = "<init>" := (name_of_methodNamed B.named B.method).1
  subst hsz
  have hD := hD0.self (sz := s.heap.size)
  generalize hAe : va_A [(h0, .inr (0, [.long 0, .long 0, .long 0, .long 0, .long 0]))] s.heap.size = A at hD ⊢
  have hA : ∀ q : Nat, s.heap.size ≤ q → A q := fun q h => by rw [← hAe]; exact Or.inr h
  have hS : va_S A s.heap s.heap [] := va_S.rf
  have hl := lv_entry ([.ref h0]) (n := 1) (Nat.le_of_ble_eq_true rfl)
  rw [lg_entry_eq]
  generalize (lg_sl ([.ref h0]) ++ List.replicate (1 - (lg_sl ([.ref h0])).length) Slot.unset).toArray = ls at hl ⊢
  have hl : lv_has ls 1 [(0, .ref h0)] := hl
  refine lv_aload_n hx hb dX0_init_0 rfl (lv_at hl 0 rfl) ?_
  refine W.objInit hx hb hown (hts _ kt1_184) (hts _ kt1_24) (hts _ kt1_25) rfl (by rw [hml]; exact hl.1) rfl dX0_init_1 (Nat.le_of_ble_eq_true rfl) (Nat.le_of_ble_eq_true rfl) ?_
  refine W.eq (g2 := F0 m 4 ls []) rfl ?_
  refine W.widen (k := 0) (n := 0) (Nat.le_refl _) (Nat.le_refl _) ?_
  exact W.vret hx hb hr (fun t ht hW => ⟨⟨(), rfl, trivial, by rw [ht]; exact hP, va_K.moved hW.alike hK, hD⟩, hS.F ht⟩) hS.2.2 dX0_init_4 hlocks
set_option maxHeartbeats 4000000 in
set_option maxRecDepth 100000 in
theorem k_X1_init (l : Launch) (D : va_G) (h0 sz : Nat) : Met l yX1_init (.code yX1_init cX1_init 1 none :: wsU) { frames := 1, cells := 2, slots := 12, locals := 12 } (va_Pc [.ref h0] (fun U => U.heap.size = sz ∧ va_P D vwCl [(h0, .inr (1, [.null, .null, .int 0, .int 0, .int 0, .int 0, .int 0, .int 0]))] U.heap ∧ va_K D vwCl [] U ∧ va_D (fun _ => True) [(h0, .inr (1, [.null, .null, .int 0, .int 0, .int 0, .int 0, .int 0, .int 0]))] ∧ Nst U)) (va_Qv (fun _ : Unit => True) (fun _ t => ∃ (q1 q2 : Nat) (c1 c2 : ClassId), va_P D vwCl [(h0, .inr (1, [.ref q1, .ref q2, .int 0, .int 0, .int 0, .int 0, .int 0, .int 0])), (q1, .inl (c1, 8, .inl (fun _ => 0))), (q2, .inl (c2, 4, .inl (fun _ => 0)))] t.heap ∧ va_K D vwCl [(c1, .int), (c2, .int)] t ∧ va_D (va_A [(h0, .inr (1, [.null, .null, .int 0, .int 0, .int 0, .int 0, .int 0, .int 0]))] sz) [(h0, .inr (1, [.ref q1, .ref q2, .int 0, .int 0, .int 0, .int 0, .int 0, .int 0])), (q1, .inl (c1, 8, .inl (fun _ => 0))), (q2, .inl (c2, 4, .inl (fun _ => 0)))]) (va_A [(h0, .inr (1, [.null, .null, .int 0, .int 0, .int 0, .int 0, .int 0, .int 0]))] sz)) 2 12 (va_A [(h0, .inr (1, [.null, .null, .int 0, .int 0, .int 0, .int 0, .int 0, .int 0]))] sz) := by
  refine va_MetF (cc := cX1_init) (maxL := 1) (ret := none) (by decide +kernel) rfl ?_
  intro p e s m args below meth c s₁ B hml hv
  obtain ⟨rfl, hsz, hP, hK, hD0, hN⟩ := hv
  have hx := B.exec
  have hb := B.bytes
  have hr := B.returns
  have hts0 := atoms_spec B.pre
  have hts : ∀ w ∈ wsU, w.before _ s = true := fun w hw => hts0 w (List.mem_cons_of_mem _ hw)
  have hown : s.vm.findClass RX1 = some m.cls := findClass_of_methodNamed B.named
  have hlocks := B.notSynchronized
  have hin : meth.name = "<init>" := (name_of_methodNamed B.named B.method).1
  subst hsz
  have hD := hD0.self (sz := s.heap.size)
  generalize hAe : va_A [(h0, .inr (1, [.null, .null, .int 0, .int 0, .int 0, .int 0, .int 0, .int 0]))] s.heap.size = A at hD ⊢
  have hA : ∀ q : Nat, s.heap.size ≤ q → A q := fun q h => by rw [← hAe]; exact Or.inr h
  have hS : va_S A s.heap s.heap [] := va_S.rf
  have hl := lv_entry ([.ref h0]) (n := 1) (Nat.le_of_ble_eq_true rfl)
  rw [lg_entry_eq]
  generalize (lg_sl ([.ref h0]) ++ List.replicate (1 - (lg_sl ([.ref h0])).length) Slot.unset).toArray = ls at hl ⊢
  have hl : lv_has ls 1 [(0, .ref h0)] := hl
  refine lv_aload_n hx hb dX1_init_0 rfl (lv_at hl 0 rfl) ?_
  refine W.objInit hx hb hown (hts _ kt1_124) (hts _ kt1_24) (hts _ kt1_25) rfl (by rw [hml]; exact hl.1) rfl dX1_init_1 (Nat.le_of_ble_eq_true rfl) (Nat.le_of_ble_eq_true rfl) ?_
  refine W.eq (g2 := F0 m 4 ls []) rfl ?_
  refine lv_aload_n hx hb dX1_init_4 rfl (lv_at hl 0 rfl) ?_
  refine lv_bipush (v := 8) hx hb dX1_init_5 (by decide) ?_
  refine va_newa (atype := .int) (a0 := (8, .inl (fun _ => 0))) (N' := 8) (ty := .int) hx hb (hts _ kt1_118) rfl hK hP hD hS hA (fun _ => rfl) (by decide) (by decide) (by decide) (Nat.le_of_ble_eq_true rfl) (Nat.le_of_ble_eq_true rfl) dX1_init_7 (fun q1 c1 H hK hP hD hS => ?_)
  have hP : va_P D vwCl [(h0, .inr (1, [.null, .null, .int 0, .int 0, .int 0, .int 0, .int 0, .int 0])), (q1, .inl (c1, 8, .inl (fun _ => 0)))] H := hP
  have hD : va_D A [(h0, .inr (1, [.null, .null, .int 0, .int 0, .int 0, .int 0, .int 0, .int 0])), (q1, .inl (c1, 8, .inl (fun _ => 0)))] := hD
  have hK : va_K D vwCl [(c1, .int)] s := hK
  refine W.widen (k := 1) (n := 8) (Nat.le_refl _) (Nat.le_refl _) ?_
  refine va_putF (D := D) (ci := 1) (v := .ref q1) (ty := .array .int) (C := RX1) (T := TX1) (N := 8) hx hb hts inU1 tyX1 tyX1_ok nmX1 hown hK hP hD hS 0 rfl rfl 0 (by decide) (hts _ kt1_125) (fun _ h9 => h9) rfl hin rfl (by decide +kernel) rfl rfl (Nat.le_of_ble_eq_true rfl) dX1_init_9 (fun H locs hP hD hS => ?_)
  have hP : va_P D vwCl [(h0, .inr (1, [.ref q1, .null, .int 0, .int 0, .int 0, .int 0, .int 0, .int 0])), (q1, .inl (c1, 8, .inl (fun _ => 0)))] H := hP
  have hD : va_D A [(h0, .inr (1, [.ref q1, .null, .int 0, .int 0, .int 0, .int 0, .int 0, .int 0])), (q1, .inl (c1, 8, .inl (fun _ => 0)))] := hD
  refine lv_aload_n hx hb dX1_init_12 rfl (lv_at hl 0 rfl) ?_
  refine lv_iconst (v := 4) hx hb dX1_init_13 (by decide) ?_
  refine va_newa (atype := .int) (a0 := (4, .inl (fun _ => 0))) (N' := 4) (ty := .int) hx hb (hts _ kt1_118) rfl hK hP hD hS hA (fun _ => rfl) (by decide) (by decide) (by decide) (Nat.le_of_ble_eq_true rfl) (Nat.le_of_ble_eq_true rfl) dX1_init_14 (fun q2 c2 H hK hP hD hS => ?_)
  have hP : va_P D vwCl [(h0, .inr (1, [.ref q1, .null, .int 0, .int 0, .int 0, .int 0, .int 0, .int 0])), (q1, .inl (c1, 8, .inl (fun _ => 0))), (q2, .inl (c2, 4, .inl (fun _ => 0)))] H := hP
  have hD : va_D A [(h0, .inr (1, [.ref q1, .null, .int 0, .int 0, .int 0, .int 0, .int 0, .int 0])), (q1, .inl (c1, 8, .inl (fun _ => 0))), (q2, .inl (c2, 4, .inl (fun _ => 0)))] := hD
  have hK : va_K D vwCl [(c1, .int), (c2, .int)] s := hK
  refine W.widen (k := 2) (n := 12) (Nat.le_refl _) (Nat.le_refl _) ?_
  refine va_putF (D := D) (ci := 1) (v := .ref q2) (ty := .array .int) (C := RX1) (T := TX1) (N := 8) hx hb hts inU1 tyX1 tyX1_ok nmX1 hown hK hP hD hS 0 rfl rfl 1 (by decide) (hts _ kt1_126) (fun _ h9 => h9) rfl hin rfl (by decide +kernel) rfl rfl (Nat.le_of_ble_eq_true rfl) dX1_init_16 (fun H locs hP hD hS => ?_)
  have hP : va_P D vwCl [(h0, .inr (1, [.ref q1, .ref q2, .int 0, .int 0, .int 0, .int 0, .int 0, .int 0])), (q1, .inl (c1, 8, .inl (fun _ => 0))), (q2, .inl (c2, 4, .inl (fun _ => 0)))] H := hP
  have hD : va_D A [(h0, .inr (1, [.ref q1, .ref q2, .int 0, .int 0, .int 0, .int 0, .int 0, .int 0])), (q1, .inl (c1, 8, .inl (fun _ => 0))), (q2, .inl (c2, 4, .inl (fun _ => 0)))] := hD
  refine W.widen (k := 2) (n := 12) (Nat.le_refl _) (Nat.le_refl _) ?_
  exact W.vret hx hb hr (fun t ht hW => ⟨⟨(), rfl, trivial, q1, q2, c1, c2, by rw [ht]; exact hP, va_K.moved hW.alike hK, hD⟩, hS.F ht⟩) hS.2.2 dX1_init_19 hlocks
set_option maxHeartbeats 4000000 in
set_option maxRecDepth 100000 in
theorem k_X7_init (l : Launch) (D : va_G) (h0 sz : Nat) : Met l yX7_init (.code yX7_init cX7_init 1 none :: wsU) { frames := 1, cells := 2, slots := 2002, locals := 12 } (va_Pc [.ref h0] (fun U => U.heap.size = sz ∧ va_P D vwCl [(h0, .inr (7, [.null, .null, .int 0, .int 0, .int 0]))] U.heap ∧ va_K D vwCl [] U ∧ va_D (fun _ => True) [(h0, .inr (7, [.null, .null, .int 0, .int 0, .int 0]))] ∧ Nst U)) (va_Qv (fun _ : Unit => True) (fun _ t => ∃ (q1 q2 : Nat) (c1 c2 : ClassId), va_P D vwCl [(h0, .inr (7, [.ref q1, .ref q2, .int 0, .int 0, .int 0])), (q1, .inl (c1, 1001, .inl (fun _ => 0))), (q2, .inl (c2, 1001, .inl (fun _ => 0)))] t.heap ∧ va_K D vwCl [(c1, .int), (c2, .int)] t ∧ va_D (va_A [(h0, .inr (7, [.null, .null, .int 0, .int 0, .int 0]))] sz) [(h0, .inr (7, [.ref q1, .ref q2, .int 0, .int 0, .int 0])), (q1, .inl (c1, 1001, .inl (fun _ => 0))), (q2, .inl (c2, 1001, .inl (fun _ => 0)))]) (va_A [(h0, .inr (7, [.null, .null, .int 0, .int 0, .int 0]))] sz)) 2 2002 (va_A [(h0, .inr (7, [.null, .null, .int 0, .int 0, .int 0]))] sz) := by
  refine va_MetF (cc := cX7_init) (maxL := 1) (ret := none) (by decide +kernel) rfl ?_
  intro p e s m args below meth c s₁ B hml hv
  obtain ⟨rfl, hsz, hP, hK, hD0, hN⟩ := hv
  have hx := B.exec
  have hb := B.bytes
  have hr := B.returns
  have hts0 := atoms_spec B.pre
  have hts : ∀ w ∈ wsU, w.before _ s = true := fun w hw => hts0 w (List.mem_cons_of_mem _ hw)
  have hown : s.vm.findClass RX7 = some m.cls := findClass_of_methodNamed B.named
  have hlocks := B.notSynchronized
  have hin : meth.name = "<init>" := (name_of_methodNamed B.named B.method).1
  subst hsz
  have hD := hD0.self (sz := s.heap.size)
  generalize hAe : va_A [(h0, .inr (7, [.null, .null, .int 0, .int 0, .int 0]))] s.heap.size = A at hD ⊢
  have hA : ∀ q : Nat, s.heap.size ≤ q → A q := fun q h => by rw [← hAe]; exact Or.inr h
  have hS : va_S A s.heap s.heap [] := va_S.rf
  have hl := lv_entry ([.ref h0]) (n := 1) (Nat.le_of_ble_eq_true rfl)
  rw [lg_entry_eq]
  generalize (lg_sl ([.ref h0]) ++ List.replicate (1 - (lg_sl ([.ref h0])).length) Slot.unset).toArray = ls at hl ⊢
  have hl : lv_has ls 1 [(0, .ref h0)] := hl
  refine lv_aload_n hx hb dX7_init_0 rfl (lv_at hl 0 rfl) ?_
  refine W.objInit hx hb hown (hts _ kt1_160) (hts _ kt1_24) (hts _ kt1_25) rfl (by rw [hml]; exact hl.1) rfl dX7_init_1 (Nat.le_of_ble_eq_true rfl) (Nat.le_of_ble_eq_true rfl) ?_
  refine W.eq (g2 := F0 m 4 ls []) rfl ?_
  refine lv_aload_n hx hb dX7_init_4 rfl (lv_at hl 0 rfl) ?_
  refine lv_sipush (v := 1001) hx hb dX7_init_5 (by decide) ?_
  refine va_newa (atype := .int) (a0 := (1001, .inl (fun _ => 0))) (N' := 1001) (ty := .int) hx hb (hts _ kt1_118) rfl hK hP hD hS hA (fun _ => rfl) (by decide) (by decide) (by decide) (Nat.le_of_ble_eq_true rfl) (Nat.le_of_ble_eq_true rfl) dX7_init_8 (fun q1 c1 H hK hP hD hS => ?_)
  have hP : va_P D vwCl [(h0, .inr (7, [.null, .null, .int 0, .int 0, .int 0])), (q1, .inl (c1, 1001, .inl (fun _ => 0)))] H := hP
  have hD : va_D A [(h0, .inr (7, [.null, .null, .int 0, .int 0, .int 0])), (q1, .inl (c1, 1001, .inl (fun _ => 0)))] := hD
  have hK : va_K D vwCl [(c1, .int)] s := hK
  refine W.widen (k := 1) (n := 1001) (Nat.le_refl _) (Nat.le_refl _) ?_
  refine va_putF (D := D) (ci := 7) (v := .ref q1) (ty := .array .int) (C := RX7) (T := TX7) (N := 5) hx hb hts inU7 tyX7 tyX7_ok nmX7 hown hK hP hD hS 0 rfl rfl 0 (by decide) (hts _ kt1_161) (fun _ h9 => h9) rfl hin rfl (by decide +kernel) rfl rfl (Nat.le_of_ble_eq_true rfl) dX7_init_10 (fun H locs hP hD hS => ?_)
  have hP : va_P D vwCl [(h0, .inr (7, [.ref q1, .null, .int 0, .int 0, .int 0])), (q1, .inl (c1, 1001, .inl (fun _ => 0)))] H := hP
  have hD : va_D A [(h0, .inr (7, [.ref q1, .null, .int 0, .int 0, .int 0])), (q1, .inl (c1, 1001, .inl (fun _ => 0)))] := hD
  refine lv_aload_n hx hb dX7_init_13 rfl (lv_at hl 0 rfl) ?_
  refine lv_sipush (v := 1001) hx hb dX7_init_14 (by decide) ?_
  refine va_newa (atype := .int) (a0 := (1001, .inl (fun _ => 0))) (N' := 1001) (ty := .int) hx hb (hts _ kt1_118) rfl hK hP hD hS hA (fun _ => rfl) (by decide) (by decide) (by decide) (Nat.le_of_ble_eq_true rfl) (Nat.le_of_ble_eq_true rfl) dX7_init_17 (fun q2 c2 H hK hP hD hS => ?_)
  have hP : va_P D vwCl [(h0, .inr (7, [.ref q1, .null, .int 0, .int 0, .int 0])), (q1, .inl (c1, 1001, .inl (fun _ => 0))), (q2, .inl (c2, 1001, .inl (fun _ => 0)))] H := hP
  have hD : va_D A [(h0, .inr (7, [.ref q1, .null, .int 0, .int 0, .int 0])), (q1, .inl (c1, 1001, .inl (fun _ => 0))), (q2, .inl (c2, 1001, .inl (fun _ => 0)))] := hD
  have hK : va_K D vwCl [(c1, .int), (c2, .int)] s := hK
  refine W.widen (k := 2) (n := 2002) (Nat.le_refl _) (Nat.le_refl _) ?_
  refine va_putF (D := D) (ci := 7) (v := .ref q2) (ty := .array .int) (C := RX7) (T := TX7) (N := 5) hx hb hts inU7 tyX7 tyX7_ok nmX7 hown hK hP hD hS 0 rfl rfl 1 (by decide) (hts _ kt1_162) (fun _ h9 => h9) rfl hin rfl (by decide +kernel) rfl rfl (Nat.le_of_ble_eq_true rfl) dX7_init_19 (fun H locs hP hD hS => ?_)
  have hP : va_P D vwCl [(h0, .inr (7, [.ref q1, .ref q2, .int 0, .int 0, .int 0])), (q1, .inl (c1, 1001, .inl (fun _ => 0))), (q2, .inl (c2, 1001, .inl (fun _ => 0)))] H := hP
  have hD : va_D A [(h0, .inr (7, [.ref q1, .ref q2, .int 0, .int 0, .int 0])), (q1, .inl (c1, 1001, .inl (fun _ => 0))), (q2, .inl (c2, 1001, .inl (fun _ => 0)))] := hD
  refine W.widen (k := 2) (n := 2002) (Nat.le_refl _) (Nat.le_refl _) ?_
  exact W.vret hx hb hr (fun t ht hW => ⟨⟨(), rfl, trivial, q1, q2, c1, c2, by rw [ht]; exact hP, va_K.moved hW.alike hK, hD⟩, hS.F ht⟩) hS.2.2 dX7_init_22 hlocks
set_option maxHeartbeats 4000000 in
set_option maxRecDepth 100000 in
theorem k_X2_init (l : Launch) (D : va_G) (h0 h1 h2 h3 h4 sz : Nat) : Met l yX2_init (.code yX2_init cX2_init 5 none :: wsU) { frames := 1, cells := 0, slots := 0, locals := 12 } (va_Pc [.ref h0, .ref h1, .ref h2, .ref h3, .ref h4] (fun U => U.heap.size = sz ∧ va_P D vwCl [(h0, .inr (2, [.null, .null, .null, .null, .long 0, .long 0, .long 0]))] U.heap ∧ va_K D vwCl [] U ∧ va_D (fun _ => True) [(h0, .inr (2, [.null, .null, .null, .null, .long 0, .long 0, .long 0]))] ∧ Nst U)) (va_Qv (fun _ : Unit => True) (fun _ t => va_P D vwCl [(h0, .inr (2, [.ref h1, .ref h2, .ref h3, .ref h4, .long 0, .long 0, .long 0]))] t.heap ∧ va_K D vwCl [] t ∧ va_D (va_A [(h0, .inr (2, [.null, .null, .null, .null, .long 0, .long 0, .long 0]))] sz) [(h0, .inr (2, [.ref h1, .ref h2, .ref h3, .ref h4, .long 0, .long 0, .long 0]))]) (va_A [(h0, .inr (2, [.null, .null, .null, .null, .long 0, .long 0, .long 0]))] sz)) 0 0 (va_A [(h0, .inr (2, [.null, .null, .null, .null, .long 0, .long 0, .long 0]))] sz) := by
  refine va_MetF (cc := cX2_init) (maxL := 5) (ret := none) (by decide +kernel) rfl ?_
  intro p e s m args below meth c s₁ B hml hv
  obtain ⟨rfl, hsz, hP, hK, hD0, hN⟩ := hv
  have hx := B.exec
  have hb := B.bytes
  have hr := B.returns
  have hts0 := atoms_spec B.pre
  have hts : ∀ w ∈ wsU, w.before _ s = true := fun w hw => hts0 w (List.mem_cons_of_mem _ hw)
  have hown : s.vm.findClass RX2 = some m.cls := findClass_of_methodNamed B.named
  have hlocks := B.notSynchronized
  have hin : meth.name = "<init>" := (name_of_methodNamed B.named B.method).1
  subst hsz
  have hD := hD0.self (sz := s.heap.size)
  generalize hAe : va_A [(h0, .inr (2, [.null, .null, .null, .null, .long 0, .long 0, .long 0]))] s.heap.size = A at hD ⊢
  have hA : ∀ q : Nat, s.heap.size ≤ q → A q := fun q h => by rw [← hAe]; exact Or.inr h
  have hS : va_S A s.heap s.heap [] := va_S.rf
  have hl := lv_entry ([.ref h0, .ref h1, .ref h2, .ref h3, .ref h4]) (n := 5) (Nat.le_of_ble_eq_true rfl)
  rw [lg_entry_eq]
  generalize (lg_sl ([.ref h0, .ref h1, .ref h2, .ref h3, .ref h4]) ++ List.replicate (5 - (lg_sl ([.ref h0, .ref h1, .ref h2, .ref h3, .ref h4])).length) Slot.unset).toArray = ls at hl ⊢
  have hl : lv_has ls 5 [(0, .ref h0), (1, .ref h1), (2, .ref h2), (3, .ref h3), (4, .ref h4)] := hl
  refine lv_aload_n hx hb dX2_init_0 rfl (lv_at hl 0 rfl) ?_
  refine W.objInit hx hb hown (hts _ kt1_211) (hts _ kt1_24) (hts _ kt1_25) rfl (by rw [hml]; exact hl.1) rfl dX2_init_1 (Nat.le_of_ble_eq_true rfl) (Nat.le_of_ble_eq_true rfl) ?_
  refine W.eq (g2 := F0 m 4 ls []) rfl ?_
  refine lv_aload_n hx hb dX2_init_4 rfl (lv_at hl 0 rfl) ?_
  refine lv_aload_n hx hb dX2_init_5 rfl (lv_at hl 1 rfl) ?_
  refine va_putF (D := D) (ci := 2) (v := .ref h1) (ty := .object "SaidOfHim$Village") (C := RX2) (T := TX2) (N := 7) hx hb hts inU2 tyX2 tyX2_ok nmX2 hown hK hP hD hS 0 rfl rfl 0 (by decide) (hts _ kt1_212) (fun _ h9 => h9) rfl hin rfl (by decide +kernel) rfl rfl (Nat.le_of_ble_eq_true rfl) dX2_init_6 (fun H locs hP hD hS => ?_)
  have hP : va_P D vwCl [(h0, .inr (2, [.ref h1, .null, .null, .null, .long 0, .long 0, .long 0]))] H := hP
  have hD : va_D A [(h0, .inr (2, [.ref h1, .null, .null, .null, .long 0, .long 0, .long 0]))] := hD
  refine lv_aload_n hx hb dX2_init_9 rfl (lv_at hl 0 rfl) ?_
  refine lv_aload_n hx hb dX2_init_10 rfl (lv_at hl 2 rfl) ?_
  refine va_putF (D := D) (ci := 2) (v := .ref h2) (ty := .object "SaidOfHim$Custom") (C := RX2) (T := TX2) (N := 7) hx hb hts inU2 tyX2 tyX2_ok nmX2 hown hK hP hD hS 0 rfl rfl 1 (by decide) (hts _ kt1_214) (fun _ h9 => h9) rfl hin rfl (by decide +kernel) rfl rfl (Nat.le_of_ble_eq_true rfl) dX2_init_11 (fun H locs hP hD hS => ?_)
  have hP : va_P D vwCl [(h0, .inr (2, [.ref h1, .ref h2, .null, .null, .long 0, .long 0, .long 0]))] H := hP
  have hD : va_D A [(h0, .inr (2, [.ref h1, .ref h2, .null, .null, .long 0, .long 0, .long 0]))] := hD
  refine lv_aload_n hx hb dX2_init_14 rfl (lv_at hl 0 rfl) ?_
  refine lv_aload_n hx hb dX2_init_15 rfl (lv_at hl 3 rfl) ?_
  refine va_putF (D := D) (ci := 2) (v := .ref h3) (ty := .object "SaidOfHim$Walk") (C := RX2) (T := TX2) (N := 7) hx hb hts inU2 tyX2 tyX2_ok nmX2 hown hK hP hD hS 0 rfl rfl 2 (by decide) (hts _ kt1_215) (fun _ h9 => h9) rfl hin rfl (by decide +kernel) rfl rfl (Nat.le_of_ble_eq_true rfl) dX2_init_16 (fun H locs hP hD hS => ?_)
  have hP : va_P D vwCl [(h0, .inr (2, [.ref h1, .ref h2, .ref h3, .null, .long 0, .long 0, .long 0]))] H := hP
  have hD : va_D A [(h0, .inr (2, [.ref h1, .ref h2, .ref h3, .null, .long 0, .long 0, .long 0]))] := hD
  refine lv_aload_n hx hb dX2_init_19 rfl (lv_at hl 0 rfl) ?_
  refine lv_aload hx hb dX2_init_20 (lv_at hl 4 rfl) ?_
  refine va_putF (D := D) (ci := 2) (v := .ref h4) (ty := .object "SaidOfHim$Another") (C := RX2) (T := TX2) (N := 7) hx hb hts inU2 tyX2 tyX2_ok nmX2 hown hK hP hD hS 0 rfl rfl 3 (by decide) (hts _ kt1_216) (fun _ h9 => h9) rfl hin rfl (by decide +kernel) rfl rfl (Nat.le_of_ble_eq_true rfl) dX2_init_22 (fun H locs hP hD hS => ?_)
  have hP : va_P D vwCl [(h0, .inr (2, [.ref h1, .ref h2, .ref h3, .ref h4, .long 0, .long 0, .long 0]))] H := hP
  have hD : va_D A [(h0, .inr (2, [.ref h1, .ref h2, .ref h3, .ref h4, .long 0, .long 0, .long 0]))] := hD
  refine W.widen (k := 0) (n := 0) (Nat.le_refl _) (Nat.le_refl _) ?_
  exact W.vret hx hb hr (fun t ht hW => ⟨⟨(), rfl, trivial, by rw [ht]; exact hP, va_K.moved hW.alike hK, hD⟩, hS.F ht⟩) hS.2.2 dX2_init_25 hlocks
set_option maxHeartbeats 4000000 in
set_option maxRecDepth 100000 in
theorem k_X4_init (l : Launch) (D : va_G) (h0 h1 sz : Nat) : Met l yX4_init (.code yX4_init cX4_init 2 none :: wsU) { frames := 1, cells := 1, slots := 4096, locals := 12 } (va_Pc [.ref h0, .ref h1] (fun U => U.heap.size = sz ∧ va_P D vwCl [(h0, .inr (4, [.null, .null, .int 0, .int 0, .int 0]))] U.heap ∧ va_K D vwCl [] U ∧ va_D (fun _ => True) [(h0, .inr (4, [.null, .null, .int 0, .int 0, .int 0]))] ∧ Nst U)) (va_Qv (fun _ : Unit => True) (fun _ t => ∃ (q1 : Nat) (c1 : ClassId), va_P D vwCl [(h0, .inr (4, [.ref h1, .ref q1, .int 0, .int (-1), .int (-2)])), (q1, .inl (c1, 4096, .inl (fun _ => 0)))] t.heap ∧ va_K D vwCl [(c1, .int)] t ∧ va_D (va_A [(h0, .inr (4, [.null, .null, .int 0, .int 0, .int 0]))] sz) [(h0, .inr (4, [.ref h1, .ref q1, .int 0, .int (-1), .int (-2)])), (q1, .inl (c1, 4096, .inl (fun _ => 0)))]) (va_A [(h0, .inr (4, [.null, .null, .int 0, .int 0, .int 0]))] sz)) 1 4096 (va_A [(h0, .inr (4, [.null, .null, .int 0, .int 0, .int 0]))] sz) := by
  refine va_MetF (cc := cX4_init) (maxL := 2) (ret := none) (by decide +kernel) rfl ?_
  intro p e s m args below meth c s₁ B hml hv
  obtain ⟨rfl, hsz, hP, hK, hD0, hN⟩ := hv
  have hx := B.exec
  have hb := B.bytes
  have hr := B.returns
  have hts0 := atoms_spec B.pre
  have hts : ∀ w ∈ wsU, w.before _ s = true := fun w hw => hts0 w (List.mem_cons_of_mem _ hw)
  have hown : s.vm.findClass RX4 = some m.cls := findClass_of_methodNamed B.named
  have hlocks := B.notSynchronized
  have hin : meth.name = "<init>" := (name_of_methodNamed B.named B.method).1
  subst hsz
  have hD := hD0.self (sz := s.heap.size)
  generalize hAe : va_A [(h0, .inr (4, [.null, .null, .int 0, .int 0, .int 0]))] s.heap.size = A at hD ⊢
  have hA : ∀ q : Nat, s.heap.size ≤ q → A q := fun q h => by rw [← hAe]; exact Or.inr h
  have hS : va_S A s.heap s.heap [] := va_S.rf
  have hl := lv_entry ([.ref h0, .ref h1]) (n := 2) (Nat.le_of_ble_eq_true rfl)
  rw [lg_entry_eq]
  generalize (lg_sl ([.ref h0, .ref h1]) ++ List.replicate (2 - (lg_sl ([.ref h0, .ref h1])).length) Slot.unset).toArray = ls at hl ⊢
  have hl : lv_has ls 2 [(0, .ref h0), (1, .ref h1)] := hl
  refine lv_aload_n hx hb dX4_init_0 rfl (lv_at hl 0 rfl) ?_
  refine W.objInit hx hb hown (hts _ kt2_0) (hts _ kt1_24) (hts _ kt1_25) rfl (by rw [hml]; exact hl.1) rfl dX4_init_1 (Nat.le_of_ble_eq_true rfl) (Nat.le_of_ble_eq_true rfl) ?_
  refine W.eq (g2 := F0 m 4 ls []) rfl ?_
  refine lv_aload_n hx hb dX4_init_4 rfl (lv_at hl 0 rfl) ?_
  refine lv_sipush (v := 4096) hx hb dX4_init_5 (by decide) ?_
  refine va_newa (atype := .int) (a0 := (4096, .inl (fun _ => 0))) (N' := 4096) (ty := .int) hx hb (hts _ kt1_118) rfl hK hP hD hS hA (fun _ => rfl) (by decide) (by decide) (by decide) (Nat.le_of_ble_eq_true rfl) (Nat.le_of_ble_eq_true rfl) dX4_init_8 (fun q1 c1 H hK hP hD hS => ?_)
  have hP : va_P D vwCl [(h0, .inr (4, [.null, .null, .int 0, .int 0, .int 0])), (q1, .inl (c1, 4096, .inl (fun _ => 0)))] H := hP
  have hD : va_D A [(h0, .inr (4, [.null, .null, .int 0, .int 0, .int 0])), (q1, .inl (c1, 4096, .inl (fun _ => 0)))] := hD
  have hK : va_K D vwCl [(c1, .int)] s := hK
  refine W.widen (k := 1) (n := 4096) (Nat.le_refl _) (Nat.le_refl _) ?_
  refine va_putF (D := D) (ci := 4) (v := .ref q1) (ty := .array .int) (C := RX4) (T := TX4) (N := 5) hx hb hts inU4 tyX4 tyX4_ok nmX4 hown hK hP hD hS 0 rfl rfl 1 (by decide) (hts _ kt2_2) (fun _ h9 => h9) rfl hin rfl (by decide +kernel) rfl rfl (Nat.le_of_ble_eq_true rfl) dX4_init_10 (fun H locs hP hD hS => ?_)
  have hP : va_P D vwCl [(h0, .inr (4, [.null, .ref q1, .int 0, .int 0, .int 0])), (q1, .inl (c1, 4096, .inl (fun _ => 0)))] H := hP
  have hD : va_D A [(h0, .inr (4, [.null, .ref q1, .int 0, .int 0, .int 0])), (q1, .inl (c1, 4096, .inl (fun _ => 0)))] := hD
  refine lv_aload_n hx hb dX4_init_13 rfl (lv_at hl 0 rfl) ?_
  refine lv_iconst (v := 0) hx hb dX4_init_14 (by decide) ?_
  refine va_put (D := D) (ci := 4) (v := .int 0) (ty := .boolean) (C := RX4) (T := TX4) (N := 5) hx hb hts inU4 tyX4 tyX4_ok nmX4 hown hK hP hD hS 0 rfl rfl 2 (by decide) (hts _ kt2_3) (fun _ h9 => h9) rfl (by decide +kernel) rfl rfl (Nat.le_of_ble_eq_true rfl) dX4_init_15 (fun H locs hP hD hS => ?_)
  have hP : va_P D vwCl [(h0, .inr (4, [.null, .ref q1, .int 0, .int 0, .int 0])), (q1, .inl (c1, 4096, .inl (fun _ => 0)))] H := hP
  have hD : va_D A [(h0, .inr (4, [.null, .ref q1, .int 0, .int 0, .int 0])), (q1, .inl (c1, 4096, .inl (fun _ => 0)))] := hD
  refine lv_aload_n hx hb dX4_init_18 rfl (lv_at hl 0 rfl) ?_
  refine lv_iconst (v := (-1)) hx hb dX4_init_19 (by decide) ?_
  refine va_put (D := D) (ci := 4) (v := .int (-1)) (ty := .int) (C := RX4) (T := TX4) (N := 5) hx hb hts inU4 tyX4 tyX4_ok nmX4 hown hK hP hD hS 0 rfl rfl 3 (by decide) (hts _ kt2_4) (fun _ h9 => h9) rfl (by decide +kernel) rfl rfl (Nat.le_of_ble_eq_true rfl) dX4_init_20 (fun H locs hP hD hS => ?_)
  have hP : va_P D vwCl [(h0, .inr (4, [.null, .ref q1, .int 0, .int (-1), .int 0])), (q1, .inl (c1, 4096, .inl (fun _ => 0)))] H := hP
  have hD : va_D A [(h0, .inr (4, [.null, .ref q1, .int 0, .int (-1), .int 0])), (q1, .inl (c1, 4096, .inl (fun _ => 0)))] := hD
  refine lv_aload_n hx hb dX4_init_23 rfl (lv_at hl 0 rfl) ?_
  refine lv_bipush (v := (-2)) hx hb dX4_init_24 (by decide) ?_
  refine va_put (D := D) (ci := 4) (v := .int (-2)) (ty := .int) (C := RX4) (T := TX4) (N := 5) hx hb hts inU4 tyX4 tyX4_ok nmX4 hown hK hP hD hS 0 rfl rfl 4 (by decide) (hts _ kt2_5) (fun _ h9 => h9) rfl (by decide +kernel) rfl rfl (Nat.le_of_ble_eq_true rfl) dX4_init_26 (fun H locs hP hD hS => ?_)
  have hP : va_P D vwCl [(h0, .inr (4, [.null, .ref q1, .int 0, .int (-1), .int (-2)])), (q1, .inl (c1, 4096, .inl (fun _ => 0)))] H := hP
  have hD : va_D A [(h0, .inr (4, [.null, .ref q1, .int 0, .int (-1), .int (-2)])), (q1, .inl (c1, 4096, .inl (fun _ => 0)))] := hD
  refine lv_aload_n hx hb dX4_init_29 rfl (lv_at hl 0 rfl) ?_
  refine lv_aload_n hx hb dX4_init_30 rfl (lv_at hl 1 rfl) ?_
  refine va_putF (D := D) (ci := 4) (v := .ref h1) (ty := .object "SaidOfHim$Judge") (C := RX4) (T := TX4) (N := 5) hx hb hts inU4 tyX4 tyX4_ok nmX4 hown hK hP hD hS 0 rfl rfl 0 (by decide) (hts _ kt2_1) (fun _ h9 => h9) rfl hin rfl (by decide +kernel) rfl rfl (Nat.le_of_ble_eq_true rfl) dX4_init_31 (fun H locs hP hD hS => ?_)
  have hP : va_P D vwCl [(h0, .inr (4, [.ref h1, .ref q1, .int 0, .int (-1), .int (-2)])), (q1, .inl (c1, 4096, .inl (fun _ => 0)))] H := hP
  have hD : va_D A [(h0, .inr (4, [.ref h1, .ref q1, .int 0, .int (-1), .int (-2)])), (q1, .inl (c1, 4096, .inl (fun _ => 0)))] := hD
  refine W.widen (k := 1) (n := 4096) (Nat.le_refl _) (Nat.le_refl _) ?_
  exact W.vret hx hb hr (fun t ht hW => ⟨⟨(), rfl, trivial, q1, c1, by rw [ht]; exact hP, va_K.moved hW.alike hK, hD⟩, hS.F ht⟩) hS.2.2 dX4_init_34 hlocks
set_option maxHeartbeats 4000000 in
set_option maxRecDepth 100000 in
theorem k_X5_init (l : Launch) (D : va_G) (h0 sz : Nat) : Met l yX5_init (.code yX5_init cX5_init 1 none :: wsU) { frames := 2, cells := 2, slots := 12, locals := 44 } (va_Pc [.ref h0] (fun U => U.heap.size = sz ∧ va_P D vwCl [(h0, .inr (5, [.null, .null]))] U.heap ∧ va_K D vwCl [] U ∧ va_D (fun _ => True) [(h0, .inr (5, [.null, .null]))] ∧ Nst U)) (va_Qv (fun _ : Unit => True) (fun _ t => ∃ (q1 q2 : Nat) (c1 c2 : ClassId), va_P D vwCl [(h0, .inr (5, [.ref q1, .ref q2])), (q1, .inl (c1, 6, .inl (arV 1))), (q2, .inl (c2, 6, .inl (arV 2)))] t.heap ∧ va_K D vwCl [(c1, .int), (c2, .int)] t ∧ va_D (va_A [(h0, .inr (5, [.null, .null]))] sz) [(h0, .inr (5, [.ref q1, .ref q2])), (q1, .inl (c1, 6, .inl (arV 1))), (q2, .inl (c2, 6, .inl (arV 2)))]) (va_A [(h0, .inr (5, [.null, .null]))] sz)) 2 12 (va_A [(h0, .inr (5, [.null, .null]))] sz) := by
  refine va_MetF (cc := cX5_init) (maxL := 1) (ret := none) (by decide +kernel) rfl ?_
  intro p e s m args below meth c s₁ B hml hv
  obtain ⟨rfl, hsz, hP, hK, hD0, hN⟩ := hv
  have hx := B.exec
  have hb := B.bytes
  have hr := B.returns
  have hts0 := atoms_spec B.pre
  have hts : ∀ w ∈ wsU, w.before _ s = true := fun w hw => hts0 w (List.mem_cons_of_mem _ hw)
  have hown : s.vm.findClass RX5 = some m.cls := findClass_of_methodNamed B.named
  have hlocks := B.notSynchronized
  have hin : meth.name = "<init>" := (name_of_methodNamed B.named B.method).1
  subst hsz
  have hD := hD0.self (sz := s.heap.size)
  generalize hAe : va_A [(h0, .inr (5, [.null, .null]))] s.heap.size = A at hD ⊢
  have hA : ∀ q : Nat, s.heap.size ≤ q → A q := fun q h => by rw [← hAe]; exact Or.inr h
  have hS : va_S A s.heap s.heap [] := va_S.rf
  have hl := lv_entry ([.ref h0]) (n := 1) (Nat.le_of_ble_eq_true rfl)
  rw [lg_entry_eq]
  generalize (lg_sl ([.ref h0]) ++ List.replicate (1 - (lg_sl ([.ref h0])).length) Slot.unset).toArray = ls at hl ⊢
  have hl : lv_has ls 1 [(0, .ref h0)] := hl
  refine lv_aload_n hx hb dX5_init_0 rfl (lv_at hl 0 rfl) ?_
  refine W.objInit hx hb hown (hts _ kt2_22) (hts _ kt1_24) (hts _ kt1_25) rfl (by rw [hml]; exact hl.1) rfl dX5_init_1 (Nat.le_of_ble_eq_true rfl) (Nat.le_of_ble_eq_true rfl) ?_
  refine W.eq (g2 := F0 m 4 ls []) rfl ?_
  refine lv_aload_n hx hb dX5_init_4 rfl (lv_at hl 0 rfl) ?_
  refine lv_bipush (v := 6) hx hb dX5_init_5 (by decide) ?_
  refine va_newa (atype := .int) (a0 := (6, .inl (fun _ => 0))) (N' := 6) (ty := .int) hx hb (hts _ kt1_118) rfl hK hP hD hS hA (fun _ => rfl) (by decide) (by decide) (by decide) (Nat.le_of_ble_eq_true rfl) (Nat.le_of_ble_eq_true rfl) dX5_init_7 (fun q1 c1 H hK hP hD hS => ?_)
  have hP : va_P D vwCl [(h0, .inr (5, [.null, .null])), (q1, .inl (c1, 6, .inl (fun _ => 0)))] H := hP
  have hD : va_D A [(h0, .inr (5, [.null, .null])), (q1, .inl (c1, 6, .inl (fun _ => 0)))] := hD
  have hK : va_K D vwCl [(c1, .int)] s := hK
  refine W.widen (k := 1) (n := 6) (Nat.le_refl _) (Nat.le_refl _) ?_
  refine va_putF (D := D) (ci := 5) (v := .ref q1) (ty := .array .int) (C := RX5) (T := TX5) (N := 2) hx hb hts inU5 tyX5 tyX5_ok nmX5 hown hK hP hD hS 0 rfl rfl 0 (by decide) (hts _ kt2_33) (fun _ h9 => h9) rfl hin rfl (by decide +kernel) rfl rfl (Nat.le_of_ble_eq_true rfl) dX5_init_9 (fun H locs hP hD hS => ?_)
  have hP : va_P D vwCl [(h0, .inr (5, [.ref q1, .null])), (q1, .inl (c1, 6, .inl (fun _ => 0)))] H := hP
  have hD : va_D A [(h0, .inr (5, [.ref q1, .null])), (q1, .inl (c1, 6, .inl (fun _ => 0)))] := hD
  refine lv_aload_n hx hb dX5_init_12 rfl (lv_at hl 0 rfl) ?_
  refine lv_bipush (v := 6) hx hb dX5_init_13 (by decide) ?_
  refine va_newa (atype := .int) (a0 := (6, .inl (fun _ => 0))) (N' := 6) (ty := .int) hx hb (hts _ kt1_118) rfl hK hP hD hS hA (fun _ => rfl) (by decide) (by decide) (by decide) (Nat.le_of_ble_eq_true rfl) (Nat.le_of_ble_eq_true rfl) dX5_init_15 (fun q2 c2 H hK hP hD hS => ?_)
  have hP : va_P D vwCl [(h0, .inr (5, [.ref q1, .null])), (q1, .inl (c1, 6, .inl (fun _ => 0))), (q2, .inl (c2, 6, .inl (fun _ => 0)))] H := hP
  have hD : va_D A [(h0, .inr (5, [.ref q1, .null])), (q1, .inl (c1, 6, .inl (fun _ => 0))), (q2, .inl (c2, 6, .inl (fun _ => 0)))] := hD
  have hK : va_K D vwCl [(c1, .int), (c2, .int)] s := hK
  refine W.widen (k := 2) (n := 12) (Nat.le_refl _) (Nat.le_refl _) ?_
  refine va_putF (D := D) (ci := 5) (v := .ref q2) (ty := .array .int) (C := RX5) (T := TX5) (N := 2) hx hb hts inU5 tyX5 tyX5_ok nmX5 hown hK hP hD hS 0 rfl rfl 1 (by decide) (hts _ kt2_34) (fun _ h9 => h9) rfl hin rfl (by decide +kernel) rfl rfl (Nat.le_of_ble_eq_true rfl) dX5_init_17 (fun H locs hP hD hS => ?_)
  have hP : va_P D vwCl [(h0, .inr (5, [.ref q1, .ref q2])), (q1, .inl (c1, 6, .inl (fun _ => 0))), (q2, .inl (c2, 6, .inl (fun _ => 0)))] H := hP
  have hD : va_D A [(h0, .inr (5, [.ref q1, .ref q2])), (q1, .inl (c1, 6, .inl (fun _ => 0))), (q2, .inl (c2, 6, .inl (fun _ => 0)))] := hD
  refine lv_aload_n hx hb dX5_init_20 rfl (lv_at hl 0 rfl) ?_
  have B : Bd p m c cX5_init 1 s #[Value.ref h0] RX5 (EV D (fun k => if k = 1 then c1 else c2) (fun _ => 0) (fun _ => 0)) A := ⟨⟨hx, hb, hml, hown, hts⟩, hK, hN, hA, fun h => by cases h⟩
  have w : Wd (EV D (fun k => if k = 1 then c1 else c2) (fun _ => 0) (fun _ => 0)) A s (wV (fun k => if k = 0 then h0 else if k = 1 then q1 else q2) (fun k => if k = 1 then c1 else c2) (fun _ => 0) (fun _ => 0) (fun _ _ => 0)) H locs := ⟨hP, hD, hS⟩
  refine callVI (As := []) (rest := []) B w (c_X5_clear_V l D (fun k => if k = 1 then c1 else c2) (fun _ => 0) (fun _ => 0) (fun k => if k = 0 then h0 else if k = 1 then q1 else q2) (fun _ => 0) (fun _ => 0) (fun _ _ => 0) eV) (gV kt2_23 kt2_24 kt2_25 kt1_9 kt2_26) hdV_X5_clear 0 rfl rfl rfl rfl ⟨Nat.le_of_ble_eq_true rfl, Nat.le_of_ble_eq_true rfl⟩ rfl hl.1 rfl (Nat.le_of_ble_eq_true rfl) dX5_init_21 ⟨Nat.le_of_ble_eq_true rfl, Nat.le_of_ble_eq_true rfl⟩ (fun H locs w => ?_)
  obtain ⟨hP, hD, hS⟩ := w
  have hP : va_P D vwCl [(h0, .inr (5, [.ref q1, .ref q2])), (q1, .inl (c1, 6, .inl (arV 1))), (q2, .inl (c2, 6, .inl (arV 2)))] H := hP
  have hD : va_D A [(h0, .inr (5, [.ref q1, .ref q2])), (q1, .inl (c1, 6, .inl (arV 1))), (q2, .inl (c2, 6, .inl (arV 2)))] := hD
  refine lv_pop hx hb dX5_init_24 rfl ?_
  refine W.widen (k := 2) (n := 12) (Nat.le_refl _) (Nat.le_refl _) ?_
  exact W.vret hx hb hr (fun t ht hW => ⟨⟨(), rfl, trivial, q1, q2, c1, c2, by rw [ht]; exact hP, va_K.moved hW.alike hK, hD⟩, hS.F ht⟩) hS.2.2 dX5_init_25 hlocks
set_option maxHeartbeats 4000000 in
set_option maxRecDepth 100000 in
theorem k_X3_init (l : Launch) (D : va_G) (h0 sz : Nat) : Met l yX3_init (.code yX3_init cX3_init 1 none :: wsU) { frames := 2, cells := 2, slots := 128, locals := 40 } (va_Pc [.ref h0] (fun U => U.heap.size = sz ∧ va_P D vwCl [(h0, .inr (3, [.null, .null, .int 0, .int 0, .int 0, .int 0, .int 0]))] U.heap ∧ va_K D vwCl [] U ∧ va_D (fun _ => True) [(h0, .inr (3, [.null, .null, .int 0, .int 0, .int 0, .int 0, .int 0]))] ∧ Nst U)) (va_Qv (fun _ : Unit => True) (fun _ t => ∃ (q1 q2 : Nat) (c1 : ClassId), va_P D vwCl [(h0, .inr (3, [.ref q1, .ref q2, .int 0, .int (-1), .int 0, .int 0, .int 0])), (q1, .inl (c1, 120, .inl (fun _ => 0))), (q2, .inr (6, [.int 1, .int 3, .int 1, .int 1, .int 0, .int 1, .int 10, .int 153]))] t.heap ∧ va_K D vwCl [(c1, .int)] t ∧ va_D (va_A [(h0, .inr (3, [.null, .null, .int 0, .int 0, .int 0, .int 0, .int 0]))] sz) [(h0, .inr (3, [.ref q1, .ref q2, .int 0, .int (-1), .int 0, .int 0, .int 0])), (q1, .inl (c1, 120, .inl (fun _ => 0))), (q2, .inr (6, [.int 1, .int 3, .int 1, .int 1, .int 0, .int 1, .int 10, .int 153]))]) (va_A [(h0, .inr (3, [.null, .null, .int 0, .int 0, .int 0, .int 0, .int 0]))] sz)) 2 128 (va_A [(h0, .inr (3, [.null, .null, .int 0, .int 0, .int 0, .int 0, .int 0]))] sz) := by
  refine va_MetF (cc := cX3_init) (maxL := 1) (ret := none) (by decide +kernel) rfl ?_
  intro p e s m args below meth c s₁ B hml hv
  obtain ⟨rfl, hsz, hP, hK, hD0, hN⟩ := hv
  have hx := B.exec
  have hb := B.bytes
  have hr := B.returns
  have hts0 := atoms_spec B.pre
  have hts : ∀ w ∈ wsU, w.before _ s = true := fun w hw => hts0 w (List.mem_cons_of_mem _ hw)
  have hown : s.vm.findClass RX3 = some m.cls := findClass_of_methodNamed B.named
  have hlocks := B.notSynchronized
  have hin : meth.name = "<init>" := (name_of_methodNamed B.named B.method).1
  subst hsz
  have hD := hD0.self (sz := s.heap.size)
  generalize hAe : va_A [(h0, .inr (3, [.null, .null, .int 0, .int 0, .int 0, .int 0, .int 0]))] s.heap.size = A at hD ⊢
  have hA : ∀ q : Nat, s.heap.size ≤ q → A q := fun q h => by rw [← hAe]; exact Or.inr h
  have hS : va_S A s.heap s.heap [] := va_S.rf
  have hl := lv_entry ([.ref h0]) (n := 1) (Nat.le_of_ble_eq_true rfl)
  rw [lg_entry_eq]
  generalize (lg_sl ([.ref h0]) ++ List.replicate (1 - (lg_sl ([.ref h0])).length) Slot.unset).toArray = ls at hl ⊢
  have hl : lv_has ls 1 [(0, .ref h0)] := hl
  refine lv_aload_n hx hb dX3_init_0 rfl (lv_at hl 0 rfl) ?_
  refine W.objInit hx hb hown (hts _ kt1_90) (hts _ kt1_24) (hts _ kt1_25) rfl (by rw [hml]; exact hl.1) rfl dX3_init_1 (Nat.le_of_ble_eq_true rfl) (Nat.le_of_ble_eq_true rfl) ?_
  refine W.eq (g2 := F0 m 4 ls []) rfl ?_
  refine lv_aload_n hx hb dX3_init_4 rfl (lv_at hl 0 rfl) ?_
  refine lv_bipush (v := 120) hx hb dX3_init_5 (by decide) ?_
  refine va_newa (atype := .int) (a0 := (120, .inl (fun _ => 0))) (N' := 120) (ty := .int) hx hb (hts _ kt1_118) rfl hK hP hD hS hA (fun _ => rfl) (by decide) (by decide) (by decide) (Nat.le_of_ble_eq_true rfl) (Nat.le_of_ble_eq_true rfl) dX3_init_7 (fun q1 c1 H hK hP hD hS => ?_)
  have hP : va_P D vwCl [(h0, .inr (3, [.null, .null, .int 0, .int 0, .int 0, .int 0, .int 0])), (q1, .inl (c1, 120, .inl (fun _ => 0)))] H := hP
  have hD : va_D A [(h0, .inr (3, [.null, .null, .int 0, .int 0, .int 0, .int 0, .int 0])), (q1, .inl (c1, 120, .inl (fun _ => 0)))] := hD
  have hK : va_K D vwCl [(c1, .int)] s := hK
  refine W.widen (k := 1) (n := 120) (Nat.le_refl _) (Nat.le_refl _) ?_
  refine va_putF (D := D) (ci := 3) (v := .ref q1) (ty := .array .int) (C := RX3) (T := TX3) (N := 7) hx hb hts inU3 tyX3 tyX3_ok nmX3 hown hK hP hD hS 0 rfl rfl 0 (by decide) (hts _ kt1_93) (fun _ h9 => h9) rfl hin rfl (by decide +kernel) rfl rfl (Nat.le_of_ble_eq_true rfl) dX3_init_9 (fun H locs hP hD hS => ?_)
  have hP : va_P D vwCl [(h0, .inr (3, [.ref q1, .null, .int 0, .int 0, .int 0, .int 0, .int 0])), (q1, .inl (c1, 120, .inl (fun _ => 0)))] H := hP
  have hD : va_D A [(h0, .inr (3, [.ref q1, .null, .int 0, .int 0, .int 0, .int 0, .int 0])), (q1, .inl (c1, 120, .inl (fun _ => 0)))] := hD
  refine lv_aload_n hx hb dX3_init_12 rfl (lv_at hl 0 rfl) ?_
  refine va_new (ci := 6) (fs := [.int 0, .int 0, .int 0, .int 0, .int 0, .int 0, .int 0, .int 0]) (C := RX6) (T := TX6) (N := 8) hx hb hts inU6 tyX6 tyX6_ok hown (hts _ kt1_91) (hts _ kt1_27) (hts _ kt1_2) hK hP hD hS hA rfl (fun j hj => by rcases (show j = 0 ∨ j = 1 ∨ j = 2 ∨ j = 3 ∨ j = 4 ∨ j = 5 ∨ j = 6 ∨ j = 7 by omega) with rfl | rfl | rfl | rfl | rfl | rfl | rfl | rfl <;> rfl) (Nat.le_of_ble_eq_true rfl) (Nat.le_of_ble_eq_true rfl) dX3_init_13 (fun q2 H hP hD hS => ?_)
  have hP : va_P D vwCl [(h0, .inr (3, [.ref q1, .null, .int 0, .int 0, .int 0, .int 0, .int 0])), (q1, .inl (c1, 120, .inl (fun _ => 0))), (q2, .inr (6, [.int 0, .int 0, .int 0, .int 0, .int 0, .int 0, .int 0, .int 0]))] H := hP
  have hD : va_D A [(h0, .inr (3, [.ref q1, .null, .int 0, .int 0, .int 0, .int 0, .int 0])), (q1, .inl (c1, 120, .inl (fun _ => 0))), (q2, .inr (6, [.int 0, .int 0, .int 0, .int 0, .int 0, .int 0, .int 0, .int 0]))] := hD
  refine W.widen (k := 2) (n := 128) (Nat.le_refl _) (Nat.le_refl _) ?_
  refine lv_dup hx hb dX3_init_16 rfl ?_
  have hPc := hP.sub (ws' := [(q2, .inr (6, [.int 0, .int 0, .int 0, .int 0, .int 0, .int 0, .int 0, .int 0]))]) [2] rfl
  have hDc := hD.sub (ws' := [(q2, .inr (6, [.int 0, .int 0, .int 0, .int 0, .int 0, .int 0, .int 0, .int 0]))]) [2] (by decide) rfl
  have hKc := hK.sub (tys' := []) [] rfl
  have hFc := va_free (wc := [(q2, .inr (6, [.int 0, .int 0, .int 0, .int 0, .int 0, .int 0, .int 0, .int 0]))]) hD hS hA [2] rfl
  refine va_callv (va_runI (As := []) (rest := [.ref q2, .ref h0]) ⟨hx, hb, hml, hown, hts⟩ (k_X6_init l D q2 H.size) (cwI 0 hts (gN kt1_30) rfl rfl rfl (hts _ kt1_2) (hts _ kt1_92) (hts _ kt1_29) rfl (by decide +kernel) ⟨Nat.le_of_ble_eq_true rfl, Nat.le_of_ble_eq_true rfl⟩) ⟨fun a U g mk q => by obtain ⟨q0, q1, qP, qK, qD, qN⟩ := q; exact ⟨q0, q1, qP, va_K.moved (u := U) (U := U.calling g mk a) (Vm.Alike.refl U.vm) qK, qD, qN.same rfl⟩, fun U hU hW => ⟨rfl, by rw [hU], by rw [hU]; exact hPc, va_K.moved hW.alike hKc, hDc.weaken (fun _ _ _ _ => trivial), hN.warm hW⟩⟩ rfl rfl hl.1 rfl (lv_room (Nat.le_of_ble_eq_true rfl)) dX3_init_17 ⟨Nat.le_of_ble_eq_true rfl, Nat.le_of_ble_eq_true rfl⟩) hS (fun q _ h => hFc q h) hFc (fun u t H1 locs ht hvm hw hB hz1 hk1 hS => ?_)
  obtain ⟨hP1, hK1, hD1⟩ := hB
  rw [ht] at hP1
  have hK1 := va_K.moved hvm.symm hK1
  obtain ⟨hP, hD⟩ := va_join (wr := [(h0, .inr (3, [.ref q1, .null, .int 0, .int 0, .int 0, .int 0, .int 0])), (q1, .inl (c1, 120, .inl (fun _ => 0)))]) (w1 := [(q2, .inr (6, [.int 1, .int 3, .int 1, .int 1, .int 0, .int 1, .int 10, .int 153]))]) hP hD [2] [0, 1] rfl rfl (by decide) (by decide) hk1 hFc hP1 hD1
  have hK := hK.app hK1
  generalize H1 = H at hP hS ⊢
  have hP : va_P D vwCl [(h0, .inr (3, [.ref q1, .null, .int 0, .int 0, .int 0, .int 0, .int 0])), (q1, .inl (c1, 120, .inl (fun _ => 0))), (q2, .inr (6, [.int 1, .int 3, .int 1, .int 1, .int 0, .int 1, .int 10, .int 153]))] H := hP
  have hD : va_D A [(h0, .inr (3, [.ref q1, .null, .int 0, .int 0, .int 0, .int 0, .int 0])), (q1, .inl (c1, 120, .inl (fun _ => 0))), (q2, .inr (6, [.int 1, .int 3, .int 1, .int 1, .int 0, .int 1, .int 10, .int 153]))] := hD
  have hK : va_K D vwCl [(c1, .int)] s := hK
  refine W.widen (k := 2) (n := 128) (Nat.le_refl _) (Nat.le_refl _) ?_
  refine va_putF (D := D) (ci := 3) (v := .ref q2) (ty := .object "SaidOfHim$Village") (C := RX3) (T := TX3) (N := 7) hx hb hts inU3 tyX3 tyX3_ok nmX3 hown hK hP hD hS 0 rfl rfl 1 (by decide) (hts _ kt1_94) (fun _ h9 => h9) rfl hin rfl (by decide +kernel) rfl rfl (Nat.le_of_ble_eq_true rfl) dX3_init_20 (fun H locs hP hD hS => ?_)
  have hP : va_P D vwCl [(h0, .inr (3, [.ref q1, .ref q2, .int 0, .int 0, .int 0, .int 0, .int 0])), (q1, .inl (c1, 120, .inl (fun _ => 0))), (q2, .inr (6, [.int 1, .int 3, .int 1, .int 1, .int 0, .int 1, .int 10, .int 153]))] H := hP
  have hD : va_D A [(h0, .inr (3, [.ref q1, .ref q2, .int 0, .int 0, .int 0, .int 0, .int 0])), (q1, .inl (c1, 120, .inl (fun _ => 0))), (q2, .inr (6, [.int 1, .int 3, .int 1, .int 1, .int 0, .int 1, .int 10, .int 153]))] := hD
  refine lv_aload_n hx hb dX3_init_23 rfl (lv_at hl 0 rfl) ?_
  refine lv_iconst (v := 0) hx hb dX3_init_24 (by decide) ?_
  refine va_put (D := D) (ci := 3) (v := .int 0) (ty := .int) (C := RX3) (T := TX3) (N := 7) hx hb hts inU3 tyX3 tyX3_ok nmX3 hown hK hP hD hS 0 rfl rfl 2 (by decide) (hts _ kt1_96) (fun _ h9 => h9) rfl (by decide +kernel) rfl rfl (Nat.le_of_ble_eq_true rfl) dX3_init_25 (fun H locs hP hD hS => ?_)
  have hP : va_P D vwCl [(h0, .inr (3, [.ref q1, .ref q2, .int 0, .int 0, .int 0, .int 0, .int 0])), (q1, .inl (c1, 120, .inl (fun _ => 0))), (q2, .inr (6, [.int 1, .int 3, .int 1, .int 1, .int 0, .int 1, .int 10, .int 153]))] H := hP
  have hD : va_D A [(h0, .inr (3, [.ref q1, .ref q2, .int 0, .int 0, .int 0, .int 0, .int 0])), (q1, .inl (c1, 120, .inl (fun _ => 0))), (q2, .inr (6, [.int 1, .int 3, .int 1, .int 1, .int 0, .int 1, .int 10, .int 153]))] := hD
  refine lv_aload_n hx hb dX3_init_28 rfl (lv_at hl 0 rfl) ?_
  refine lv_iconst (v := (-1)) hx hb dX3_init_29 (by decide) ?_
  refine va_put (D := D) (ci := 3) (v := .int (-1)) (ty := .int) (C := RX3) (T := TX3) (N := 7) hx hb hts inU3 tyX3 tyX3_ok nmX3 hown hK hP hD hS 0 rfl rfl 3 (by decide) (hts _ kt1_98) (fun _ h9 => h9) rfl (by decide +kernel) rfl rfl (Nat.le_of_ble_eq_true rfl) dX3_init_30 (fun H locs hP hD hS => ?_)
  have hP : va_P D vwCl [(h0, .inr (3, [.ref q1, .ref q2, .int 0, .int (-1), .int 0, .int 0, .int 0])), (q1, .inl (c1, 120, .inl (fun _ => 0))), (q2, .inr (6, [.int 1, .int 3, .int 1, .int 1, .int 0, .int 1, .int 10, .int 153]))] H := hP
  have hD : va_D A [(h0, .inr (3, [.ref q1, .ref q2, .int 0, .int (-1), .int 0, .int 0, .int 0])), (q1, .inl (c1, 120, .inl (fun _ => 0))), (q2, .inr (6, [.int 1, .int 3, .int 1, .int 1, .int 0, .int 1, .int 10, .int 153]))] := hD
  refine lv_aload_n hx hb dX3_init_33 rfl (lv_at hl 0 rfl) ?_
  refine lv_iconst (v := 0) hx hb dX3_init_34 (by decide) ?_
  refine va_put (D := D) (ci := 3) (v := .int 0) (ty := .int) (C := RX3) (T := TX3) (N := 7) hx hb hts inU3 tyX3 tyX3_ok nmX3 hown hK hP hD hS 0 rfl rfl 4 (by decide) (hts _ kt1_100) (fun _ h9 => h9) rfl (by decide +kernel) rfl rfl (Nat.le_of_ble_eq_true rfl) dX3_init_35 (fun H locs hP hD hS => ?_)
  have hP : va_P D vwCl [(h0, .inr (3, [.ref q1, .ref q2, .int 0, .int (-1), .int 0, .int 0, .int 0])), (q1, .inl (c1, 120, .inl (fun _ => 0))), (q2, .inr (6, [.int 1, .int 3, .int 1, .int 1, .int 0, .int 1, .int 10, .int 153]))] H := hP
  have hD : va_D A [(h0, .inr (3, [.ref q1, .ref q2, .int 0, .int (-1), .int 0, .int 0, .int 0])), (q1, .inl (c1, 120, .inl (fun _ => 0))), (q2, .inr (6, [.int 1, .int 3, .int 1, .int 1, .int 0, .int 1, .int 10, .int 153]))] := hD
  refine lv_aload_n hx hb dX3_init_38 rfl (lv_at hl 0 rfl) ?_
  refine lv_iconst (v := 0) hx hb dX3_init_39 (by decide) ?_
  refine va_put (D := D) (ci := 3) (v := .int 0) (ty := .int) (C := RX3) (T := TX3) (N := 7) hx hb hts inU3 tyX3 tyX3_ok nmX3 hown hK hP hD hS 0 rfl rfl 5 (by decide) (hts _ kt1_101) (fun _ h9 => h9) rfl (by decide +kernel) rfl rfl (Nat.le_of_ble_eq_true rfl) dX3_init_40 (fun H locs hP hD hS => ?_)
  have hP : va_P D vwCl [(h0, .inr (3, [.ref q1, .ref q2, .int 0, .int (-1), .int 0, .int 0, .int 0])), (q1, .inl (c1, 120, .inl (fun _ => 0))), (q2, .inr (6, [.int 1, .int 3, .int 1, .int 1, .int 0, .int 1, .int 10, .int 153]))] H := hP
  have hD : va_D A [(h0, .inr (3, [.ref q1, .ref q2, .int 0, .int (-1), .int 0, .int 0, .int 0])), (q1, .inl (c1, 120, .inl (fun _ => 0))), (q2, .inr (6, [.int 1, .int 3, .int 1, .int 1, .int 0, .int 1, .int 10, .int 153]))] := hD
  refine lv_aload_n hx hb dX3_init_43 rfl (lv_at hl 0 rfl) ?_
  refine lv_iconst (v := 0) hx hb dX3_init_44 (by decide) ?_
  refine va_put (D := D) (ci := 3) (v := .int 0) (ty := .int) (C := RX3) (T := TX3) (N := 7) hx hb hts inU3 tyX3 tyX3_ok nmX3 hown hK hP hD hS 0 rfl rfl 6 (by decide) (hts _ kt1_102) (fun _ h9 => h9) rfl (by decide +kernel) rfl rfl (Nat.le_of_ble_eq_true rfl) dX3_init_45 (fun H locs hP hD hS => ?_)
  have hP : va_P D vwCl [(h0, .inr (3, [.ref q1, .ref q2, .int 0, .int (-1), .int 0, .int 0, .int 0])), (q1, .inl (c1, 120, .inl (fun _ => 0))), (q2, .inr (6, [.int 1, .int 3, .int 1, .int 1, .int 0, .int 1, .int 10, .int 153]))] H := hP
  have hD : va_D A [(h0, .inr (3, [.ref q1, .ref q2, .int 0, .int (-1), .int 0, .int 0, .int 0])), (q1, .inl (c1, 120, .inl (fun _ => 0))), (q2, .inr (6, [.int 1, .int 3, .int 1, .int 1, .int 0, .int 1, .int 10, .int 153]))] := hD
  refine W.widen (k := 2) (n := 128) (Nat.le_refl _) (Nat.le_refl _) ?_
  exact W.vret hx hb hr (fun t ht hW => ⟨⟨(), rfl, trivial, q1, q2, c1, by rw [ht]; exact hP, va_K.moved hW.alike hK, hD⟩, hS.F ht⟩) hS.2.2 dX3_init_48 hlocks
set_option maxHeartbeats 4000000 in
set_option maxRecDepth 100000 in
theorem k_X8_init (l : Launch) (D : va_G) (h0 sz : Nat) : Met l yX8_init (.code yX8_init cX8_init 1 none :: wsU) { frames := 3, cells := 17, slots := 6297, locals := 64 } (va_Pc [.ref h0] (fun U => U.heap.size = sz ∧ va_P D vwCl [(h0, .inr (8, [.null, .null, .null, .null, .null, .null, .null, .null, .int 0]))] U.heap ∧ va_K D vwCl [] U ∧ va_D (fun _ => True) [(h0, .inr (8, [.null, .null, .null, .null, .null, .null, .null, .null, .int 0]))] ∧ Nst U)) (va_Qv (fun _ : Unit => True) (fun _ t => ∃ (q1 q2 q3 q4 q5 q6 q7 q8 q9 q10 q11 q12 q13 q14 q15 q16 q17 : Nat) (c1 c2 c3 c4 c5 c6 c7 c8 : ClassId), va_P D vwCl [(h0, .inr (8, [.ref q1, .ref q2, .ref q5, .ref q8, .ref q11, .ref q12, .ref q13, .ref q15, .int 0])), (q1, .inr (6, [.int 1, .int 3, .int 1, .int 1, .int 0, .int 1, .int 10, .int 153])), (q2, .inr (3, [.ref q3, .ref q4, .int 0, .int (-1), .int 0, .int 0, .int 0])), (q3, .inl (c1, 120, .inl (fun _ => 0))), (q4, .inr (6, [.int 1, .int 3, .int 1, .int 1, .int 0, .int 1, .int 10, .int 153])), (q5, .inr (1, [.ref q6, .ref q7, .int 0, .int 0, .int 0, .int 0, .int 0, .int 0])), (q6, .inl (c2, 8, .inl (fun _ => 0))), (q7, .inl (c3, 4, .inl (fun _ => 0))), (q8, .inr (7, [.ref q9, .ref q10, .int 0, .int 0, .int 0])), (q9, .inl (c4, 1001, .inl (fun _ => 0))), (q10, .inl (c5, 1001, .inl (fun _ => 0))), (q11, .inr (0, [.long 0, .long 0, .long 0, .long 0, .long 0])), (q12, .inr (2, [.ref q1, .ref q5, .ref q8, .ref q11, .long 0, .long 0, .long 0])), (q13, .inr (4, [.ref q12, .ref q14, .int 0, .int (-1), .int (-2)])), (q14, .inl (c6, 4096, .inl (fun _ => 0))), (q15, .inr (5, [.ref q16, .ref q17])), (q16, .inl (c7, 6, .inl (arV 1))), (q17, .inl (c8, 6, .inl (arV 2)))] t.heap ∧ va_K D vwCl [(c1, .int), (c2, .int), (c3, .int), (c4, .int), (c5, .int), (c6, .int), (c7, .int), (c8, .int)] t ∧ va_D (va_A [(h0, .inr (8, [.null, .null, .null, .null, .null, .null, .null, .null, .int 0]))] sz) [(h0, .inr (8, [.ref q1, .ref q2, .ref q5, .ref q8, .ref q11, .ref q12, .ref q13, .ref q15, .int 0])), (q1, .inr (6, [.int 1, .int 3, .int 1, .int 1, .int 0, .int 1, .int 10, .int 153])), (q2, .inr (3, [.ref q3, .ref q4, .int 0, .int (-1), .int 0, .int 0, .int 0])), (q3, .inl (c1, 120, .inl (fun _ => 0))), (q4, .inr (6, [.int 1, .int 3, .int 1, .int 1, .int 0, .int 1, .int 10, .int 153])), (q5, .inr (1, [.ref q6, .ref q7, .int 0, .int 0, .int 0, .int 0, .int 0, .int 0])), (q6, .inl (c2, 8, .inl (fun _ => 0))), (q7, .inl (c3, 4, .inl (fun _ => 0))), (q8, .inr (7, [.ref q9, .ref q10, .int 0, .int 0, .int 0])), (q9, .inl (c4, 1001, .inl (fun _ => 0))), (q10, .inl (c5, 1001, .inl (fun _ => 0))), (q11, .inr (0, [.long 0, .long 0, .long 0, .long 0, .long 0])), (q12, .inr (2, [.ref q1, .ref q5, .ref q8, .ref q11, .long 0, .long 0, .long 0])), (q13, .inr (4, [.ref q12, .ref q14, .int 0, .int (-1), .int (-2)])), (q14, .inl (c6, 4096, .inl (fun _ => 0))), (q15, .inr (5, [.ref q16, .ref q17])), (q16, .inl (c7, 6, .inl (arV 1))), (q17, .inl (c8, 6, .inl (arV 2)))]) (va_A [(h0, .inr (8, [.null, .null, .null, .null, .null, .null, .null, .null, .int 0]))] sz)) 17 6297 (va_A [(h0, .inr (8, [.null, .null, .null, .null, .null, .null, .null, .null, .int 0]))] sz) := by
  refine va_MetF (cc := cX8_init) (maxL := 1) (ret := none) (by decide +kernel) rfl ?_
  intro p e s m args below meth c s₁ B hml hv
  obtain ⟨rfl, hsz, hP, hK, hD0, hN⟩ := hv
  have hx := B.exec
  have hb := B.bytes
  have hr := B.returns
  have hts0 := atoms_spec B.pre
  have hts : ∀ w ∈ wsU, w.before _ s = true := fun w hw => hts0 w (List.mem_cons_of_mem _ hw)
  have hown : s.vm.findClass RX8 = some m.cls := findClass_of_methodNamed B.named
  have hlocks := B.notSynchronized
  have hin : meth.name = "<init>" := (name_of_methodNamed B.named B.method).1
  subst hsz
  have hD := hD0.self (sz := s.heap.size)
  generalize hAe : va_A [(h0, .inr (8, [.null, .null, .null, .null, .null, .null, .null, .null, .int 0]))] s.heap.size = A at hD ⊢
  have hA : ∀ q : Nat, s.heap.size ≤ q → A q := fun q h => by rw [← hAe]; exact Or.inr h
  have hS : va_S A s.heap s.heap [] := va_S.rf
  have hl := lv_entry ([.ref h0]) (n := 1) (Nat.le_of_ble_eq_true rfl)
  rw [lg_entry_eq]
  generalize (lg_sl ([.ref h0]) ++ List.replicate (1 - (lg_sl ([.ref h0])).length) Slot.unset).toArray = ls at hl ⊢
  have hl : lv_has ls 1 [(0, .ref h0)] := hl
  refine lv_aload_n hx hb dX8_init_0 rfl (lv_at hl 0 rfl) ?_
  refine W.objInit hx hb hown (hts _ kt1_23) (hts _ kt1_24) (hts _ kt1_25) rfl (by rw [hml]; exact hl.1) rfl dX8_init_1 (Nat.le_of_ble_eq_true rfl) (Nat.le_of_ble_eq_true rfl) ?_
  refine W.eq (g2 := F0 m 4 ls []) rfl ?_
  refine lv_aload_n hx hb dX8_init_4 rfl (lv_at hl 0 rfl) ?_
  refine va_new (ci := 6) (fs := [.int 0, .int 0, .int 0, .int 0, .int 0, .int 0, .int 0, .int 0]) (C := RX6) (T := TX6) (N := 8) hx hb hts inU6 tyX6 tyX6_ok hown (hts _ kt1_26) (hts _ kt1_27) (hts _ kt1_2) hK hP hD hS hA rfl (fun j hj => by rcases (show j = 0 ∨ j = 1 ∨ j = 2 ∨ j = 3 ∨ j = 4 ∨ j = 5 ∨ j = 6 ∨ j = 7 by omega) with rfl | rfl | rfl | rfl | rfl | rfl | rfl | rfl <;> rfl) (Nat.le_of_ble_eq_true rfl) (Nat.le_of_ble_eq_true rfl) dX8_init_5 (fun q1 H hP hD hS => ?_)
  have hP : va_P D vwCl [(h0, .inr (8, [.null, .null, .null, .null, .null, .null, .null, .null, .int 0])), (q1, .inr (6, [.int 0, .int 0, .int 0, .int 0, .int 0, .int 0, .int 0, .int 0]))] H := hP
  have hD : va_D A [(h0, .inr (8, [.null, .null, .null, .null, .null, .null, .null, .null, .int 0])), (q1, .inr (6, [.int 0, .int 0, .int 0, .int 0, .int 0, .int 0, .int 0, .int 0]))] := hD
  refine W.widen (k := 1) (n := 8) (Nat.le_refl _) (Nat.le_refl _) ?_
  refine lv_dup hx hb dX8_init_8 rfl ?_
  have hPc := hP.sub (ws' := [(q1, .inr (6, [.int 0, .int 0, .int 0, .int 0, .int 0, .int 0, .int 0, .int 0]))]) [1] rfl
  have hDc := hD.sub (ws' := [(q1, .inr (6, [.int 0, .int 0, .int 0, .int 0, .int 0, .int 0, .int 0, .int 0]))]) [1] (by decide) rfl
  have hKc := hK.sub (tys' := []) [] rfl
  have hFc := va_free (wc := [(q1, .inr (6, [.int 0, .int 0, .int 0, .int 0, .int 0, .int 0, .int 0, .int 0]))]) hD hS hA [1] rfl
  refine va_callv (va_runI (As := []) (rest := [.ref q1, .ref h0]) ⟨hx, hb, hml, hown, hts⟩ (k_X6_init l D q1 H.size) (cwI 0 hts (gN kt1_30) rfl rfl rfl (hts _ kt1_2) (hts _ kt1_28) (hts _ kt1_29) rfl (by decide +kernel) ⟨Nat.le_of_ble_eq_true rfl, Nat.le_of_ble_eq_true rfl⟩) ⟨fun a U g mk q => by obtain ⟨q0, q1, qP, qK, qD, qN⟩ := q; exact ⟨q0, q1, qP, va_K.moved (u := U) (U := U.calling g mk a) (Vm.Alike.refl U.vm) qK, qD, qN.same rfl⟩, fun U hU hW => ⟨rfl, by rw [hU], by rw [hU]; exact hPc, va_K.moved hW.alike hKc, hDc.weaken (fun _ _ _ _ => trivial), hN.warm hW⟩⟩ rfl rfl hl.1 rfl (lv_room (Nat.le_of_ble_eq_true rfl)) dX8_init_9 ⟨Nat.le_of_ble_eq_true rfl, Nat.le_of_ble_eq_true rfl⟩) hS (fun q _ h => hFc q h) hFc (fun u t H1 locs ht hvm hw hB hz1 hk1 hS => ?_)
  obtain ⟨hP1, hK1, hD1⟩ := hB
  rw [ht] at hP1
  have hK1 := va_K.moved hvm.symm hK1
  obtain ⟨hP, hD⟩ := va_join (wr := [(h0, .inr (8, [.null, .null, .null, .null, .null, .null, .null, .null, .int 0]))]) (w1 := [(q1, .inr (6, [.int 1, .int 3, .int 1, .int 1, .int 0, .int 1, .int 10, .int 153]))]) hP hD [1] [0] rfl rfl (by decide) (by decide) hk1 hFc hP1 hD1
  have hK := hK.app hK1
  generalize H1 = H at hP hS ⊢
  have hP : va_P D vwCl [(h0, .inr (8, [.null, .null, .null, .null, .null, .null, .null, .null, .int 0])), (q1, .inr (6, [.int 1, .int 3, .int 1, .int 1, .int 0, .int 1, .int 10, .int 153]))] H := hP
  have hD : va_D A [(h0, .inr (8, [.null, .null, .null, .null, .null, .null, .null, .null, .int 0])), (q1, .inr (6, [.int 1, .int 3, .int 1, .int 1, .int 0, .int 1, .int 10, .int 153]))] := hD
  have hK : va_K D vwCl [] s := hK
  refine W.widen (k := 1) (n := 8) (Nat.le_refl _) (Nat.le_refl _) ?_
  refine va_putF (D := D) (ci := 8) (v := .ref q1) (ty := .object "SaidOfHim$Village") (C := RX8) (T := TX8) (N := 9) hx hb hts inU8 tyX8 tyX8_ok nmX8 hown hK hP hD hS 0 rfl rfl 0 (by decide) (hts _ kt2_40) (fun _ h9 => h9) rfl hin rfl (by decide +kernel) rfl rfl (Nat.le_of_ble_eq_true rfl) dX8_init_12 (fun H locs hP hD hS => ?_)
  have hP : va_P D vwCl [(h0, .inr (8, [.ref q1, .null, .null, .null, .null, .null, .null, .null, .int 0])), (q1, .inr (6, [.int 1, .int 3, .int 1, .int 1, .int 0, .int 1, .int 10, .int 153]))] H := hP
  have hD : va_D A [(h0, .inr (8, [.ref q1, .null, .null, .null, .null, .null, .null, .null, .int 0])), (q1, .inr (6, [.int 1, .int 3, .int 1, .int 1, .int 0, .int 1, .int 10, .int 153]))] := hD
  refine lv_aload_n hx hb dX8_init_15 rfl (lv_at hl 0 rfl) ?_
  refine va_new (ci := 3) (fs := [.null, .null, .int 0, .int 0, .int 0, .int 0, .int 0]) (C := RX3) (T := TX3) (N := 7) hx hb hts inU3 tyX3 tyX3_ok hown (hts _ kt1_85) (hts _ kt1_86) (hts _ kt1_3) hK hP hD hS hA rfl (fun j hj => by rcases (show j = 0 ∨ j = 1 ∨ j = 2 ∨ j = 3 ∨ j = 4 ∨ j = 5 ∨ j = 6 by omega) with rfl | rfl | rfl | rfl | rfl | rfl | rfl <;> rfl) (Nat.le_of_ble_eq_true rfl) (Nat.le_of_ble_eq_true rfl) dX8_init_16 (fun q2 H hP hD hS => ?_)
  have hP : va_P D vwCl [(h0, .inr (8, [.ref q1, .null, .null, .null, .null, .null, .null, .null, .int 0])), (q1, .inr (6, [.int 1, .int 3, .int 1, .int 1, .int 0, .int 1, .int 10, .int 153])), (q2, .inr (3, [.null, .null, .int 0, .int 0, .int 0, .int 0, .int 0]))] H := hP
  have hD : va_D A [(h0, .inr (8, [.ref q1, .null, .null, .null, .null, .null, .null, .null, .int 0])), (q1, .inr (6, [.int 1, .int 3, .int 1, .int 1, .int 0, .int 1, .int 10, .int 153])), (q2, .inr (3, [.null, .null, .int 0, .int 0, .int 0, .int 0, .int 0]))] := hD
  refine W.widen (k := 2) (n := 15) (Nat.le_refl _) (Nat.le_refl _) ?_
  refine lv_dup hx hb dX8_init_19 rfl ?_
  have hPc := hP.sub (ws' := [(q2, .inr (3, [.null, .null, .int 0, .int 0, .int 0, .int 0, .int 0]))]) [2] rfl
  have hDc := hD.sub (ws' := [(q2, .inr (3, [.null, .null, .int 0, .int 0, .int 0, .int 0, .int 0]))]) [2] (by decide) rfl
  have hKc := hK.sub (tys' := []) [] rfl
  have hFc := va_free (wc := [(q2, .inr (3, [.null, .null, .int 0, .int 0, .int 0, .int 0, .int 0]))]) hD hS hA [2] rfl
  refine va_callv (va_runIN (As := []) (rest := [.ref q2, .ref h0]) ⟨hx, hb, hml, hown, hts⟩ (k_X3_init l D q2 H.size) ⟨va_cnB 0 hts (gN kt1_89) rfl rfl rfl (hN _ (show (RX8, 18, yX3_init, RX8) ∈ nestT by decide +kernel)) (hts _ kt1_3) (by decide +kernel) ⟨Nat.le_of_ble_eq_true rfl, Nat.le_of_ble_eq_true rfl⟩, rfl, hts _ kt1_88⟩ ⟨fun a U g mk q => by obtain ⟨q0, q1, qP, qK, qD, qN⟩ := q; exact ⟨q0, q1, qP, va_K.moved (u := U) (U := U.calling g mk a) (Vm.Alike.refl U.vm) qK, qD, qN.same rfl⟩, fun U hU hW => ⟨rfl, by rw [hU], by rw [hU]; exact hPc, va_K.moved hW.alike hKc, hDc.weaken (fun _ _ _ _ => trivial), hN.warm hW⟩⟩ rfl rfl hl.1 rfl (lv_room (Nat.le_of_ble_eq_true rfl)) dX8_init_20 ⟨Nat.le_of_ble_eq_true rfl, Nat.le_of_ble_eq_true rfl⟩) hS (fun q _ h => hFc q h) hFc (fun u t H1 locs ht hvm hw hB hz1 hk1 hS => ?_)
  obtain ⟨q3, q4, c1, hP1, hK1, hD1⟩ := hB
  rw [ht] at hP1
  have hK1 := va_K.moved hvm.symm hK1
  obtain ⟨hP, hD⟩ := va_join (wr := [(h0, .inr (8, [.ref q1, .null, .null, .null, .null, .null, .null, .null, .int 0])), (q1, .inr (6, [.int 1, .int 3, .int 1, .int 1, .int 0, .int 1, .int 10, .int 153]))]) (w1 := [(q2, .inr (3, [.ref q3, .ref q4, .int 0, .int (-1), .int 0, .int 0, .int 0])), (q3, .inl (c1, 120, .inl (fun _ => 0))), (q4, .inr (6, [.int 1, .int 3, .int 1, .int 1, .int 0, .int 1, .int 10, .int 153]))]) hP hD [2] [0, 1] rfl rfl (by decide) (by decide) hk1 hFc hP1 hD1
  have hK := hK.app hK1
  generalize H1 = H at hP hS ⊢
  have hP : va_P D vwCl [(h0, .inr (8, [.ref q1, .null, .null, .null, .null, .null, .null, .null, .int 0])), (q1, .inr (6, [.int 1, .int 3, .int 1, .int 1, .int 0, .int 1, .int 10, .int 153])), (q2, .inr (3, [.ref q3, .ref q4, .int 0, .int (-1), .int 0, .int 0, .int 0])), (q3, .inl (c1, 120, .inl (fun _ => 0))), (q4, .inr (6, [.int 1, .int 3, .int 1, .int 1, .int 0, .int 1, .int 10, .int 153]))] H := hP
  have hD : va_D A [(h0, .inr (8, [.ref q1, .null, .null, .null, .null, .null, .null, .null, .int 0])), (q1, .inr (6, [.int 1, .int 3, .int 1, .int 1, .int 0, .int 1, .int 10, .int 153])), (q2, .inr (3, [.ref q3, .ref q4, .int 0, .int (-1), .int 0, .int 0, .int 0])), (q3, .inl (c1, 120, .inl (fun _ => 0))), (q4, .inr (6, [.int 1, .int 3, .int 1, .int 1, .int 0, .int 1, .int 10, .int 153]))] := hD
  have hK : va_K D vwCl [(c1, .int)] s := hK
  refine W.widen (k := 4) (n := 143) (Nat.le_refl _) (Nat.le_refl _) ?_
  refine va_putF (D := D) (ci := 8) (v := .ref q2) (ty := .object "SaidOfHim$Reader") (C := RX8) (T := TX8) (N := 9) hx hb hts inU8 tyX8 tyX8_ok nmX8 hown hK hP hD hS 0 rfl rfl 1 (by decide) (hts _ kt2_41) (fun _ h9 => h9) rfl hin rfl (by decide +kernel) rfl rfl (Nat.le_of_ble_eq_true rfl) dX8_init_23 (fun H locs hP hD hS => ?_)
  have hP : va_P D vwCl [(h0, .inr (8, [.ref q1, .ref q2, .null, .null, .null, .null, .null, .null, .int 0])), (q1, .inr (6, [.int 1, .int 3, .int 1, .int 1, .int 0, .int 1, .int 10, .int 153])), (q2, .inr (3, [.ref q3, .ref q4, .int 0, .int (-1), .int 0, .int 0, .int 0])), (q3, .inl (c1, 120, .inl (fun _ => 0))), (q4, .inr (6, [.int 1, .int 3, .int 1, .int 1, .int 0, .int 1, .int 10, .int 153]))] H := hP
  have hD : va_D A [(h0, .inr (8, [.ref q1, .ref q2, .null, .null, .null, .null, .null, .null, .int 0])), (q1, .inr (6, [.int 1, .int 3, .int 1, .int 1, .int 0, .int 1, .int 10, .int 153])), (q2, .inr (3, [.ref q3, .ref q4, .int 0, .int (-1), .int 0, .int 0, .int 0])), (q3, .inl (c1, 120, .inl (fun _ => 0))), (q4, .inr (6, [.int 1, .int 3, .int 1, .int 1, .int 0, .int 1, .int 10, .int 153]))] := hD
  refine lv_aload_n hx hb dX8_init_26 rfl (lv_at hl 0 rfl) ?_
  refine va_new (ci := 1) (fs := [.null, .null, .int 0, .int 0, .int 0, .int 0, .int 0, .int 0]) (C := RX1) (T := TX1) (N := 8) hx hb hts inU1 tyX1 tyX1_ok hown (hts _ kt1_119) (hts _ kt1_120) (hts _ kt1_4) hK hP hD hS hA rfl (fun j hj => by rcases (show j = 0 ∨ j = 1 ∨ j = 2 ∨ j = 3 ∨ j = 4 ∨ j = 5 ∨ j = 6 ∨ j = 7 by omega) with rfl | rfl | rfl | rfl | rfl | rfl | rfl | rfl <;> rfl) (Nat.le_of_ble_eq_true rfl) (Nat.le_of_ble_eq_true rfl) dX8_init_27 (fun q5 H hP hD hS => ?_)
  have hP : va_P D vwCl [(h0, .inr (8, [.ref q1, .ref q2, .null, .null, .null, .null, .null, .null, .int 0])), (q1, .inr (6, [.int 1, .int 3, .int 1, .int 1, .int 0, .int 1, .int 10, .int 153])), (q2, .inr (3, [.ref q3, .ref q4, .int 0, .int (-1), .int 0, .int 0, .int 0])), (q3, .inl (c1, 120, .inl (fun _ => 0))), (q4, .inr (6, [.int 1, .int 3, .int 1, .int 1, .int 0, .int 1, .int 10, .int 153])), (q5, .inr (1, [.null, .null, .int 0, .int 0, .int 0, .int 0, .int 0, .int 0]))] H := hP
  have hD : va_D A [(h0, .inr (8, [.ref q1, .ref q2, .null, .null, .null, .null, .null, .null, .int 0])), (q1, .inr (6, [.int 1, .int 3, .int 1, .int 1, .int 0, .int 1, .int 10, .int 153])), (q2, .inr (3, [.ref q3, .ref q4, .int 0, .int (-1), .int 0, .int 0, .int 0])), (q3, .inl (c1, 120, .inl (fun _ => 0))), (q4, .inr (6, [.int 1, .int 3, .int 1, .int 1, .int 0, .int 1, .int 10, .int 153])), (q5, .inr (1, [.null, .null, .int 0, .int 0, .int 0, .int 0, .int 0, .int 0]))] := hD
  refine W.widen (k := 5) (n := 151) (Nat.le_refl _) (Nat.le_refl _) ?_
  refine lv_dup hx hb dX8_init_30 rfl ?_
  have hPc := hP.sub (ws' := [(q5, .inr (1, [.null, .null, .int 0, .int 0, .int 0, .int 0, .int 0, .int 0]))]) [5] rfl
  have hDc := hD.sub (ws' := [(q5, .inr (1, [.null, .null, .int 0, .int 0, .int 0, .int 0, .int 0, .int 0]))]) [5] (by decide) rfl
  have hKc := hK.sub (tys' := []) [] rfl
  have hFc := va_free (wc := [(q5, .inr (1, [.null, .null, .int 0, .int 0, .int 0, .int 0, .int 0, .int 0]))]) hD hS hA [5] rfl
  refine va_callv (va_runIN (As := []) (rest := [.ref q5, .ref h0]) ⟨hx, hb, hml, hown, hts⟩ (k_X1_init l D q5 H.size) ⟨va_cnB 0 hts (gN kt1_123) rfl rfl rfl (hN _ (show (RX8, 25, yX1_init, RX8) ∈ nestT by decide +kernel)) (hts _ kt1_4) (by decide +kernel) ⟨Nat.le_of_ble_eq_true rfl, Nat.le_of_ble_eq_true rfl⟩, rfl, hts _ kt1_122⟩ ⟨fun a U g mk q => by obtain ⟨q0, q1, qP, qK, qD, qN⟩ := q; exact ⟨q0, q1, qP, va_K.moved (u := U) (U := U.calling g mk a) (Vm.Alike.refl U.vm) qK, qD, qN.same rfl⟩, fun U hU hW => ⟨rfl, by rw [hU], by rw [hU]; exact hPc, va_K.moved hW.alike hKc, hDc.weaken (fun _ _ _ _ => trivial), hN.warm hW⟩⟩ rfl rfl hl.1 rfl (lv_room (Nat.le_of_ble_eq_true rfl)) dX8_init_31 ⟨Nat.le_of_ble_eq_true rfl, Nat.le_of_ble_eq_true rfl⟩) hS (fun q _ h => hFc q h) hFc (fun u t H1 locs ht hvm hw hB hz1 hk1 hS => ?_)
  obtain ⟨q6, q7, c2, c3, hP1, hK1, hD1⟩ := hB
  rw [ht] at hP1
  have hK1 := va_K.moved hvm.symm hK1
  obtain ⟨hP, hD⟩ := va_join (wr := [(h0, .inr (8, [.ref q1, .ref q2, .null, .null, .null, .null, .null, .null, .int 0])), (q1, .inr (6, [.int 1, .int 3, .int 1, .int 1, .int 0, .int 1, .int 10, .int 153])), (q2, .inr (3, [.ref q3, .ref q4, .int 0, .int (-1), .int 0, .int 0, .int 0])), (q3, .inl (c1, 120, .inl (fun _ => 0))), (q4, .inr (6, [.int 1, .int 3, .int 1, .int 1, .int 0, .int 1, .int 10, .int 153]))]) (w1 := [(q5, .inr (1, [.ref q6, .ref q7, .int 0, .int 0, .int 0, .int 0, .int 0, .int 0])), (q6, .inl (c2, 8, .inl (fun _ => 0))), (q7, .inl (c3, 4, .inl (fun _ => 0)))]) hP hD [5] [0, 1, 2, 3, 4] rfl rfl (by decide) (by decide) hk1 hFc hP1 hD1
  have hK := hK.app hK1
  generalize H1 = H at hP hS ⊢
  have hP : va_P D vwCl [(h0, .inr (8, [.ref q1, .ref q2, .null, .null, .null, .null, .null, .null, .int 0])), (q1, .inr (6, [.int 1, .int 3, .int 1, .int 1, .int 0, .int 1, .int 10, .int 153])), (q2, .inr (3, [.ref q3, .ref q4, .int 0, .int (-1), .int 0, .int 0, .int 0])), (q3, .inl (c1, 120, .inl (fun _ => 0))), (q4, .inr (6, [.int 1, .int 3, .int 1, .int 1, .int 0, .int 1, .int 10, .int 153])), (q5, .inr (1, [.ref q6, .ref q7, .int 0, .int 0, .int 0, .int 0, .int 0, .int 0])), (q6, .inl (c2, 8, .inl (fun _ => 0))), (q7, .inl (c3, 4, .inl (fun _ => 0)))] H := hP
  have hD : va_D A [(h0, .inr (8, [.ref q1, .ref q2, .null, .null, .null, .null, .null, .null, .int 0])), (q1, .inr (6, [.int 1, .int 3, .int 1, .int 1, .int 0, .int 1, .int 10, .int 153])), (q2, .inr (3, [.ref q3, .ref q4, .int 0, .int (-1), .int 0, .int 0, .int 0])), (q3, .inl (c1, 120, .inl (fun _ => 0))), (q4, .inr (6, [.int 1, .int 3, .int 1, .int 1, .int 0, .int 1, .int 10, .int 153])), (q5, .inr (1, [.ref q6, .ref q7, .int 0, .int 0, .int 0, .int 0, .int 0, .int 0])), (q6, .inl (c2, 8, .inl (fun _ => 0))), (q7, .inl (c3, 4, .inl (fun _ => 0)))] := hD
  have hK : va_K D vwCl [(c1, .int), (c2, .int), (c3, .int)] s := hK
  refine W.widen (k := 7) (n := 163) (Nat.le_refl _) (Nat.le_refl _) ?_
  refine va_putF (D := D) (ci := 8) (v := .ref q5) (ty := .object "SaidOfHim$Custom") (C := RX8) (T := TX8) (N := 9) hx hb hts inU8 tyX8 tyX8_ok nmX8 hown hK hP hD hS 0 rfl rfl 2 (by decide) (hts _ kt2_42) (fun _ h9 => h9) rfl hin rfl (by decide +kernel) rfl rfl (Nat.le_of_ble_eq_true rfl) dX8_init_34 (fun H locs hP hD hS => ?_)
  have hP : va_P D vwCl [(h0, .inr (8, [.ref q1, .ref q2, .ref q5, .null, .null, .null, .null, .null, .int 0])), (q1, .inr (6, [.int 1, .int 3, .int 1, .int 1, .int 0, .int 1, .int 10, .int 153])), (q2, .inr (3, [.ref q3, .ref q4, .int 0, .int (-1), .int 0, .int 0, .int 0])), (q3, .inl (c1, 120, .inl (fun _ => 0))), (q4, .inr (6, [.int 1, .int 3, .int 1, .int 1, .int 0, .int 1, .int 10, .int 153])), (q5, .inr (1, [.ref q6, .ref q7, .int 0, .int 0, .int 0, .int 0, .int 0, .int 0])), (q6, .inl (c2, 8, .inl (fun _ => 0))), (q7, .inl (c3, 4, .inl (fun _ => 0)))] H := hP
  have hD : va_D A [(h0, .inr (8, [.ref q1, .ref q2, .ref q5, .null, .null, .null, .null, .null, .int 0])), (q1, .inr (6, [.int 1, .int 3, .int 1, .int 1, .int 0, .int 1, .int 10, .int 153])), (q2, .inr (3, [.ref q3, .ref q4, .int 0, .int (-1), .int 0, .int 0, .int 0])), (q3, .inl (c1, 120, .inl (fun _ => 0))), (q4, .inr (6, [.int 1, .int 3, .int 1, .int 1, .int 0, .int 1, .int 10, .int 153])), (q5, .inr (1, [.ref q6, .ref q7, .int 0, .int 0, .int 0, .int 0, .int 0, .int 0])), (q6, .inl (c2, 8, .inl (fun _ => 0))), (q7, .inl (c3, 4, .inl (fun _ => 0)))] := hD
  refine lv_aload_n hx hb dX8_init_37 rfl (lv_at hl 0 rfl) ?_
  refine va_new (ci := 7) (fs := [.null, .null, .int 0, .int 0, .int 0]) (C := RX7) (T := TX7) (N := 5) hx hb hts inU7 tyX7 tyX7_ok hown (hts _ kt1_155) (hts _ kt1_156) (hts _ kt1_5) hK hP hD hS hA rfl (fun j hj => by rcases (show j = 0 ∨ j = 1 ∨ j = 2 ∨ j = 3 ∨ j = 4 by omega) with rfl | rfl | rfl | rfl | rfl <;> rfl) (Nat.le_of_ble_eq_true rfl) (Nat.le_of_ble_eq_true rfl) dX8_init_38 (fun q8 H hP hD hS => ?_)
  have hP : va_P D vwCl [(h0, .inr (8, [.ref q1, .ref q2, .ref q5, .null, .null, .null, .null, .null, .int 0])), (q1, .inr (6, [.int 1, .int 3, .int 1, .int 1, .int 0, .int 1, .int 10, .int 153])), (q2, .inr (3, [.ref q3, .ref q4, .int 0, .int (-1), .int 0, .int 0, .int 0])), (q3, .inl (c1, 120, .inl (fun _ => 0))), (q4, .inr (6, [.int 1, .int 3, .int 1, .int 1, .int 0, .int 1, .int 10, .int 153])), (q5, .inr (1, [.ref q6, .ref q7, .int 0, .int 0, .int 0, .int 0, .int 0, .int 0])), (q6, .inl (c2, 8, .inl (fun _ => 0))), (q7, .inl (c3, 4, .inl (fun _ => 0))), (q8, .inr (7, [.null, .null, .int 0, .int 0, .int 0]))] H := hP
  have hD : va_D A [(h0, .inr (8, [.ref q1, .ref q2, .ref q5, .null, .null, .null, .null, .null, .int 0])), (q1, .inr (6, [.int 1, .int 3, .int 1, .int 1, .int 0, .int 1, .int 10, .int 153])), (q2, .inr (3, [.ref q3, .ref q4, .int 0, .int (-1), .int 0, .int 0, .int 0])), (q3, .inl (c1, 120, .inl (fun _ => 0))), (q4, .inr (6, [.int 1, .int 3, .int 1, .int 1, .int 0, .int 1, .int 10, .int 153])), (q5, .inr (1, [.ref q6, .ref q7, .int 0, .int 0, .int 0, .int 0, .int 0, .int 0])), (q6, .inl (c2, 8, .inl (fun _ => 0))), (q7, .inl (c3, 4, .inl (fun _ => 0))), (q8, .inr (7, [.null, .null, .int 0, .int 0, .int 0]))] := hD
  refine W.widen (k := 8) (n := 168) (Nat.le_refl _) (Nat.le_refl _) ?_
  refine lv_dup hx hb dX8_init_41 rfl ?_
  have hPc := hP.sub (ws' := [(q8, .inr (7, [.null, .null, .int 0, .int 0, .int 0]))]) [8] rfl
  have hDc := hD.sub (ws' := [(q8, .inr (7, [.null, .null, .int 0, .int 0, .int 0]))]) [8] (by decide) rfl
  have hKc := hK.sub (tys' := []) [] rfl
  have hFc := va_free (wc := [(q8, .inr (7, [.null, .null, .int 0, .int 0, .int 0]))]) hD hS hA [8] rfl
  refine va_callv (va_runIN (As := []) (rest := [.ref q8, .ref h0]) ⟨hx, hb, hml, hown, hts⟩ (k_X7_init l D q8 H.size) ⟨va_cnB 0 hts (gN kt1_159) rfl rfl rfl (hN _ (show (RX8, 32, yX7_init, RX8) ∈ nestT by decide +kernel)) (hts _ kt1_5) (by decide +kernel) ⟨Nat.le_of_ble_eq_true rfl, Nat.le_of_ble_eq_true rfl⟩, rfl, hts _ kt1_158⟩ ⟨fun a U g mk q => by obtain ⟨q0, q1, qP, qK, qD, qN⟩ := q; exact ⟨q0, q1, qP, va_K.moved (u := U) (U := U.calling g mk a) (Vm.Alike.refl U.vm) qK, qD, qN.same rfl⟩, fun U hU hW => ⟨rfl, by rw [hU], by rw [hU]; exact hPc, va_K.moved hW.alike hKc, hDc.weaken (fun _ _ _ _ => trivial), hN.warm hW⟩⟩ rfl rfl hl.1 rfl (lv_room (Nat.le_of_ble_eq_true rfl)) dX8_init_42 ⟨Nat.le_of_ble_eq_true rfl, Nat.le_of_ble_eq_true rfl⟩) hS (fun q _ h => hFc q h) hFc (fun u t H1 locs ht hvm hw hB hz1 hk1 hS => ?_)
  obtain ⟨q9, q10, c4, c5, hP1, hK1, hD1⟩ := hB
  rw [ht] at hP1
  have hK1 := va_K.moved hvm.symm hK1
  obtain ⟨hP, hD⟩ := va_join (wr := [(h0, .inr (8, [.ref q1, .ref q2, .ref q5, .null, .null, .null, .null, .null, .int 0])), (q1, .inr (6, [.int 1, .int 3, .int 1, .int 1, .int 0, .int 1, .int 10, .int 153])), (q2, .inr (3, [.ref q3, .ref q4, .int 0, .int (-1), .int 0, .int 0, .int 0])), (q3, .inl (c1, 120, .inl (fun _ => 0))), (q4, .inr (6, [.int 1, .int 3, .int 1, .int 1, .int 0, .int 1, .int 10, .int 153])), (q5, .inr (1, [.ref q6, .ref q7, .int 0, .int 0, .int 0, .int 0, .int 0, .int 0])), (q6, .inl (c2, 8, .inl (fun _ => 0))), (q7, .inl (c3, 4, .inl (fun _ => 0)))]) (w1 := [(q8, .inr (7, [.ref q9, .ref q10, .int 0, .int 0, .int 0])), (q9, .inl (c4, 1001, .inl (fun _ => 0))), (q10, .inl (c5, 1001, .inl (fun _ => 0)))]) hP hD [8] [0, 1, 2, 3, 4, 5, 6, 7] rfl rfl (by decide) (by decide) hk1 hFc hP1 hD1
  have hK := hK.app hK1
  generalize H1 = H at hP hS ⊢
  have hP : va_P D vwCl [(h0, .inr (8, [.ref q1, .ref q2, .ref q5, .null, .null, .null, .null, .null, .int 0])), (q1, .inr (6, [.int 1, .int 3, .int 1, .int 1, .int 0, .int 1, .int 10, .int 153])), (q2, .inr (3, [.ref q3, .ref q4, .int 0, .int (-1), .int 0, .int 0, .int 0])), (q3, .inl (c1, 120, .inl (fun _ => 0))), (q4, .inr (6, [.int 1, .int 3, .int 1, .int 1, .int 0, .int 1, .int 10, .int 153])), (q5, .inr (1, [.ref q6, .ref q7, .int 0, .int 0, .int 0, .int 0, .int 0, .int 0])), (q6, .inl (c2, 8, .inl (fun _ => 0))), (q7, .inl (c3, 4, .inl (fun _ => 0))), (q8, .inr (7, [.ref q9, .ref q10, .int 0, .int 0, .int 0])), (q9, .inl (c4, 1001, .inl (fun _ => 0))), (q10, .inl (c5, 1001, .inl (fun _ => 0)))] H := hP
  have hD : va_D A [(h0, .inr (8, [.ref q1, .ref q2, .ref q5, .null, .null, .null, .null, .null, .int 0])), (q1, .inr (6, [.int 1, .int 3, .int 1, .int 1, .int 0, .int 1, .int 10, .int 153])), (q2, .inr (3, [.ref q3, .ref q4, .int 0, .int (-1), .int 0, .int 0, .int 0])), (q3, .inl (c1, 120, .inl (fun _ => 0))), (q4, .inr (6, [.int 1, .int 3, .int 1, .int 1, .int 0, .int 1, .int 10, .int 153])), (q5, .inr (1, [.ref q6, .ref q7, .int 0, .int 0, .int 0, .int 0, .int 0, .int 0])), (q6, .inl (c2, 8, .inl (fun _ => 0))), (q7, .inl (c3, 4, .inl (fun _ => 0))), (q8, .inr (7, [.ref q9, .ref q10, .int 0, .int 0, .int 0])), (q9, .inl (c4, 1001, .inl (fun _ => 0))), (q10, .inl (c5, 1001, .inl (fun _ => 0)))] := hD
  have hK : va_K D vwCl [(c1, .int), (c2, .int), (c3, .int), (c4, .int), (c5, .int)] s := hK
  refine W.widen (k := 10) (n := 2170) (Nat.le_refl _) (Nat.le_refl _) ?_
  refine va_putF (D := D) (ci := 8) (v := .ref q8) (ty := .object "SaidOfHim$Walk") (C := RX8) (T := TX8) (N := 9) hx hb hts inU8 tyX8 tyX8_ok nmX8 hown hK hP hD hS 0 rfl rfl 3 (by decide) (hts _ kt2_43) (fun _ h9 => h9) rfl hin rfl (by decide +kernel) rfl rfl (Nat.le_of_ble_eq_true rfl) dX8_init_45 (fun H locs hP hD hS => ?_)
  have hP : va_P D vwCl [(h0, .inr (8, [.ref q1, .ref q2, .ref q5, .ref q8, .null, .null, .null, .null, .int 0])), (q1, .inr (6, [.int 1, .int 3, .int 1, .int 1, .int 0, .int 1, .int 10, .int 153])), (q2, .inr (3, [.ref q3, .ref q4, .int 0, .int (-1), .int 0, .int 0, .int 0])), (q3, .inl (c1, 120, .inl (fun _ => 0))), (q4, .inr (6, [.int 1, .int 3, .int 1, .int 1, .int 0, .int 1, .int 10, .int 153])), (q5, .inr (1, [.ref q6, .ref q7, .int 0, .int 0, .int 0, .int 0, .int 0, .int 0])), (q6, .inl (c2, 8, .inl (fun _ => 0))), (q7, .inl (c3, 4, .inl (fun _ => 0))), (q8, .inr (7, [.ref q9, .ref q10, .int 0, .int 0, .int 0])), (q9, .inl (c4, 1001, .inl (fun _ => 0))), (q10, .inl (c5, 1001, .inl (fun _ => 0)))] H := hP
  have hD : va_D A [(h0, .inr (8, [.ref q1, .ref q2, .ref q5, .ref q8, .null, .null, .null, .null, .int 0])), (q1, .inr (6, [.int 1, .int 3, .int 1, .int 1, .int 0, .int 1, .int 10, .int 153])), (q2, .inr (3, [.ref q3, .ref q4, .int 0, .int (-1), .int 0, .int 0, .int 0])), (q3, .inl (c1, 120, .inl (fun _ => 0))), (q4, .inr (6, [.int 1, .int 3, .int 1, .int 1, .int 0, .int 1, .int 10, .int 153])), (q5, .inr (1, [.ref q6, .ref q7, .int 0, .int 0, .int 0, .int 0, .int 0, .int 0])), (q6, .inl (c2, 8, .inl (fun _ => 0))), (q7, .inl (c3, 4, .inl (fun _ => 0))), (q8, .inr (7, [.ref q9, .ref q10, .int 0, .int 0, .int 0])), (q9, .inl (c4, 1001, .inl (fun _ => 0))), (q10, .inl (c5, 1001, .inl (fun _ => 0)))] := hD
  refine lv_aload_n hx hb dX8_init_48 rfl (lv_at hl 0 rfl) ?_
  refine va_new (ci := 0) (fs := [.long 0, .long 0, .long 0, .long 0, .long 0]) (C := RX0) (T := TX0) (N := 5) hx hb hts inU0 tyX0 tyX0_ok hown (hts _ kt1_179) (hts _ kt1_180) (hts _ kt1_6) hK hP hD hS hA rfl (fun j hj => by rcases (show j = 0 ∨ j = 1 ∨ j = 2 ∨ j = 3 ∨ j = 4 by omega) with rfl | rfl | rfl | rfl | rfl <;> rfl) (Nat.le_of_ble_eq_true rfl) (Nat.le_of_ble_eq_true rfl) dX8_init_49 (fun q11 H hP hD hS => ?_)
  have hP : va_P D vwCl [(h0, .inr (8, [.ref q1, .ref q2, .ref q5, .ref q8, .null, .null, .null, .null, .int 0])), (q1, .inr (6, [.int 1, .int 3, .int 1, .int 1, .int 0, .int 1, .int 10, .int 153])), (q2, .inr (3, [.ref q3, .ref q4, .int 0, .int (-1), .int 0, .int 0, .int 0])), (q3, .inl (c1, 120, .inl (fun _ => 0))), (q4, .inr (6, [.int 1, .int 3, .int 1, .int 1, .int 0, .int 1, .int 10, .int 153])), (q5, .inr (1, [.ref q6, .ref q7, .int 0, .int 0, .int 0, .int 0, .int 0, .int 0])), (q6, .inl (c2, 8, .inl (fun _ => 0))), (q7, .inl (c3, 4, .inl (fun _ => 0))), (q8, .inr (7, [.ref q9, .ref q10, .int 0, .int 0, .int 0])), (q9, .inl (c4, 1001, .inl (fun _ => 0))), (q10, .inl (c5, 1001, .inl (fun _ => 0))), (q11, .inr (0, [.long 0, .long 0, .long 0, .long 0, .long 0]))] H := hP
  have hD : va_D A [(h0, .inr (8, [.ref q1, .ref q2, .ref q5, .ref q8, .null, .null, .null, .null, .int 0])), (q1, .inr (6, [.int 1, .int 3, .int 1, .int 1, .int 0, .int 1, .int 10, .int 153])), (q2, .inr (3, [.ref q3, .ref q4, .int 0, .int (-1), .int 0, .int 0, .int 0])), (q3, .inl (c1, 120, .inl (fun _ => 0))), (q4, .inr (6, [.int 1, .int 3, .int 1, .int 1, .int 0, .int 1, .int 10, .int 153])), (q5, .inr (1, [.ref q6, .ref q7, .int 0, .int 0, .int 0, .int 0, .int 0, .int 0])), (q6, .inl (c2, 8, .inl (fun _ => 0))), (q7, .inl (c3, 4, .inl (fun _ => 0))), (q8, .inr (7, [.ref q9, .ref q10, .int 0, .int 0, .int 0])), (q9, .inl (c4, 1001, .inl (fun _ => 0))), (q10, .inl (c5, 1001, .inl (fun _ => 0))), (q11, .inr (0, [.long 0, .long 0, .long 0, .long 0, .long 0]))] := hD
  refine W.widen (k := 11) (n := 2175) (Nat.le_refl _) (Nat.le_refl _) ?_
  refine lv_dup hx hb dX8_init_52 rfl ?_
  have hPc := hP.sub (ws' := [(q11, .inr (0, [.long 0, .long 0, .long 0, .long 0, .long 0]))]) [11] rfl
  have hDc := hD.sub (ws' := [(q11, .inr (0, [.long 0, .long 0, .long 0, .long 0, .long 0]))]) [11] (by decide) rfl
  have hKc := hK.sub (tys' := []) [] rfl
  have hFc := va_free (wc := [(q11, .inr (0, [.long 0, .long 0, .long 0, .long 0, .long 0]))]) hD hS hA [11] rfl
  refine va_callv (va_runIN (As := []) (rest := [.ref q11, .ref h0]) ⟨hx, hb, hml, hown, hts⟩ (k_X0_init l D q11 H.size) ⟨va_cnB 0 hts (gN kt1_183) rfl rfl rfl (hN _ (show (RX8, 39, yX0_init, RX8) ∈ nestT by decide +kernel)) (hts _ kt1_6) (by decide +kernel) ⟨Nat.le_of_ble_eq_true rfl, Nat.le_of_ble_eq_true rfl⟩, rfl, hts _ kt1_182⟩ ⟨fun a U g mk q => by obtain ⟨q0, q1, qP, qK, qD, qN⟩ := q; exact ⟨q0, q1, qP, va_K.moved (u := U) (U := U.calling g mk a) (Vm.Alike.refl U.vm) qK, qD, qN.same rfl⟩, fun U hU hW => ⟨rfl, by rw [hU], by rw [hU]; exact hPc, va_K.moved hW.alike hKc, hDc.weaken (fun _ _ _ _ => trivial), hN.warm hW⟩⟩ rfl rfl hl.1 rfl (lv_room (Nat.le_of_ble_eq_true rfl)) dX8_init_53 ⟨Nat.le_of_ble_eq_true rfl, Nat.le_of_ble_eq_true rfl⟩) hS (fun q _ h => hFc q h) hFc (fun u t H1 locs ht hvm hw hB hz1 hk1 hS => ?_)
  obtain ⟨hP1, hK1, hD1⟩ := hB
  rw [ht] at hP1
  have hK1 := va_K.moved hvm.symm hK1
  obtain ⟨hP, hD⟩ := va_join (wr := [(h0, .inr (8, [.ref q1, .ref q2, .ref q5, .ref q8, .null, .null, .null, .null, .int 0])), (q1, .inr (6, [.int 1, .int 3, .int 1, .int 1, .int 0, .int 1, .int 10, .int 153])), (q2, .inr (3, [.ref q3, .ref q4, .int 0, .int (-1), .int 0, .int 0, .int 0])), (q3, .inl (c1, 120, .inl (fun _ => 0))), (q4, .inr (6, [.int 1, .int 3, .int 1, .int 1, .int 0, .int 1, .int 10, .int 153])), (q5, .inr (1, [.ref q6, .ref q7, .int 0, .int 0, .int 0, .int 0, .int 0, .int 0])), (q6, .inl (c2, 8, .inl (fun _ => 0))), (q7, .inl (c3, 4, .inl (fun _ => 0))), (q8, .inr (7, [.ref q9, .ref q10, .int 0, .int 0, .int 0])), (q9, .inl (c4, 1001, .inl (fun _ => 0))), (q10, .inl (c5, 1001, .inl (fun _ => 0)))]) (w1 := [(q11, .inr (0, [.long 0, .long 0, .long 0, .long 0, .long 0]))]) hP hD [11] [0, 1, 2, 3, 4, 5, 6, 7, 8, 9, 10] rfl rfl (by decide) (by decide) hk1 hFc hP1 hD1
  have hK := hK.app hK1
  generalize H1 = H at hP hS ⊢
  have hP : va_P D vwCl [(h0, .inr (8, [.ref q1, .ref q2, .ref q5, .ref q8, .null, .null, .null, .null, .int 0])), (q1, .inr (6, [.int 1, .int 3, .int 1, .int 1, .int 0, .int 1, .int 10, .int 153])), (q2, .inr (3, [.ref q3, .ref q4, .int 0, .int (-1), .int 0, .int 0, .int 0])), (q3, .inl (c1, 120, .inl (fun _ => 0))), (q4, .inr (6, [.int 1, .int 3, .int 1, .int 1, .int 0, .int 1, .int 10, .int 153])), (q5, .inr (1, [.ref q6, .ref q7, .int 0, .int 0, .int 0, .int 0, .int 0, .int 0])), (q6, .inl (c2, 8, .inl (fun _ => 0))), (q7, .inl (c3, 4, .inl (fun _ => 0))), (q8, .inr (7, [.ref q9, .ref q10, .int 0, .int 0, .int 0])), (q9, .inl (c4, 1001, .inl (fun _ => 0))), (q10, .inl (c5, 1001, .inl (fun _ => 0))), (q11, .inr (0, [.long 0, .long 0, .long 0, .long 0, .long 0]))] H := hP
  have hD : va_D A [(h0, .inr (8, [.ref q1, .ref q2, .ref q5, .ref q8, .null, .null, .null, .null, .int 0])), (q1, .inr (6, [.int 1, .int 3, .int 1, .int 1, .int 0, .int 1, .int 10, .int 153])), (q2, .inr (3, [.ref q3, .ref q4, .int 0, .int (-1), .int 0, .int 0, .int 0])), (q3, .inl (c1, 120, .inl (fun _ => 0))), (q4, .inr (6, [.int 1, .int 3, .int 1, .int 1, .int 0, .int 1, .int 10, .int 153])), (q5, .inr (1, [.ref q6, .ref q7, .int 0, .int 0, .int 0, .int 0, .int 0, .int 0])), (q6, .inl (c2, 8, .inl (fun _ => 0))), (q7, .inl (c3, 4, .inl (fun _ => 0))), (q8, .inr (7, [.ref q9, .ref q10, .int 0, .int 0, .int 0])), (q9, .inl (c4, 1001, .inl (fun _ => 0))), (q10, .inl (c5, 1001, .inl (fun _ => 0))), (q11, .inr (0, [.long 0, .long 0, .long 0, .long 0, .long 0]))] := hD
  have hK : va_K D vwCl [(c1, .int), (c2, .int), (c3, .int), (c4, .int), (c5, .int)] s := hK
  refine W.widen (k := 11) (n := 2175) (Nat.le_refl _) (Nat.le_refl _) ?_
  refine va_putF (D := D) (ci := 8) (v := .ref q11) (ty := .object "SaidOfHim$Another") (C := RX8) (T := TX8) (N := 9) hx hb hts inU8 tyX8 tyX8_ok nmX8 hown hK hP hD hS 0 rfl rfl 4 (by decide) (hts _ kt2_44) (fun _ h9 => h9) rfl hin rfl (by decide +kernel) rfl rfl (Nat.le_of_ble_eq_true rfl) dX8_init_56 (fun H locs hP hD hS => ?_)
  have hP : va_P D vwCl [(h0, .inr (8, [.ref q1, .ref q2, .ref q5, .ref q8, .ref q11, .null, .null, .null, .int 0])), (q1, .inr (6, [.int 1, .int 3, .int 1, .int 1, .int 0, .int 1, .int 10, .int 153])), (q2, .inr (3, [.ref q3, .ref q4, .int 0, .int (-1), .int 0, .int 0, .int 0])), (q3, .inl (c1, 120, .inl (fun _ => 0))), (q4, .inr (6, [.int 1, .int 3, .int 1, .int 1, .int 0, .int 1, .int 10, .int 153])), (q5, .inr (1, [.ref q6, .ref q7, .int 0, .int 0, .int 0, .int 0, .int 0, .int 0])), (q6, .inl (c2, 8, .inl (fun _ => 0))), (q7, .inl (c3, 4, .inl (fun _ => 0))), (q8, .inr (7, [.ref q9, .ref q10, .int 0, .int 0, .int 0])), (q9, .inl (c4, 1001, .inl (fun _ => 0))), (q10, .inl (c5, 1001, .inl (fun _ => 0))), (q11, .inr (0, [.long 0, .long 0, .long 0, .long 0, .long 0]))] H := hP
  have hD : va_D A [(h0, .inr (8, [.ref q1, .ref q2, .ref q5, .ref q8, .ref q11, .null, .null, .null, .int 0])), (q1, .inr (6, [.int 1, .int 3, .int 1, .int 1, .int 0, .int 1, .int 10, .int 153])), (q2, .inr (3, [.ref q3, .ref q4, .int 0, .int (-1), .int 0, .int 0, .int 0])), (q3, .inl (c1, 120, .inl (fun _ => 0))), (q4, .inr (6, [.int 1, .int 3, .int 1, .int 1, .int 0, .int 1, .int 10, .int 153])), (q5, .inr (1, [.ref q6, .ref q7, .int 0, .int 0, .int 0, .int 0, .int 0, .int 0])), (q6, .inl (c2, 8, .inl (fun _ => 0))), (q7, .inl (c3, 4, .inl (fun _ => 0))), (q8, .inr (7, [.ref q9, .ref q10, .int 0, .int 0, .int 0])), (q9, .inl (c4, 1001, .inl (fun _ => 0))), (q10, .inl (c5, 1001, .inl (fun _ => 0))), (q11, .inr (0, [.long 0, .long 0, .long 0, .long 0, .long 0]))] := hD
  refine lv_aload_n hx hb dX8_init_59 rfl (lv_at hl 0 rfl) ?_
  refine va_new (ci := 2) (fs := [.null, .null, .null, .null, .long 0, .long 0, .long 0]) (C := RX2) (T := TX2) (N := 7) hx hb hts inU2 tyX2 tyX2_ok hown (hts _ kt1_206) (hts _ kt1_207) (hts _ kt1_7) hK hP hD hS hA rfl (fun j hj => by rcases (show j = 0 ∨ j = 1 ∨ j = 2 ∨ j = 3 ∨ j = 4 ∨ j = 5 ∨ j = 6 by omega) with rfl | rfl | rfl | rfl | rfl | rfl | rfl <;> rfl) (Nat.le_of_ble_eq_true rfl) (Nat.le_of_ble_eq_true rfl) dX8_init_60 (fun q12 H hP hD hS => ?_)
  have hP : va_P D vwCl [(h0, .inr (8, [.ref q1, .ref q2, .ref q5, .ref q8, .ref q11, .null, .null, .null, .int 0])), (q1, .inr (6, [.int 1, .int 3, .int 1, .int 1, .int 0, .int 1, .int 10, .int 153])), (q2, .inr (3, [.ref q3, .ref q4, .int 0, .int (-1), .int 0, .int 0, .int 0])), (q3, .inl (c1, 120, .inl (fun _ => 0))), (q4, .inr (6, [.int 1, .int 3, .int 1, .int 1, .int 0, .int 1, .int 10, .int 153])), (q5, .inr (1, [.ref q6, .ref q7, .int 0, .int 0, .int 0, .int 0, .int 0, .int 0])), (q6, .inl (c2, 8, .inl (fun _ => 0))), (q7, .inl (c3, 4, .inl (fun _ => 0))), (q8, .inr (7, [.ref q9, .ref q10, .int 0, .int 0, .int 0])), (q9, .inl (c4, 1001, .inl (fun _ => 0))), (q10, .inl (c5, 1001, .inl (fun _ => 0))), (q11, .inr (0, [.long 0, .long 0, .long 0, .long 0, .long 0])), (q12, .inr (2, [.null, .null, .null, .null, .long 0, .long 0, .long 0]))] H := hP
  have hD : va_D A [(h0, .inr (8, [.ref q1, .ref q2, .ref q5, .ref q8, .ref q11, .null, .null, .null, .int 0])), (q1, .inr (6, [.int 1, .int 3, .int 1, .int 1, .int 0, .int 1, .int 10, .int 153])), (q2, .inr (3, [.ref q3, .ref q4, .int 0, .int (-1), .int 0, .int 0, .int 0])), (q3, .inl (c1, 120, .inl (fun _ => 0))), (q4, .inr (6, [.int 1, .int 3, .int 1, .int 1, .int 0, .int 1, .int 10, .int 153])), (q5, .inr (1, [.ref q6, .ref q7, .int 0, .int 0, .int 0, .int 0, .int 0, .int 0])), (q6, .inl (c2, 8, .inl (fun _ => 0))), (q7, .inl (c3, 4, .inl (fun _ => 0))), (q8, .inr (7, [.ref q9, .ref q10, .int 0, .int 0, .int 0])), (q9, .inl (c4, 1001, .inl (fun _ => 0))), (q10, .inl (c5, 1001, .inl (fun _ => 0))), (q11, .inr (0, [.long 0, .long 0, .long 0, .long 0, .long 0])), (q12, .inr (2, [.null, .null, .null, .null, .long 0, .long 0, .long 0]))] := hD
  refine W.widen (k := 12) (n := 2182) (Nat.le_refl _) (Nat.le_refl _) ?_
  refine lv_dup hx hb dX8_init_63 rfl ?_
  refine lv_aload_n hx hb dX8_init_64 rfl (lv_at hl 0 rfl) ?_
  refine va_get (D := D) (ci := 8) (v := .ref q1) (C := RX8) (T := TX8) (N := 9) hx hb hts inU8 hown hK hP 0 rfl rfl 0 (by decide) (hts _ kt2_40) (fun _ h9 => h9) rfl dX8_init_65 ?_
  refine lv_aload_n hx hb dX8_init_68 rfl (lv_at hl 0 rfl) ?_
  refine va_get (D := D) (ci := 8) (v := .ref q5) (C := RX8) (T := TX8) (N := 9) hx hb hts inU8 hown hK hP 0 rfl rfl 2 (by decide) (hts _ kt2_42) (fun _ h9 => h9) rfl dX8_init_69 ?_
  refine lv_aload_n hx hb dX8_init_72 rfl (lv_at hl 0 rfl) ?_
  refine va_get (D := D) (ci := 8) (v := .ref q8) (C := RX8) (T := TX8) (N := 9) hx hb hts inU8 hown hK hP 0 rfl rfl 3 (by decide) (hts _ kt2_43) (fun _ h9 => h9) rfl dX8_init_73 ?_
  refine lv_aload_n hx hb dX8_init_76 rfl (lv_at hl 0 rfl) ?_
  refine va_get (D := D) (ci := 8) (v := .ref q11) (C := RX8) (T := TX8) (N := 9) hx hb hts inU8 hown hK hP 0 rfl rfl 4 (by decide) (hts _ kt2_44) (fun _ h9 => h9) rfl dX8_init_77 ?_
  have hPc := hP.sub (ws' := [(q12, .inr (2, [.null, .null, .null, .null, .long 0, .long 0, .long 0]))]) [12] rfl
  have hDc := hD.sub (ws' := [(q12, .inr (2, [.null, .null, .null, .null, .long 0, .long 0, .long 0]))]) [12] (by decide) rfl
  have hKc := hK.sub (tys' := []) [] rfl
  have hFc := va_free (wc := [(q12, .inr (2, [.null, .null, .null, .null, .long 0, .long 0, .long 0]))]) hD hS hA [12] rfl
  refine va_callv (va_runI (As := [.ref q1, .ref q5, .ref q8, .ref q11]) (rest := [.ref q12, .ref h0]) ⟨hx, hb, hml, hown, hts⟩ (k_X2_init l D q12 q1 q5 q8 q11 H.size) (cwI 4 hts (gN kt1_210) rfl rfl rfl (hts _ kt1_7) (hts _ kt1_208) (hts _ kt1_209) rfl (by decide +kernel) ⟨Nat.le_of_ble_eq_true rfl, Nat.le_of_ble_eq_true rfl⟩) ⟨fun a U g mk q => by obtain ⟨q0, q1, qP, qK, qD, qN⟩ := q; exact ⟨q0, q1, qP, va_K.moved (u := U) (U := U.calling g mk a) (Vm.Alike.refl U.vm) qK, qD, qN.same rfl⟩, fun U hU hW => ⟨rfl, by rw [hU], by rw [hU]; exact hPc, va_K.moved hW.alike hKc, hDc.weaken (fun _ _ _ _ => trivial), hN.warm hW⟩⟩ rfl rfl hl.1 rfl (lv_room (Nat.le_of_ble_eq_true rfl)) dX8_init_80 ⟨Nat.le_of_ble_eq_true rfl, Nat.le_of_ble_eq_true rfl⟩) hS (fun q _ h => hFc q h) hFc (fun u t H1 locs ht hvm hw hB hz1 hk1 hS => ?_)
  obtain ⟨hP1, hK1, hD1⟩ := hB
  rw [ht] at hP1
  have hK1 := va_K.moved hvm.symm hK1
  obtain ⟨hP, hD⟩ := va_join (wr := [(h0, .inr (8, [.ref q1, .ref q2, .ref q5, .ref q8, .ref q11, .null, .null, .null, .int 0])), (q1, .inr (6, [.int 1, .int 3, .int 1, .int 1, .int 0, .int 1, .int 10, .int 153])), (q2, .inr (3, [.ref q3, .ref q4, .int 0, .int (-1), .int 0, .int 0, .int 0])), (q3, .inl (c1, 120, .inl (fun _ => 0))), (q4, .inr (6, [.int 1, .int 3, .int 1, .int 1, .int 0, .int 1, .int 10, .int 153])), (q5, .inr (1, [.ref q6, .ref q7, .int 0, .int 0, .int 0, .int 0, .int 0, .int 0])), (q6, .inl (c2, 8, .inl (fun _ => 0))), (q7, .inl (c3, 4, .inl (fun _ => 0))), (q8, .inr (7, [.ref q9, .ref q10, .int 0, .int 0, .int 0])), (q9, .inl (c4, 1001, .inl (fun _ => 0))), (q10, .inl (c5, 1001, .inl (fun _ => 0))), (q11, .inr (0, [.long 0, .long 0, .long 0, .long 0, .long 0]))]) (w1 := [(q12, .inr (2, [.ref q1, .ref q5, .ref q8, .ref q11, .long 0, .long 0, .long 0]))]) hP hD [12] [0, 1, 2, 3, 4, 5, 6, 7, 8, 9, 10, 11] rfl rfl (by decide) (by decide) hk1 hFc hP1 hD1
  have hK := hK.app hK1
  generalize H1 = H at hP hS ⊢
  have hP : va_P D vwCl [(h0, .inr (8, [.ref q1, .ref q2, .ref q5, .ref q8, .ref q11, .null, .null, .null, .int 0])), (q1, .inr (6, [.int 1, .int 3, .int 1, .int 1, .int 0, .int 1, .int 10, .int 153])), (q2, .inr (3, [.ref q3, .ref q4, .int 0, .int (-1), .int 0, .int 0, .int 0])), (q3, .inl (c1, 120, .inl (fun _ => 0))), (q4, .inr (6, [.int 1, .int 3, .int 1, .int 1, .int 0, .int 1, .int 10, .int 153])), (q5, .inr (1, [.ref q6, .ref q7, .int 0, .int 0, .int 0, .int 0, .int 0, .int 0])), (q6, .inl (c2, 8, .inl (fun _ => 0))), (q7, .inl (c3, 4, .inl (fun _ => 0))), (q8, .inr (7, [.ref q9, .ref q10, .int 0, .int 0, .int 0])), (q9, .inl (c4, 1001, .inl (fun _ => 0))), (q10, .inl (c5, 1001, .inl (fun _ => 0))), (q11, .inr (0, [.long 0, .long 0, .long 0, .long 0, .long 0])), (q12, .inr (2, [.ref q1, .ref q5, .ref q8, .ref q11, .long 0, .long 0, .long 0]))] H := hP
  have hD : va_D A [(h0, .inr (8, [.ref q1, .ref q2, .ref q5, .ref q8, .ref q11, .null, .null, .null, .int 0])), (q1, .inr (6, [.int 1, .int 3, .int 1, .int 1, .int 0, .int 1, .int 10, .int 153])), (q2, .inr (3, [.ref q3, .ref q4, .int 0, .int (-1), .int 0, .int 0, .int 0])), (q3, .inl (c1, 120, .inl (fun _ => 0))), (q4, .inr (6, [.int 1, .int 3, .int 1, .int 1, .int 0, .int 1, .int 10, .int 153])), (q5, .inr (1, [.ref q6, .ref q7, .int 0, .int 0, .int 0, .int 0, .int 0, .int 0])), (q6, .inl (c2, 8, .inl (fun _ => 0))), (q7, .inl (c3, 4, .inl (fun _ => 0))), (q8, .inr (7, [.ref q9, .ref q10, .int 0, .int 0, .int 0])), (q9, .inl (c4, 1001, .inl (fun _ => 0))), (q10, .inl (c5, 1001, .inl (fun _ => 0))), (q11, .inr (0, [.long 0, .long 0, .long 0, .long 0, .long 0])), (q12, .inr (2, [.ref q1, .ref q5, .ref q8, .ref q11, .long 0, .long 0, .long 0]))] := hD
  have hK : va_K D vwCl [(c1, .int), (c2, .int), (c3, .int), (c4, .int), (c5, .int)] s := hK
  refine W.widen (k := 12) (n := 2182) (Nat.le_refl _) (Nat.le_refl _) ?_
  refine va_putF (D := D) (ci := 8) (v := .ref q12) (ty := .object "SaidOfHim$Judge") (C := RX8) (T := TX8) (N := 9) hx hb hts inU8 tyX8 tyX8_ok nmX8 hown hK hP hD hS 0 rfl rfl 5 (by decide) (hts _ kt2_45) (fun _ h9 => h9) rfl hin rfl (by decide +kernel) rfl rfl (Nat.le_of_ble_eq_true rfl) dX8_init_83 (fun H locs hP hD hS => ?_)
  have hP : va_P D vwCl [(h0, .inr (8, [.ref q1, .ref q2, .ref q5, .ref q8, .ref q11, .ref q12, .null, .null, .int 0])), (q1, .inr (6, [.int 1, .int 3, .int 1, .int 1, .int 0, .int 1, .int 10, .int 153])), (q2, .inr (3, [.ref q3, .ref q4, .int 0, .int (-1), .int 0, .int 0, .int 0])), (q3, .inl (c1, 120, .inl (fun _ => 0))), (q4, .inr (6, [.int 1, .int 3, .int 1, .int 1, .int 0, .int 1, .int 10, .int 153])), (q5, .inr (1, [.ref q6, .ref q7, .int 0, .int 0, .int 0, .int 0, .int 0, .int 0])), (q6, .inl (c2, 8, .inl (fun _ => 0))), (q7, .inl (c3, 4, .inl (fun _ => 0))), (q8, .inr (7, [.ref q9, .ref q10, .int 0, .int 0, .int 0])), (q9, .inl (c4, 1001, .inl (fun _ => 0))), (q10, .inl (c5, 1001, .inl (fun _ => 0))), (q11, .inr (0, [.long 0, .long 0, .long 0, .long 0, .long 0])), (q12, .inr (2, [.ref q1, .ref q5, .ref q8, .ref q11, .long 0, .long 0, .long 0]))] H := hP
  have hD : va_D A [(h0, .inr (8, [.ref q1, .ref q2, .ref q5, .ref q8, .ref q11, .ref q12, .null, .null, .int 0])), (q1, .inr (6, [.int 1, .int 3, .int 1, .int 1, .int 0, .int 1, .int 10, .int 153])), (q2, .inr (3, [.ref q3, .ref q4, .int 0, .int (-1), .int 0, .int 0, .int 0])), (q3, .inl (c1, 120, .inl (fun _ => 0))), (q4, .inr (6, [.int 1, .int 3, .int 1, .int 1, .int 0, .int 1, .int 10, .int 153])), (q5, .inr (1, [.ref q6, .ref q7, .int 0, .int 0, .int 0, .int 0, .int 0, .int 0])), (q6, .inl (c2, 8, .inl (fun _ => 0))), (q7, .inl (c3, 4, .inl (fun _ => 0))), (q8, .inr (7, [.ref q9, .ref q10, .int 0, .int 0, .int 0])), (q9, .inl (c4, 1001, .inl (fun _ => 0))), (q10, .inl (c5, 1001, .inl (fun _ => 0))), (q11, .inr (0, [.long 0, .long 0, .long 0, .long 0, .long 0])), (q12, .inr (2, [.ref q1, .ref q5, .ref q8, .ref q11, .long 0, .long 0, .long 0]))] := hD
  refine lv_aload_n hx hb dX8_init_86 rfl (lv_at hl 0 rfl) ?_
  refine va_new (ci := 4) (fs := [.null, .null, .int 0, .int 0, .int 0]) (C := RX4) (T := TX4) (N := 5) hx hb hts inU4 tyX4 tyX4_ok hown (hts _ kt1_235) (hts _ kt1_236) (hts _ kt1_8) hK hP hD hS hA rfl (fun j hj => by rcases (show j = 0 ∨ j = 1 ∨ j = 2 ∨ j = 3 ∨ j = 4 by omega) with rfl | rfl | rfl | rfl | rfl <;> rfl) (Nat.le_of_ble_eq_true rfl) (Nat.le_of_ble_eq_true rfl) dX8_init_87 (fun q13 H hP hD hS => ?_)
  have hP : va_P D vwCl [(h0, .inr (8, [.ref q1, .ref q2, .ref q5, .ref q8, .ref q11, .ref q12, .null, .null, .int 0])), (q1, .inr (6, [.int 1, .int 3, .int 1, .int 1, .int 0, .int 1, .int 10, .int 153])), (q2, .inr (3, [.ref q3, .ref q4, .int 0, .int (-1), .int 0, .int 0, .int 0])), (q3, .inl (c1, 120, .inl (fun _ => 0))), (q4, .inr (6, [.int 1, .int 3, .int 1, .int 1, .int 0, .int 1, .int 10, .int 153])), (q5, .inr (1, [.ref q6, .ref q7, .int 0, .int 0, .int 0, .int 0, .int 0, .int 0])), (q6, .inl (c2, 8, .inl (fun _ => 0))), (q7, .inl (c3, 4, .inl (fun _ => 0))), (q8, .inr (7, [.ref q9, .ref q10, .int 0, .int 0, .int 0])), (q9, .inl (c4, 1001, .inl (fun _ => 0))), (q10, .inl (c5, 1001, .inl (fun _ => 0))), (q11, .inr (0, [.long 0, .long 0, .long 0, .long 0, .long 0])), (q12, .inr (2, [.ref q1, .ref q5, .ref q8, .ref q11, .long 0, .long 0, .long 0])), (q13, .inr (4, [.null, .null, .int 0, .int 0, .int 0]))] H := hP
  have hD : va_D A [(h0, .inr (8, [.ref q1, .ref q2, .ref q5, .ref q8, .ref q11, .ref q12, .null, .null, .int 0])), (q1, .inr (6, [.int 1, .int 3, .int 1, .int 1, .int 0, .int 1, .int 10, .int 153])), (q2, .inr (3, [.ref q3, .ref q4, .int 0, .int (-1), .int 0, .int 0, .int 0])), (q3, .inl (c1, 120, .inl (fun _ => 0))), (q4, .inr (6, [.int 1, .int 3, .int 1, .int 1, .int 0, .int 1, .int 10, .int 153])), (q5, .inr (1, [.ref q6, .ref q7, .int 0, .int 0, .int 0, .int 0, .int 0, .int 0])), (q6, .inl (c2, 8, .inl (fun _ => 0))), (q7, .inl (c3, 4, .inl (fun _ => 0))), (q8, .inr (7, [.ref q9, .ref q10, .int 0, .int 0, .int 0])), (q9, .inl (c4, 1001, .inl (fun _ => 0))), (q10, .inl (c5, 1001, .inl (fun _ => 0))), (q11, .inr (0, [.long 0, .long 0, .long 0, .long 0, .long 0])), (q12, .inr (2, [.ref q1, .ref q5, .ref q8, .ref q11, .long 0, .long 0, .long 0])), (q13, .inr (4, [.null, .null, .int 0, .int 0, .int 0]))] := hD
  refine W.widen (k := 13) (n := 2187) (Nat.le_refl _) (Nat.le_refl _) ?_
  refine lv_dup hx hb dX8_init_90 rfl ?_
  refine lv_aload_n hx hb dX8_init_91 rfl (lv_at hl 0 rfl) ?_
  refine va_get (D := D) (ci := 8) (v := .ref q12) (C := RX8) (T := TX8) (N := 9) hx hb hts inU8 hown hK hP 0 rfl rfl 5 (by decide) (hts _ kt2_45) (fun _ h9 => h9) rfl dX8_init_92 ?_
  have hPc := hP.sub (ws' := [(q13, .inr (4, [.null, .null, .int 0, .int 0, .int 0]))]) [13] rfl
  have hDc := hD.sub (ws' := [(q13, .inr (4, [.null, .null, .int 0, .int 0, .int 0]))]) [13] (by decide) rfl
  have hKc := hK.sub (tys' := []) [] rfl
  have hFc := va_free (wc := [(q13, .inr (4, [.null, .null, .int 0, .int 0, .int 0]))]) hD hS hA [13] rfl
  refine va_callv (va_runI (As := [.ref q12]) (rest := [.ref q13, .ref h0]) ⟨hx, hb, hml, hown, hts⟩ (k_X4_init l D q13 q12 H.size) (cwI 1 hts (gN kt1_239) rfl rfl rfl (hts _ kt1_8) (hts _ kt1_237) (hts _ kt1_238) rfl (by decide +kernel) ⟨Nat.le_of_ble_eq_true rfl, Nat.le_of_ble_eq_true rfl⟩) ⟨fun a U g mk q => by obtain ⟨q0, q1, qP, qK, qD, qN⟩ := q; exact ⟨q0, q1, qP, va_K.moved (u := U) (U := U.calling g mk a) (Vm.Alike.refl U.vm) qK, qD, qN.same rfl⟩, fun U hU hW => ⟨rfl, by rw [hU], by rw [hU]; exact hPc, va_K.moved hW.alike hKc, hDc.weaken (fun _ _ _ _ => trivial), hN.warm hW⟩⟩ rfl rfl hl.1 rfl (lv_room (Nat.le_of_ble_eq_true rfl)) dX8_init_95 ⟨Nat.le_of_ble_eq_true rfl, Nat.le_of_ble_eq_true rfl⟩) hS (fun q _ h => hFc q h) hFc (fun u t H1 locs ht hvm hw hB hz1 hk1 hS => ?_)
  obtain ⟨q14, c6, hP1, hK1, hD1⟩ := hB
  rw [ht] at hP1
  have hK1 := va_K.moved hvm.symm hK1
  obtain ⟨hP, hD⟩ := va_join (wr := [(h0, .inr (8, [.ref q1, .ref q2, .ref q5, .ref q8, .ref q11, .ref q12, .null, .null, .int 0])), (q1, .inr (6, [.int 1, .int 3, .int 1, .int 1, .int 0, .int 1, .int 10, .int 153])), (q2, .inr (3, [.ref q3, .ref q4, .int 0, .int (-1), .int 0, .int 0, .int 0])), (q3, .inl (c1, 120, .inl (fun _ => 0))), (q4, .inr (6, [.int 1, .int 3, .int 1, .int 1, .int 0, .int 1, .int 10, .int 153])), (q5, .inr (1, [.ref q6, .ref q7, .int 0, .int 0, .int 0, .int 0, .int 0, .int 0])), (q6, .inl (c2, 8, .inl (fun _ => 0))), (q7, .inl (c3, 4, .inl (fun _ => 0))), (q8, .inr (7, [.ref q9, .ref q10, .int 0, .int 0, .int 0])), (q9, .inl (c4, 1001, .inl (fun _ => 0))), (q10, .inl (c5, 1001, .inl (fun _ => 0))), (q11, .inr (0, [.long 0, .long 0, .long 0, .long 0, .long 0])), (q12, .inr (2, [.ref q1, .ref q5, .ref q8, .ref q11, .long 0, .long 0, .long 0]))]) (w1 := [(q13, .inr (4, [.ref q12, .ref q14, .int 0, .int (-1), .int (-2)])), (q14, .inl (c6, 4096, .inl (fun _ => 0)))]) hP hD [13] [0, 1, 2, 3, 4, 5, 6, 7, 8, 9, 10, 11, 12] rfl rfl (by decide) (by decide) hk1 hFc hP1 hD1
  have hK := hK.app hK1
  generalize H1 = H at hP hS ⊢
  have hP : va_P D vwCl [(h0, .inr (8, [.ref q1, .ref q2, .ref q5, .ref q8, .ref q11, .ref q12, .null, .null, .int 0])), (q1, .inr (6, [.int 1, .int 3, .int 1, .int 1, .int 0, .int 1, .int 10, .int 153])), (q2, .inr (3, [.ref q3, .ref q4, .int 0, .int (-1), .int 0, .int 0, .int 0])), (q3, .inl (c1, 120, .inl (fun _ => 0))), (q4, .inr (6, [.int 1, .int 3, .int 1, .int 1, .int 0, .int 1, .int 10, .int 153])), (q5, .inr (1, [.ref q6, .ref q7, .int 0, .int 0, .int 0, .int 0, .int 0, .int 0])), (q6, .inl (c2, 8, .inl (fun _ => 0))), (q7, .inl (c3, 4, .inl (fun _ => 0))), (q8, .inr (7, [.ref q9, .ref q10, .int 0, .int 0, .int 0])), (q9, .inl (c4, 1001, .inl (fun _ => 0))), (q10, .inl (c5, 1001, .inl (fun _ => 0))), (q11, .inr (0, [.long 0, .long 0, .long 0, .long 0, .long 0])), (q12, .inr (2, [.ref q1, .ref q5, .ref q8, .ref q11, .long 0, .long 0, .long 0])), (q13, .inr (4, [.ref q12, .ref q14, .int 0, .int (-1), .int (-2)])), (q14, .inl (c6, 4096, .inl (fun _ => 0)))] H := hP
  have hD : va_D A [(h0, .inr (8, [.ref q1, .ref q2, .ref q5, .ref q8, .ref q11, .ref q12, .null, .null, .int 0])), (q1, .inr (6, [.int 1, .int 3, .int 1, .int 1, .int 0, .int 1, .int 10, .int 153])), (q2, .inr (3, [.ref q3, .ref q4, .int 0, .int (-1), .int 0, .int 0, .int 0])), (q3, .inl (c1, 120, .inl (fun _ => 0))), (q4, .inr (6, [.int 1, .int 3, .int 1, .int 1, .int 0, .int 1, .int 10, .int 153])), (q5, .inr (1, [.ref q6, .ref q7, .int 0, .int 0, .int 0, .int 0, .int 0, .int 0])), (q6, .inl (c2, 8, .inl (fun _ => 0))), (q7, .inl (c3, 4, .inl (fun _ => 0))), (q8, .inr (7, [.ref q9, .ref q10, .int 0, .int 0, .int 0])), (q9, .inl (c4, 1001, .inl (fun _ => 0))), (q10, .inl (c5, 1001, .inl (fun _ => 0))), (q11, .inr (0, [.long 0, .long 0, .long 0, .long 0, .long 0])), (q12, .inr (2, [.ref q1, .ref q5, .ref q8, .ref q11, .long 0, .long 0, .long 0])), (q13, .inr (4, [.ref q12, .ref q14, .int 0, .int (-1), .int (-2)])), (q14, .inl (c6, 4096, .inl (fun _ => 0)))] := hD
  have hK : va_K D vwCl [(c1, .int), (c2, .int), (c3, .int), (c4, .int), (c5, .int), (c6, .int)] s := hK
  refine W.widen (k := 14) (n := 6283) (Nat.le_refl _) (Nat.le_refl _) ?_
  refine va_putF (D := D) (ci := 8) (v := .ref q13) (ty := .object "SaidOfHim$Survey") (C := RX8) (T := TX8) (N := 9) hx hb hts inU8 tyX8 tyX8_ok nmX8 hown hK hP hD hS 0 rfl rfl 6 (by decide) (hts _ kt2_46) (fun _ h9 => h9) rfl hin rfl (by decide +kernel) rfl rfl (Nat.le_of_ble_eq_true rfl) dX8_init_98 (fun H locs hP hD hS => ?_)
  have hP : va_P D vwCl [(h0, .inr (8, [.ref q1, .ref q2, .ref q5, .ref q8, .ref q11, .ref q12, .ref q13, .null, .int 0])), (q1, .inr (6, [.int 1, .int 3, .int 1, .int 1, .int 0, .int 1, .int 10, .int 153])), (q2, .inr (3, [.ref q3, .ref q4, .int 0, .int (-1), .int 0, .int 0, .int 0])), (q3, .inl (c1, 120, .inl (fun _ => 0))), (q4, .inr (6, [.int 1, .int 3, .int 1, .int 1, .int 0, .int 1, .int 10, .int 153])), (q5, .inr (1, [.ref q6, .ref q7, .int 0, .int 0, .int 0, .int 0, .int 0, .int 0])), (q6, .inl (c2, 8, .inl (fun _ => 0))), (q7, .inl (c3, 4, .inl (fun _ => 0))), (q8, .inr (7, [.ref q9, .ref q10, .int 0, .int 0, .int 0])), (q9, .inl (c4, 1001, .inl (fun _ => 0))), (q10, .inl (c5, 1001, .inl (fun _ => 0))), (q11, .inr (0, [.long 0, .long 0, .long 0, .long 0, .long 0])), (q12, .inr (2, [.ref q1, .ref q5, .ref q8, .ref q11, .long 0, .long 0, .long 0])), (q13, .inr (4, [.ref q12, .ref q14, .int 0, .int (-1), .int (-2)])), (q14, .inl (c6, 4096, .inl (fun _ => 0)))] H := hP
  have hD : va_D A [(h0, .inr (8, [.ref q1, .ref q2, .ref q5, .ref q8, .ref q11, .ref q12, .ref q13, .null, .int 0])), (q1, .inr (6, [.int 1, .int 3, .int 1, .int 1, .int 0, .int 1, .int 10, .int 153])), (q2, .inr (3, [.ref q3, .ref q4, .int 0, .int (-1), .int 0, .int 0, .int 0])), (q3, .inl (c1, 120, .inl (fun _ => 0))), (q4, .inr (6, [.int 1, .int 3, .int 1, .int 1, .int 0, .int 1, .int 10, .int 153])), (q5, .inr (1, [.ref q6, .ref q7, .int 0, .int 0, .int 0, .int 0, .int 0, .int 0])), (q6, .inl (c2, 8, .inl (fun _ => 0))), (q7, .inl (c3, 4, .inl (fun _ => 0))), (q8, .inr (7, [.ref q9, .ref q10, .int 0, .int 0, .int 0])), (q9, .inl (c4, 1001, .inl (fun _ => 0))), (q10, .inl (c5, 1001, .inl (fun _ => 0))), (q11, .inr (0, [.long 0, .long 0, .long 0, .long 0, .long 0])), (q12, .inr (2, [.ref q1, .ref q5, .ref q8, .ref q11, .long 0, .long 0, .long 0])), (q13, .inr (4, [.ref q12, .ref q14, .int 0, .int (-1), .int (-2)])), (q14, .inl (c6, 4096, .inl (fun _ => 0)))] := hD
  refine lv_aload_n hx hb dX8_init_101 rfl (lv_at hl 0 rfl) ?_
  refine va_new (ci := 5) (fs := [.null, .null]) (C := RX5) (T := TX5) (N := 2) hx hb hts inU5 tyX5 tyX5_ok hown (hts _ kt2_17) (hts _ kt2_18) (hts _ kt1_9) hK hP hD hS hA rfl (fun j hj => by rcases (show j = 0 ∨ j = 1 by omega) with rfl | rfl <;> rfl) (Nat.le_of_ble_eq_true rfl) (Nat.le_of_ble_eq_true rfl) dX8_init_102 (fun q15 H hP hD hS => ?_)
  have hP : va_P D vwCl [(h0, .inr (8, [.ref q1, .ref q2, .ref q5, .ref q8, .ref q11, .ref q12, .ref q13, .null, .int 0])), (q1, .inr (6, [.int 1, .int 3, .int 1, .int 1, .int 0, .int 1, .int 10, .int 153])), (q2, .inr (3, [.ref q3, .ref q4, .int 0, .int (-1), .int 0, .int 0, .int 0])), (q3, .inl (c1, 120, .inl (fun _ => 0))), (q4, .inr (6, [.int 1, .int 3, .int 1, .int 1, .int 0, .int 1, .int 10, .int 153])), (q5, .inr (1, [.ref q6, .ref q7, .int 0, .int 0, .int 0, .int 0, .int 0, .int 0])), (q6, .inl (c2, 8, .inl (fun _ => 0))), (q7, .inl (c3, 4, .inl (fun _ => 0))), (q8, .inr (7, [.ref q9, .ref q10, .int 0, .int 0, .int 0])), (q9, .inl (c4, 1001, .inl (fun _ => 0))), (q10, .inl (c5, 1001, .inl (fun _ => 0))), (q11, .inr (0, [.long 0, .long 0, .long 0, .long 0, .long 0])), (q12, .inr (2, [.ref q1, .ref q5, .ref q8, .ref q11, .long 0, .long 0, .long 0])), (q13, .inr (4, [.ref q12, .ref q14, .int 0, .int (-1), .int (-2)])), (q14, .inl (c6, 4096, .inl (fun _ => 0))), (q15, .inr (5, [.null, .null]))] H := hP
  have hD : va_D A [(h0, .inr (8, [.ref q1, .ref q2, .ref q5, .ref q8, .ref q11, .ref q12, .ref q13, .null, .int 0])), (q1, .inr (6, [.int 1, .int 3, .int 1, .int 1, .int 0, .int 1, .int 10, .int 153])), (q2, .inr (3, [.ref q3, .ref q4, .int 0, .int (-1), .int 0, .int 0, .int 0])), (q3, .inl (c1, 120, .inl (fun _ => 0))), (q4, .inr (6, [.int 1, .int 3, .int 1, .int 1, .int 0, .int 1, .int 10, .int 153])), (q5, .inr (1, [.ref q6, .ref q7, .int 0, .int 0, .int 0, .int 0, .int 0, .int 0])), (q6, .inl (c2, 8, .inl (fun _ => 0))), (q7, .inl (c3, 4, .inl (fun _ => 0))), (q8, .inr (7, [.ref q9, .ref q10, .int 0, .int 0, .int 0])), (q9, .inl (c4, 1001, .inl (fun _ => 0))), (q10, .inl (c5, 1001, .inl (fun _ => 0))), (q11, .inr (0, [.long 0, .long 0, .long 0, .long 0, .long 0])), (q12, .inr (2, [.ref q1, .ref q5, .ref q8, .ref q11, .long 0, .long 0, .long 0])), (q13, .inr (4, [.ref q12, .ref q14, .int 0, .int (-1), .int (-2)])), (q14, .inl (c6, 4096, .inl (fun _ => 0))), (q15, .inr (5, [.null, .null]))] := hD
  refine W.widen (k := 15) (n := 6285) (Nat.le_refl _) (Nat.le_refl _) ?_
  refine lv_dup hx hb dX8_init_105 rfl ?_
  have hPc := hP.sub (ws' := [(q15, .inr (5, [.null, .null]))]) [15] rfl
  have hDc := hD.sub (ws' := [(q15, .inr (5, [.null, .null]))]) [15] (by decide) rfl
  have hKc := hK.sub (tys' := []) [] rfl
  have hFc := va_free (wc := [(q15, .inr (5, [.null, .null]))]) hD hS hA [15] rfl
  refine va_callv (va_runI (As := []) (rest := [.ref q15, .ref h0]) ⟨hx, hb, hml, hown, hts⟩ (k_X5_init l D q15 H.size) (cwI 0 hts (gN kt2_21) rfl rfl rfl (hts _ kt1_9) (hts _ kt2_19) (hts _ kt2_20) rfl (by decide +kernel) ⟨Nat.le_of_ble_eq_true rfl, Nat.le_of_ble_eq_true rfl⟩) ⟨fun a U g mk q => by obtain ⟨q0, q1, qP, qK, qD, qN⟩ := q; exact ⟨q0, q1, qP, va_K.moved (u := U) (U := U.calling g mk a) (Vm.Alike.refl U.vm) qK, qD, qN.same rfl⟩, fun U hU hW => ⟨rfl, by rw [hU], by rw [hU]; exact hPc, va_K.moved hW.alike hKc, hDc.weaken (fun _ _ _ _ => trivial), hN.warm hW⟩⟩ rfl rfl hl.1 rfl (lv_room (Nat.le_of_ble_eq_true rfl)) dX8_init_106 ⟨Nat.le_of_ble_eq_true rfl, Nat.le_of_ble_eq_true rfl⟩) hS (fun q _ h => hFc q h) hFc (fun u t H1 locs ht hvm hw hB hz1 hk1 hS => ?_)
  obtain ⟨q16, q17, c7, c8, hP1, hK1, hD1⟩ := hB
  rw [ht] at hP1
  have hK1 := va_K.moved hvm.symm hK1
  obtain ⟨hP, hD⟩ := va_join (wr := [(h0, .inr (8, [.ref q1, .ref q2, .ref q5, .ref q8, .ref q11, .ref q12, .ref q13, .null, .int 0])), (q1, .inr (6, [.int 1, .int 3, .int 1, .int 1, .int 0, .int 1, .int 10, .int 153])), (q2, .inr (3, [.ref q3, .ref q4, .int 0, .int (-1), .int 0, .int 0, .int 0])), (q3, .inl (c1, 120, .inl (fun _ => 0))), (q4, .inr (6, [.int 1, .int 3, .int 1, .int 1, .int 0, .int 1, .int 10, .int 153])), (q5, .inr (1, [.ref q6, .ref q7, .int 0, .int 0, .int 0, .int 0, .int 0, .int 0])), (q6, .inl (c2, 8, .inl (fun _ => 0))), (q7, .inl (c3, 4, .inl (fun _ => 0))), (q8, .inr (7, [.ref q9, .ref q10, .int 0, .int 0, .int 0])), (q9, .inl (c4, 1001, .inl (fun _ => 0))), (q10, .inl (c5, 1001, .inl (fun _ => 0))), (q11, .inr (0, [.long 0, .long 0, .long 0, .long 0, .long 0])), (q12, .inr (2, [.ref q1, .ref q5, .ref q8, .ref q11, .long 0, .long 0, .long 0])), (q13, .inr (4, [.ref q12, .ref q14, .int 0, .int (-1), .int (-2)])), (q14, .inl (c6, 4096, .inl (fun _ => 0)))]) (w1 := [(q15, .inr (5, [.ref q16, .ref q17])), (q16, .inl (c7, 6, .inl (arV 1))), (q17, .inl (c8, 6, .inl (arV 2)))]) hP hD [15] [0, 1, 2, 3, 4, 5, 6, 7, 8, 9, 10, 11, 12, 13, 14] rfl rfl (by decide) (by decide) hk1 hFc hP1 hD1
  have hK := hK.app hK1
  generalize H1 = H at hP hS ⊢
  have hP : va_P D vwCl [(h0, .inr (8, [.ref q1, .ref q2, .ref q5, .ref q8, .ref q11, .ref q12, .ref q13, .null, .int 0])), (q1, .inr (6, [.int 1, .int 3, .int 1, .int 1, .int 0, .int 1, .int 10, .int 153])), (q2, .inr (3, [.ref q3, .ref q4, .int 0, .int (-1), .int 0, .int 0, .int 0])), (q3, .inl (c1, 120, .inl (fun _ => 0))), (q4, .inr (6, [.int 1, .int 3, .int 1, .int 1, .int 0, .int 1, .int 10, .int 153])), (q5, .inr (1, [.ref q6, .ref q7, .int 0, .int 0, .int 0, .int 0, .int 0, .int 0])), (q6, .inl (c2, 8, .inl (fun _ => 0))), (q7, .inl (c3, 4, .inl (fun _ => 0))), (q8, .inr (7, [.ref q9, .ref q10, .int 0, .int 0, .int 0])), (q9, .inl (c4, 1001, .inl (fun _ => 0))), (q10, .inl (c5, 1001, .inl (fun _ => 0))), (q11, .inr (0, [.long 0, .long 0, .long 0, .long 0, .long 0])), (q12, .inr (2, [.ref q1, .ref q5, .ref q8, .ref q11, .long 0, .long 0, .long 0])), (q13, .inr (4, [.ref q12, .ref q14, .int 0, .int (-1), .int (-2)])), (q14, .inl (c6, 4096, .inl (fun _ => 0))), (q15, .inr (5, [.ref q16, .ref q17])), (q16, .inl (c7, 6, .inl (arV 1))), (q17, .inl (c8, 6, .inl (arV 2)))] H := hP
  have hD : va_D A [(h0, .inr (8, [.ref q1, .ref q2, .ref q5, .ref q8, .ref q11, .ref q12, .ref q13, .null, .int 0])), (q1, .inr (6, [.int 1, .int 3, .int 1, .int 1, .int 0, .int 1, .int 10, .int 153])), (q2, .inr (3, [.ref q3, .ref q4, .int 0, .int (-1), .int 0, .int 0, .int 0])), (q3, .inl (c1, 120, .inl (fun _ => 0))), (q4, .inr (6, [.int 1, .int 3, .int 1, .int 1, .int 0, .int 1, .int 10, .int 153])), (q5, .inr (1, [.ref q6, .ref q7, .int 0, .int 0, .int 0, .int 0, .int 0, .int 0])), (q6, .inl (c2, 8, .inl (fun _ => 0))), (q7, .inl (c3, 4, .inl (fun _ => 0))), (q8, .inr (7, [.ref q9, .ref q10, .int 0, .int 0, .int 0])), (q9, .inl (c4, 1001, .inl (fun _ => 0))), (q10, .inl (c5, 1001, .inl (fun _ => 0))), (q11, .inr (0, [.long 0, .long 0, .long 0, .long 0, .long 0])), (q12, .inr (2, [.ref q1, .ref q5, .ref q8, .ref q11, .long 0, .long 0, .long 0])), (q13, .inr (4, [.ref q12, .ref q14, .int 0, .int (-1), .int (-2)])), (q14, .inl (c6, 4096, .inl (fun _ => 0))), (q15, .inr (5, [.ref q16, .ref q17])), (q16, .inl (c7, 6, .inl (arV 1))), (q17, .inl (c8, 6, .inl (arV 2)))] := hD
  have hK : va_K D vwCl [(c1, .int), (c2, .int), (c3, .int), (c4, .int), (c5, .int), (c6, .int), (c7, .int), (c8, .int)] s := hK
  refine W.widen (k := 17) (n := 6297) (Nat.le_refl _) (Nat.le_refl _) ?_
  refine va_putF (D := D) (ci := 8) (v := .ref q15) (ty := .object "SaidOfHim$Views") (C := RX8) (T := TX8) (N := 9) hx hb hts inU8 tyX8 tyX8_ok nmX8 hown hK hP hD hS 0 rfl rfl 7 (by decide) (hts _ kt2_47) (fun _ h9 => h9) rfl hin rfl (by decide +kernel) rfl rfl (Nat.le_of_ble_eq_true rfl) dX8_init_109 (fun H locs hP hD hS => ?_)
  have hP : va_P D vwCl [(h0, .inr (8, [.ref q1, .ref q2, .ref q5, .ref q8, .ref q11, .ref q12, .ref q13, .ref q15, .int 0])), (q1, .inr (6, [.int 1, .int 3, .int 1, .int 1, .int 0, .int 1, .int 10, .int 153])), (q2, .inr (3, [.ref q3, .ref q4, .int 0, .int (-1), .int 0, .int 0, .int 0])), (q3, .inl (c1, 120, .inl (fun _ => 0))), (q4, .inr (6, [.int 1, .int 3, .int 1, .int 1, .int 0, .int 1, .int 10, .int 153])), (q5, .inr (1, [.ref q6, .ref q7, .int 0, .int 0, .int 0, .int 0, .int 0, .int 0])), (q6, .inl (c2, 8, .inl (fun _ => 0))), (q7, .inl (c3, 4, .inl (fun _ => 0))), (q8, .inr (7, [.ref q9, .ref q10, .int 0, .int 0, .int 0])), (q9, .inl (c4, 1001, .inl (fun _ => 0))), (q10, .inl (c5, 1001, .inl (fun _ => 0))), (q11, .inr (0, [.long 0, .long 0, .long 0, .long 0, .long 0])), (q12, .inr (2, [.ref q1, .ref q5, .ref q8, .ref q11, .long 0, .long 0, .long 0])), (q13, .inr (4, [.ref q12, .ref q14, .int 0, .int (-1), .int (-2)])), (q14, .inl (c6, 4096, .inl (fun _ => 0))), (q15, .inr (5, [.ref q16, .ref q17])), (q16, .inl (c7, 6, .inl (arV 1))), (q17, .inl (c8, 6, .inl (arV 2)))] H := hP
  have hD : va_D A [(h0, .inr (8, [.ref q1, .ref q2, .ref q5, .ref q8, .ref q11, .ref q12, .ref q13, .ref q15, .int 0])), (q1, .inr (6, [.int 1, .int 3, .int 1, .int 1, .int 0, .int 1, .int 10, .int 153])), (q2, .inr (3, [.ref q3, .ref q4, .int 0, .int (-1), .int 0, .int 0, .int 0])), (q3, .inl (c1, 120, .inl (fun _ => 0))), (q4, .inr (6, [.int 1, .int 3, .int 1, .int 1, .int 0, .int 1, .int 10, .int 153])), (q5, .inr (1, [.ref q6, .ref q7, .int 0, .int 0, .int 0, .int 0, .int 0, .int 0])), (q6, .inl (c2, 8, .inl (fun _ => 0))), (q7, .inl (c3, 4, .inl (fun _ => 0))), (q8, .inr (7, [.ref q9, .ref q10, .int 0, .int 0, .int 0])), (q9, .inl (c4, 1001, .inl (fun _ => 0))), (q10, .inl (c5, 1001, .inl (fun _ => 0))), (q11, .inr (0, [.long 0, .long 0, .long 0, .long 0, .long 0])), (q12, .inr (2, [.ref q1, .ref q5, .ref q8, .ref q11, .long 0, .long 0, .long 0])), (q13, .inr (4, [.ref q12, .ref q14, .int 0, .int (-1), .int (-2)])), (q14, .inl (c6, 4096, .inl (fun _ => 0))), (q15, .inr (5, [.ref q16, .ref q17])), (q16, .inl (c7, 6, .inl (arV 1))), (q17, .inl (c8, 6, .inl (arV 2)))] := hD
  refine lv_aload_n hx hb dX8_init_112 rfl (lv_at hl 0 rfl) ?_
  refine lv_iconst (v := 0) hx hb dX8_init_113 (by decide) ?_
  refine va_put (D := D) (ci := 8) (v := .int 0) (ty := .int) (C := RX8) (T := TX8) (N := 9) hx hb hts inU8 tyX8 tyX8_ok nmX8 hown hK hP hD hS 0 rfl rfl 8 (by decide) (hts _ kt2_48) (fun _ h9 => h9) rfl (by decide +kernel) rfl rfl (Nat.le_of_ble_eq_true rfl) dX8_init_114 (fun H locs hP hD hS => ?_)
  have hP : va_P D vwCl [(h0, .inr (8, [.ref q1, .ref q2, .ref q5, .ref q8, .ref q11, .ref q12, .ref q13, .ref q15, .int 0])), (q1, .inr (6, [.int 1, .int 3, .int 1, .int 1, .int 0, .int 1, .int 10, .int 153])), (q2, .inr (3, [.ref q3, .ref q4, .int 0, .int (-1), .int 0, .int 0, .int 0])), (q3, .inl (c1, 120, .inl (fun _ => 0))), (q4, .inr (6, [.int 1, .int 3, .int 1, .int 1, .int 0, .int 1, .int 10, .int 153])), (q5, .inr (1, [.ref q6, .ref q7, .int 0, .int 0, .int 0, .int 0, .int 0, .int 0])), (q6, .inl (c2, 8, .inl (fun _ => 0))), (q7, .inl (c3, 4, .inl (fun _ => 0))), (q8, .inr (7, [.ref q9, .ref q10, .int 0, .int 0, .int 0])), (q9, .inl (c4, 1001, .inl (fun _ => 0))), (q10, .inl (c5, 1001, .inl (fun _ => 0))), (q11, .inr (0, [.long 0, .long 0, .long 0, .long 0, .long 0])), (q12, .inr (2, [.ref q1, .ref q5, .ref q8, .ref q11, .long 0, .long 0, .long 0])), (q13, .inr (4, [.ref q12, .ref q14, .int 0, .int (-1), .int (-2)])), (q14, .inl (c6, 4096, .inl (fun _ => 0))), (q15, .inr (5, [.ref q16, .ref q17])), (q16, .inl (c7, 6, .inl (arV 1))), (q17, .inl (c8, 6, .inl (arV 2)))] H := hP
  have hD : va_D A [(h0, .inr (8, [.ref q1, .ref q2, .ref q5, .ref q8, .ref q11, .ref q12, .ref q13, .ref q15, .int 0])), (q1, .inr (6, [.int 1, .int 3, .int 1, .int 1, .int 0, .int 1, .int 10, .int 153])), (q2, .inr (3, [.ref q3, .ref q4, .int 0, .int (-1), .int 0, .int 0, .int 0])), (q3, .inl (c1, 120, .inl (fun _ => 0))), (q4, .inr (6, [.int 1, .int 3, .int 1, .int 1, .int 0, .int 1, .int 10, .int 153])), (q5, .inr (1, [.ref q6, .ref q7, .int 0, .int 0, .int 0, .int 0, .int 0, .int 0])), (q6, .inl (c2, 8, .inl (fun _ => 0))), (q7, .inl (c3, 4, .inl (fun _ => 0))), (q8, .inr (7, [.ref q9, .ref q10, .int 0, .int 0, .int 0])), (q9, .inl (c4, 1001, .inl (fun _ => 0))), (q10, .inl (c5, 1001, .inl (fun _ => 0))), (q11, .inr (0, [.long 0, .long 0, .long 0, .long 0, .long 0])), (q12, .inr (2, [.ref q1, .ref q5, .ref q8, .ref q11, .long 0, .long 0, .long 0])), (q13, .inr (4, [.ref q12, .ref q14, .int 0, .int (-1), .int (-2)])), (q14, .inl (c6, 4096, .inl (fun _ => 0))), (q15, .inr (5, [.ref q16, .ref q17])), (q16, .inl (c7, 6, .inl (arV 1))), (q17, .inl (c8, 6, .inl (arV 2)))] := hD
  refine W.widen (k := 17) (n := 6297) (Nat.le_refl _) (Nat.le_refl _) ?_
  exact W.vret hx hb hr (fun t ht hW => ⟨⟨(), rfl, trivial, q1, q2, q3, q4, q5, q6, q7, q8, q9, q10, q11, q12, q13, q14, q15, q16, q17, c1, c2, c3, c4, c5, c6, c7, c8, by rw [ht]; exact hP, va_K.moved hW.alike hK, hD⟩, hS.F ht⟩) hS.2.2 dX8_init_117 hlocks
def arM : Nat → Nat → Int32 := match f_X9_init_T (fun _ _ => 0) with | some z => z | none => fun _ _ => 0
theorem eM : f_X9_init_T (fun _ _ => 0) = some arM := by
  have h : (f_X9_init_T (fun _ _ => 0)).isSome = true := by decide +kernel
  unfold arM
  cases hz : f_X9_init_T (fun _ _ => 0) with
  | none => rw [hz] at h; cases h
  | some z => rfl
set_option maxHeartbeats 4000000 in
set_option maxRecDepth 100000 in
theorem k_X9_init (l : Launch) (D : va_G) (h0 sz : Nat) : Met l yX9_init (.code yX9_init cX9_init 2 none :: wsU) { frames := 1, cells := 6, slots := 1179, locals := 20 } (va_Pc [.ref h0] (fun U => U.heap.size = sz ∧ va_P D vwCl [(h0, .inr (9, [.null, .null, .int 0, .null, .int 0, .int 0, .int 0, .int 0, .int 0, .int 0, .int 0, .null, .int 0, .int 0, .int 0, .long 0, .long 0, .long 0, .long 0, .null, .null]))] U.heap ∧ va_K D vwCl [] U ∧ va_D (fun _ => True) [(h0, .inr (9, [.null, .null, .int 0, .null, .int 0, .int 0, .int 0, .int 0, .int 0, .int 0, .int 0, .null, .int 0, .int 0, .int 0, .long 0, .long 0, .long 0, .long 0, .null, .null]))] ∧ Nst U)) (va_Qv (fun _ : Unit => True) (fun _ t => ∃ (q1 q2 q3 q4 q5 q6 : Nat) (c1 c2 c3 c4 c5 c6 : ClassId), va_P D vwCl [(h0, .inr (9, [.ref q1, .ref q2, .int 0, .ref q3, .int 0, .int 0, .int 0, .int 0, .int 0, .int (-1), .int 0, .ref q4, .int 0, .int 0, .int 0, .long 0, .long 0, .long 0, .long 0, .ref q5, .ref q6])), (q1, .inl (c1, 8, .inl (arM 1))), (q2, .inl (c2, 8, .inl (arM 2))), (q3, .inl (c3, 120, .inl (arM 3))), (q4, .inl (c4, 1001, .inl (arM 4))), (q5, .inl (c5, 36, .inl (arM 5))), (q6, .inl (c6, 6, .inl (arM 6)))] t.heap ∧ va_K D vwCl [(c1, .int), (c2, .int), (c3, .int), (c4, .int), (c5, .boolean), (c6, .int)] t ∧ va_D (va_A [(h0, .inr (9, [.null, .null, .int 0, .null, .int 0, .int 0, .int 0, .int 0, .int 0, .int 0, .int 0, .null, .int 0, .int 0, .int 0, .long 0, .long 0, .long 0, .long 0, .null, .null]))] sz) [(h0, .inr (9, [.ref q1, .ref q2, .int 0, .ref q3, .int 0, .int 0, .int 0, .int 0, .int 0, .int (-1), .int 0, .ref q4, .int 0, .int 0, .int 0, .long 0, .long 0, .long 0, .long 0, .ref q5, .ref q6])), (q1, .inl (c1, 8, .inl (arM 1))), (q2, .inl (c2, 8, .inl (arM 2))), (q3, .inl (c3, 120, .inl (arM 3))), (q4, .inl (c4, 1001, .inl (arM 4))), (q5, .inl (c5, 36, .inl (arM 5))), (q6, .inl (c6, 6, .inl (arM 6)))]) (va_A [(h0, .inr (9, [.null, .null, .int 0, .null, .int 0, .int 0, .int 0, .int 0, .int 0, .int 0, .int 0, .null, .int 0, .int 0, .int 0, .long 0, .long 0, .long 0, .long 0, .null, .null]))] sz)) 6 1179 (va_A [(h0, .inr (9, [.null, .null, .int 0, .null, .int 0, .int 0, .int 0, .int 0, .int 0, .int 0, .int 0, .null, .int 0, .int 0, .int 0, .long 0, .long 0, .long 0, .long 0, .null, .null]))] sz) := by
  refine va_MetF (cc := cX9_init) (maxL := 2) (ret := none) (by decide +kernel) rfl ?_
  intro p e s m args below meth c s₁ B hml hv
  obtain ⟨rfl, hsz, hP, hK, hD0, hN⟩ := hv
  have hx := B.exec
  have hb := B.bytes
  have hr := B.returns
  have hts0 := atoms_spec B.pre
  have hts : ∀ w ∈ wsU, w.before _ s = true := fun w hw => hts0 w (List.mem_cons_of_mem _ hw)
  have hown : s.vm.findClass RX9 = some m.cls := findClass_of_methodNamed B.named
  have hlocks := B.notSynchronized
  have hin : meth.name = "<init>" := (name_of_methodNamed B.named B.method).1
  subst hsz
  have hD := hD0.self (sz := s.heap.size)
  generalize hAe : va_A [(h0, .inr (9, [.null, .null, .int 0, .null, .int 0, .int 0, .int 0, .int 0, .int 0, .int 0, .int 0, .null, .int 0, .int 0, .int 0, .long 0, .long 0, .long 0, .long 0, .null, .null]))] s.heap.size = A at hD ⊢
  have hA : ∀ q : Nat, s.heap.size ≤ q → A q := fun q h => by rw [← hAe]; exact Or.inr h
  have hS : va_S A s.heap s.heap [] := va_S.rf
  have hl := lv_entry ([.ref h0]) (n := 2) (Nat.le_of_ble_eq_true rfl)
  rw [lg_entry_eq]
  generalize (lg_sl ([.ref h0]) ++ List.replicate (2 - (lg_sl ([.ref h0])).length) Slot.unset).toArray = ls at hl ⊢
  have hl : lv_has ls 2 [(0, .ref h0)] := hl
  refine lv_aload_n hx hb dX9_init_0 rfl (lv_at hl 0 rfl) ?_
  refine W.objInit hx hb hown (hts _ kt4_21) (hts _ kt1_24) (hts _ kt1_25) rfl (by rw [hml]; exact hl.1) rfl dX9_init_1 (Nat.le_of_ble_eq_true rfl) (Nat.le_of_ble_eq_true rfl) ?_
  refine W.eq (g2 := F0 m 4 ls []) rfl ?_
  refine lv_aload_n hx hb dX9_init_4 rfl (lv_at hl 0 rfl) ?_
  refine lv_bipush (v := 8) hx hb dX9_init_5 (by decide) ?_
  refine va_newa (atype := .int) (a0 := (8, .inl (fun _ => 0))) (N' := 8) (ty := .int) hx hb (hts _ kt1_118) rfl hK hP hD hS hA (fun _ => rfl) (by decide) (by decide) (by decide) (Nat.le_of_ble_eq_true rfl) (Nat.le_of_ble_eq_true rfl) dX9_init_7 (fun q1 c1 H hK hP hD hS => ?_)
  have hP : va_P D vwCl [(h0, .inr (9, [.null, .null, .int 0, .null, .int 0, .int 0, .int 0, .int 0, .int 0, .int 0, .int 0, .null, .int 0, .int 0, .int 0, .long 0, .long 0, .long 0, .long 0, .null, .null])), (q1, .inl (c1, 8, .inl (fun _ => 0)))] H := hP
  have hD : va_D A [(h0, .inr (9, [.null, .null, .int 0, .null, .int 0, .int 0, .int 0, .int 0, .int 0, .int 0, .int 0, .null, .int 0, .int 0, .int 0, .long 0, .long 0, .long 0, .long 0, .null, .null])), (q1, .inl (c1, 8, .inl (fun _ => 0)))] := hD
  have hK : va_K D vwCl [(c1, .int)] s := hK
  refine W.widen (k := 1) (n := 8) (Nat.le_refl _) (Nat.le_refl _) ?_
  refine va_putF (D := D) (ci := 9) (v := .ref q1) (ty := .array .int) (C := RX9) (T := TX9) (N := 21) hx hb hts inU9 tyX9 tyX9_ok nmX9 hown hK hP hD hS 0 rfl rfl 0 (by decide) (hts _ kt4_25) (fun _ h9 => h9) rfl hin rfl (by decide +kernel) rfl rfl (Nat.le_of_ble_eq_true rfl) dX9_init_9 (fun H locs hP hD hS => ?_)
  have hP : va_P D vwCl [(h0, .inr (9, [.ref q1, .null, .int 0, .null, .int 0, .int 0, .int 0, .int 0, .int 0, .int 0, .int 0, .null, .int 0, .int 0, .int 0, .long 0, .long 0, .long 0, .long 0, .null, .null])), (q1, .inl (c1, 8, .inl (fun _ => 0)))] H := hP
  have hD : va_D A [(h0, .inr (9, [.ref q1, .null, .int 0, .null, .int 0, .int 0, .int 0, .int 0, .int 0, .int 0, .int 0, .null, .int 0, .int 0, .int 0, .long 0, .long 0, .long 0, .long 0, .null, .null])), (q1, .inl (c1, 8, .inl (fun _ => 0)))] := hD
  refine lv_aload_n hx hb dX9_init_12 rfl (lv_at hl 0 rfl) ?_
  refine lv_bipush (v := 8) hx hb dX9_init_13 (by decide) ?_
  refine va_newa (atype := .int) (a0 := (8, .inl (fun _ => 0))) (N' := 8) (ty := .int) hx hb (hts _ kt1_118) rfl hK hP hD hS hA (fun _ => rfl) (by decide) (by decide) (by decide) (Nat.le_of_ble_eq_true rfl) (Nat.le_of_ble_eq_true rfl) dX9_init_15 (fun q2 c2 H hK hP hD hS => ?_)
  have hP : va_P D vwCl [(h0, .inr (9, [.ref q1, .null, .int 0, .null, .int 0, .int 0, .int 0, .int 0, .int 0, .int 0, .int 0, .null, .int 0, .int 0, .int 0, .long 0, .long 0, .long 0, .long 0, .null, .null])), (q1, .inl (c1, 8, .inl (fun _ => 0))), (q2, .inl (c2, 8, .inl (fun _ => 0)))] H := hP
  have hD : va_D A [(h0, .inr (9, [.ref q1, .null, .int 0, .null, .int 0, .int 0, .int 0, .int 0, .int 0, .int 0, .int 0, .null, .int 0, .int 0, .int 0, .long 0, .long 0, .long 0, .long 0, .null, .null])), (q1, .inl (c1, 8, .inl (fun _ => 0))), (q2, .inl (c2, 8, .inl (fun _ => 0)))] := hD
  have hK : va_K D vwCl [(c1, .int), (c2, .int)] s := hK
  refine W.widen (k := 2) (n := 16) (Nat.le_refl _) (Nat.le_refl _) ?_
  refine va_putF (D := D) (ci := 9) (v := .ref q2) (ty := .array .int) (C := RX9) (T := TX9) (N := 21) hx hb hts inU9 tyX9 tyX9_ok nmX9 hown hK hP hD hS 0 rfl rfl 1 (by decide) (hts _ kt4_26) (fun _ h9 => h9) rfl hin rfl (by decide +kernel) rfl rfl (Nat.le_of_ble_eq_true rfl) dX9_init_17 (fun H locs hP hD hS => ?_)
  have hP : va_P D vwCl [(h0, .inr (9, [.ref q1, .ref q2, .int 0, .null, .int 0, .int 0, .int 0, .int 0, .int 0, .int 0, .int 0, .null, .int 0, .int 0, .int 0, .long 0, .long 0, .long 0, .long 0, .null, .null])), (q1, .inl (c1, 8, .inl (fun _ => 0))), (q2, .inl (c2, 8, .inl (fun _ => 0)))] H := hP
  have hD : va_D A [(h0, .inr (9, [.ref q1, .ref q2, .int 0, .null, .int 0, .int 0, .int 0, .int 0, .int 0, .int 0, .int 0, .null, .int 0, .int 0, .int 0, .long 0, .long 0, .long 0, .long 0, .null, .null])), (q1, .inl (c1, 8, .inl (fun _ => 0))), (q2, .inl (c2, 8, .inl (fun _ => 0)))] := hD
  refine lv_aload_n hx hb dX9_init_20 rfl (lv_at hl 0 rfl) ?_
  refine lv_bipush (v := 120) hx hb dX9_init_21 (by decide) ?_
  refine va_newa (atype := .int) (a0 := (120, .inl (fun _ => 0))) (N' := 120) (ty := .int) hx hb (hts _ kt1_118) rfl hK hP hD hS hA (fun _ => rfl) (by decide) (by decide) (by decide) (Nat.le_of_ble_eq_true rfl) (Nat.le_of_ble_eq_true rfl) dX9_init_23 (fun q3 c3 H hK hP hD hS => ?_)
  have hP : va_P D vwCl [(h0, .inr (9, [.ref q1, .ref q2, .int 0, .null, .int 0, .int 0, .int 0, .int 0, .int 0, .int 0, .int 0, .null, .int 0, .int 0, .int 0, .long 0, .long 0, .long 0, .long 0, .null, .null])), (q1, .inl (c1, 8, .inl (fun _ => 0))), (q2, .inl (c2, 8, .inl (fun _ => 0))), (q3, .inl (c3, 120, .inl (fun _ => 0)))] H := hP
  have hD : va_D A [(h0, .inr (9, [.ref q1, .ref q2, .int 0, .null, .int 0, .int 0, .int 0, .int 0, .int 0, .int 0, .int 0, .null, .int 0, .int 0, .int 0, .long 0, .long 0, .long 0, .long 0, .null, .null])), (q1, .inl (c1, 8, .inl (fun _ => 0))), (q2, .inl (c2, 8, .inl (fun _ => 0))), (q3, .inl (c3, 120, .inl (fun _ => 0)))] := hD
  have hK : va_K D vwCl [(c1, .int), (c2, .int), (c3, .int)] s := hK
  refine W.widen (k := 3) (n := 136) (Nat.le_refl _) (Nat.le_refl _) ?_
  refine va_putF (D := D) (ci := 9) (v := .ref q3) (ty := .array .int) (C := RX9) (T := TX9) (N := 21) hx hb hts inU9 tyX9 tyX9_ok nmX9 hown hK hP hD hS 0 rfl rfl 3 (by decide) (hts _ kt4_28) (fun _ h9 => h9) rfl hin rfl (by decide +kernel) rfl rfl (Nat.le_of_ble_eq_true rfl) dX9_init_25 (fun H locs hP hD hS => ?_)
  have hP : va_P D vwCl [(h0, .inr (9, [.ref q1, .ref q2, .int 0, .ref q3, .int 0, .int 0, .int 0, .int 0, .int 0, .int 0, .int 0, .null, .int 0, .int 0, .int 0, .long 0, .long 0, .long 0, .long 0, .null, .null])), (q1, .inl (c1, 8, .inl (fun _ => 0))), (q2, .inl (c2, 8, .inl (fun _ => 0))), (q3, .inl (c3, 120, .inl (fun _ => 0)))] H := hP
  have hD : va_D A [(h0, .inr (9, [.ref q1, .ref q2, .int 0, .ref q3, .int 0, .int 0, .int 0, .int 0, .int 0, .int 0, .int 0, .null, .int 0, .int 0, .int 0, .long 0, .long 0, .long 0, .long 0, .null, .null])), (q1, .inl (c1, 8, .inl (fun _ => 0))), (q2, .inl (c2, 8, .inl (fun _ => 0))), (q3, .inl (c3, 120, .inl (fun _ => 0)))] := hD
  refine lv_aload_n hx hb dX9_init_28 rfl (lv_at hl 0 rfl) ?_
  refine lv_iconst (v := (-1)) hx hb dX9_init_29 (by decide) ?_
  refine va_put (D := D) (ci := 9) (v := .int (-1)) (ty := .int) (C := RX9) (T := TX9) (N := 21) hx hb hts inU9 tyX9 tyX9_ok nmX9 hown hK hP hD hS 0 rfl rfl 9 (by decide) (hts _ kt4_34) (fun _ h9 => h9) rfl (by decide +kernel) rfl rfl (Nat.le_of_ble_eq_true rfl) dX9_init_30 (fun H locs hP hD hS => ?_)
  have hP : va_P D vwCl [(h0, .inr (9, [.ref q1, .ref q2, .int 0, .ref q3, .int 0, .int 0, .int 0, .int 0, .int 0, .int (-1), .int 0, .null, .int 0, .int 0, .int 0, .long 0, .long 0, .long 0, .long 0, .null, .null])), (q1, .inl (c1, 8, .inl (fun _ => 0))), (q2, .inl (c2, 8, .inl (fun _ => 0))), (q3, .inl (c3, 120, .inl (fun _ => 0)))] H := hP
  have hD : va_D A [(h0, .inr (9, [.ref q1, .ref q2, .int 0, .ref q3, .int 0, .int 0, .int 0, .int 0, .int 0, .int (-1), .int 0, .null, .int 0, .int 0, .int 0, .long 0, .long 0, .long 0, .long 0, .null, .null])), (q1, .inl (c1, 8, .inl (fun _ => 0))), (q2, .inl (c2, 8, .inl (fun _ => 0))), (q3, .inl (c3, 120, .inl (fun _ => 0)))] := hD
  refine lv_aload_n hx hb dX9_init_33 rfl (lv_at hl 0 rfl) ?_
  refine lv_sipush (v := 1001) hx hb dX9_init_34 (by decide) ?_
  refine va_newa (atype := .int) (a0 := (1001, .inl (fun _ => 0))) (N' := 1001) (ty := .int) hx hb (hts _ kt1_118) rfl hK hP hD hS hA (fun _ => rfl) (by decide) (by decide) (by decide) (Nat.le_of_ble_eq_true rfl) (Nat.le_of_ble_eq_true rfl) dX9_init_37 (fun q4 c4 H hK hP hD hS => ?_)
  have hP : va_P D vwCl [(h0, .inr (9, [.ref q1, .ref q2, .int 0, .ref q3, .int 0, .int 0, .int 0, .int 0, .int 0, .int (-1), .int 0, .null, .int 0, .int 0, .int 0, .long 0, .long 0, .long 0, .long 0, .null, .null])), (q1, .inl (c1, 8, .inl (fun _ => 0))), (q2, .inl (c2, 8, .inl (fun _ => 0))), (q3, .inl (c3, 120, .inl (fun _ => 0))), (q4, .inl (c4, 1001, .inl (fun _ => 0)))] H := hP
  have hD : va_D A [(h0, .inr (9, [.ref q1, .ref q2, .int 0, .ref q3, .int 0, .int 0, .int 0, .int 0, .int 0, .int (-1), .int 0, .null, .int 0, .int 0, .int 0, .long 0, .long 0, .long 0, .long 0, .null, .null])), (q1, .inl (c1, 8, .inl (fun _ => 0))), (q2, .inl (c2, 8, .inl (fun _ => 0))), (q3, .inl (c3, 120, .inl (fun _ => 0))), (q4, .inl (c4, 1001, .inl (fun _ => 0)))] := hD
  have hK : va_K D vwCl [(c1, .int), (c2, .int), (c3, .int), (c4, .int)] s := hK
  refine W.widen (k := 4) (n := 1137) (Nat.le_refl _) (Nat.le_refl _) ?_
  refine va_putF (D := D) (ci := 9) (v := .ref q4) (ty := .array .int) (C := RX9) (T := TX9) (N := 21) hx hb hts inU9 tyX9 tyX9_ok nmX9 hown hK hP hD hS 0 rfl rfl 11 (by decide) (hts _ kt4_36) (fun _ h9 => h9) rfl hin rfl (by decide +kernel) rfl rfl (Nat.le_of_ble_eq_true rfl) dX9_init_39 (fun H locs hP hD hS => ?_)
  have hP : va_P D vwCl [(h0, .inr (9, [.ref q1, .ref q2, .int 0, .ref q3, .int 0, .int 0, .int 0, .int 0, .int 0, .int (-1), .int 0, .ref q4, .int 0, .int 0, .int 0, .long 0, .long 0, .long 0, .long 0, .null, .null])), (q1, .inl (c1, 8, .inl (fun _ => 0))), (q2, .inl (c2, 8, .inl (fun _ => 0))), (q3, .inl (c3, 120, .inl (fun _ => 0))), (q4, .inl (c4, 1001, .inl (fun _ => 0)))] H := hP
  have hD : va_D A [(h0, .inr (9, [.ref q1, .ref q2, .int 0, .ref q3, .int 0, .int 0, .int 0, .int 0, .int 0, .int (-1), .int 0, .ref q4, .int 0, .int 0, .int 0, .long 0, .long 0, .long 0, .long 0, .null, .null])), (q1, .inl (c1, 8, .inl (fun _ => 0))), (q2, .inl (c2, 8, .inl (fun _ => 0))), (q3, .inl (c3, 120, .inl (fun _ => 0))), (q4, .inl (c4, 1001, .inl (fun _ => 0)))] := hD
  refine lv_aload_n hx hb dX9_init_42 rfl (lv_at hl 0 rfl) ?_
  refine lv_bipush (v := 36) hx hb dX9_init_43 (by decide) ?_
  refine va_newa (atype := .boolean) (a0 := (36, .inl (fun _ => 0))) (N' := 36) (ty := .boolean) hx hb (hts _ kt4_89) rfl hK hP hD hS hA (fun _ => rfl) (by decide) (by decide) (by decide) (Nat.le_of_ble_eq_true rfl) (Nat.le_of_ble_eq_true rfl) dX9_init_45 (fun q5 c5 H hK hP hD hS => ?_)
  have hP : va_P D vwCl [(h0, .inr (9, [.ref q1, .ref q2, .int 0, .ref q3, .int 0, .int 0, .int 0, .int 0, .int 0, .int (-1), .int 0, .ref q4, .int 0, .int 0, .int 0, .long 0, .long 0, .long 0, .long 0, .null, .null])), (q1, .inl (c1, 8, .inl (fun _ => 0))), (q2, .inl (c2, 8, .inl (fun _ => 0))), (q3, .inl (c3, 120, .inl (fun _ => 0))), (q4, .inl (c4, 1001, .inl (fun _ => 0))), (q5, .inl (c5, 36, .inl (fun _ => 0)))] H := hP
  have hD : va_D A [(h0, .inr (9, [.ref q1, .ref q2, .int 0, .ref q3, .int 0, .int 0, .int 0, .int 0, .int 0, .int (-1), .int 0, .ref q4, .int 0, .int 0, .int 0, .long 0, .long 0, .long 0, .long 0, .null, .null])), (q1, .inl (c1, 8, .inl (fun _ => 0))), (q2, .inl (c2, 8, .inl (fun _ => 0))), (q3, .inl (c3, 120, .inl (fun _ => 0))), (q4, .inl (c4, 1001, .inl (fun _ => 0))), (q5, .inl (c5, 36, .inl (fun _ => 0)))] := hD
  have hK : va_K D vwCl [(c1, .int), (c2, .int), (c3, .int), (c4, .int), (c5, .boolean)] s := hK
  refine W.widen (k := 5) (n := 1173) (Nat.le_refl _) (Nat.le_refl _) ?_
  refine va_putF (D := D) (ci := 9) (v := .ref q5) (ty := .array .boolean) (C := RX9) (T := TX9) (N := 21) hx hb hts inU9 tyX9 tyX9_ok nmX9 hown hK hP hD hS 0 rfl rfl 19 (by decide) (hts _ kt4_44) (fun _ h9 => h9) rfl hin rfl (by decide +kernel) rfl rfl (Nat.le_of_ble_eq_true rfl) dX9_init_47 (fun H locs hP hD hS => ?_)
  have hP : va_P D vwCl [(h0, .inr (9, [.ref q1, .ref q2, .int 0, .ref q3, .int 0, .int 0, .int 0, .int 0, .int 0, .int (-1), .int 0, .ref q4, .int 0, .int 0, .int 0, .long 0, .long 0, .long 0, .long 0, .ref q5, .null])), (q1, .inl (c1, 8, .inl (fun _ => 0))), (q2, .inl (c2, 8, .inl (fun _ => 0))), (q3, .inl (c3, 120, .inl (fun _ => 0))), (q4, .inl (c4, 1001, .inl (fun _ => 0))), (q5, .inl (c5, 36, .inl (fun _ => 0)))] H := hP
  have hD : va_D A [(h0, .inr (9, [.ref q1, .ref q2, .int 0, .ref q3, .int 0, .int 0, .int 0, .int 0, .int 0, .int (-1), .int 0, .ref q4, .int 0, .int 0, .int 0, .long 0, .long 0, .long 0, .long 0, .ref q5, .null])), (q1, .inl (c1, 8, .inl (fun _ => 0))), (q2, .inl (c2, 8, .inl (fun _ => 0))), (q3, .inl (c3, 120, .inl (fun _ => 0))), (q4, .inl (c4, 1001, .inl (fun _ => 0))), (q5, .inl (c5, 36, .inl (fun _ => 0)))] := hD
  refine lv_aload_n hx hb dX9_init_50 rfl (lv_at hl 0 rfl) ?_
  refine lv_bipush (v := 6) hx hb dX9_init_51 (by decide) ?_
  refine va_newa (atype := .int) (a0 := (6, .inl (fun _ => 0))) (N' := 6) (ty := .int) hx hb (hts _ kt1_118) rfl hK hP hD hS hA (fun _ => rfl) (by decide) (by decide) (by decide) (Nat.le_of_ble_eq_true rfl) (Nat.le_of_ble_eq_true rfl) dX9_init_53 (fun q6 c6 H hK hP hD hS => ?_)
  have hP : va_P D vwCl [(h0, .inr (9, [.ref q1, .ref q2, .int 0, .ref q3, .int 0, .int 0, .int 0, .int 0, .int 0, .int (-1), .int 0, .ref q4, .int 0, .int 0, .int 0, .long 0, .long 0, .long 0, .long 0, .ref q5, .null])), (q1, .inl (c1, 8, .inl (fun _ => 0))), (q2, .inl (c2, 8, .inl (fun _ => 0))), (q3, .inl (c3, 120, .inl (fun _ => 0))), (q4, .inl (c4, 1001, .inl (fun _ => 0))), (q5, .inl (c5, 36, .inl (fun _ => 0))), (q6, .inl (c6, 6, .inl (fun _ => 0)))] H := hP
  have hD : va_D A [(h0, .inr (9, [.ref q1, .ref q2, .int 0, .ref q3, .int 0, .int 0, .int 0, .int 0, .int 0, .int (-1), .int 0, .ref q4, .int 0, .int 0, .int 0, .long 0, .long 0, .long 0, .long 0, .ref q5, .null])), (q1, .inl (c1, 8, .inl (fun _ => 0))), (q2, .inl (c2, 8, .inl (fun _ => 0))), (q3, .inl (c3, 120, .inl (fun _ => 0))), (q4, .inl (c4, 1001, .inl (fun _ => 0))), (q5, .inl (c5, 36, .inl (fun _ => 0))), (q6, .inl (c6, 6, .inl (fun _ => 0)))] := hD
  have hK : va_K D vwCl [(c1, .int), (c2, .int), (c3, .int), (c4, .int), (c5, .boolean), (c6, .int)] s := hK
  refine W.widen (k := 6) (n := 1179) (Nat.le_refl _) (Nat.le_refl _) ?_
  refine va_putF (D := D) (ci := 9) (v := .ref q6) (ty := .array .int) (C := RX9) (T := TX9) (N := 21) hx hb hts inU9 tyX9 tyX9_ok nmX9 hown hK hP hD hS 0 rfl rfl 20 (by decide) (hts _ kt4_45) (fun _ h9 => h9) rfl hin rfl (by decide +kernel) rfl rfl (Nat.le_of_ble_eq_true rfl) dX9_init_55 (fun H locs hP hD hS => ?_)
  have hP : va_P D vwCl [(h0, .inr (9, [.ref q1, .ref q2, .int 0, .ref q3, .int 0, .int 0, .int 0, .int 0, .int 0, .int (-1), .int 0, .ref q4, .int 0, .int 0, .int 0, .long 0, .long 0, .long 0, .long 0, .ref q5, .ref q6])), (q1, .inl (c1, 8, .inl (fun _ => 0))), (q2, .inl (c2, 8, .inl (fun _ => 0))), (q3, .inl (c3, 120, .inl (fun _ => 0))), (q4, .inl (c4, 1001, .inl (fun _ => 0))), (q5, .inl (c5, 36, .inl (fun _ => 0))), (q6, .inl (c6, 6, .inl (fun _ => 0)))] H := hP
  have hD : va_D A [(h0, .inr (9, [.ref q1, .ref q2, .int 0, .ref q3, .int 0, .int 0, .int 0, .int 0, .int 0, .int (-1), .int 0, .ref q4, .int 0, .int 0, .int 0, .long 0, .long 0, .long 0, .long 0, .ref q5, .ref q6])), (q1, .inl (c1, 8, .inl (fun _ => 0))), (q2, .inl (c2, 8, .inl (fun _ => 0))), (q3, .inl (c3, 120, .inl (fun _ => 0))), (q4, .inl (c4, 1001, .inl (fun _ => 0))), (q5, .inl (c5, 36, .inl (fun _ => 0))), (q6, .inl (c6, 6, .inl (fun _ => 0)))] := hD
  have B : Bd p m c cX9_init 2 s #[Value.ref h0] RX9 (EM D (fun k => if k = 1 then c1 else if k = 2 then c2 else if k = 3 then c3 else if k = 4 then c4 else if k = 5 then c5 else c6) (fun _ => 0) (fun _ => 0)) A := ⟨⟨hx, hb, hml, hown, hts⟩, hK, hN, hA, fun h => by cases h⟩
  have w : Wd (EM D (fun k => if k = 1 then c1 else if k = 2 then c2 else if k = 3 then c3 else if k = 4 then c4 else if k = 5 then c5 else c6) (fun _ => 0) (fun _ => 0)) A s (wM (fun k => if k = 0 then h0 else if k = 1 then q1 else if k = 2 then q2 else if k = 3 then q3 else if k = 4 then q4 else if k = 5 then q5 else q6) (fun k => if k = 1 then c1 else if k = 2 then c2 else if k = 3 then c3 else if k = 4 then c4 else if k = 5 then c5 else c6) (fun k => if k = 6 then -1 else 0) (fun _ => 0) (fun _ _ => 0)) H locs := ⟨hP, hD, hS⟩
  refine t_X9_init_T eM B w hl (fun H locs ls w => ?_)
  obtain ⟨hP, hD, hS⟩ := w
  exact W.vret hx hb hr (fun t ht hW => ⟨⟨(), rfl, trivial, q1, q2, q3, q4, q5, q6, c1, c2, c3, c4, c5, c6, by rw [ht]; exact hP, va_K.moved hW.alike hK, hD⟩, hS.F ht⟩) hS.2.2 dX9_init_103 hlocks
