def tmS (i : Nat) : Term := .string RX3 (idS.getD i 0)
def flS : List Cond := flatC (Jvm.Cond.and given_1 narrow_1)
set_option maxRecDepth 100000 in
theorem xs_ex : ∀ i, i < 12 → Cond.exactly (tmS i) "java/lang/String" ∈ flS := by decide +kernel
set_option maxRecDepth 100000 in
theorem xs_co : ∀ i, i < 12 → Cond.eq (.field (tmS i) "java/lang/String" "coder" "B") (.int 0) ∈ flS := by decide +kernel
set_option maxRecDepth 100000 in
theorem xs_ar : ∀ i, i < 12 → Cond.arrayOf (.field (tmS i) "java/lang/String" "value" "[B") .byte ∈ flS := by decide +kernel
set_option maxRecDepth 100000 in
theorem xs_le : ∀ i, i < 12 → Cond.eq (.length (.field (tmS i) "java/lang/String" "value" "[B")) (.int (Int32.ofNat (lenS.getD i 0))) ∈ flS := by decide +kernel
set_option maxRecDepth 100000 in
theorem xs_el : ∀ i, i < 12 → ∀ j, j < lenS.getD i 0 → Cond.eq (.elem (.field (tmS i) "java/lang/String" "value" "[B") (.int (Int32.ofNat j))) (.int ((bytS.getD i []).getD j 0)) ∈ flS := by decide +kernel
set_option maxRecDepth 100000 in
theorem xs_ne : ∀ i, i < 12 → ∀ j, j < 12 → i ≠ j → (Cond.not (Cond.eq (tmS i) (tmS j)) ∈ flS ∨ Cond.not (Cond.eq (tmS j) (tmS i)) ∈ flS) := by decide +kernel
set_option maxRecDepth 100000 in
theorem xs_st : ∀ i, i < 12 → Cond.stringRef RX3 (idS.getD i 0) (txS.getD i "") ∈ tables_1 := by decide +kernel
set_option maxRecDepth 100000 in
theorem xs_z1 : Cond.eq (.static "java/lang/String" "COMPACT_STRINGS" "Z") (.int 1) ∈ flS := by decide +kernel
set_option maxRecDepth 100000 in
theorem xs_z2 : Cond.isRef (.static "jdk/internal/util/Preconditions" "SIOOBE_FORMATTER" "Ljava/util/function/BiFunction;") ∈ flS := by decide +kernel
set_option maxRecDepth 100000 in
theorem xs_l1 : Cond.laysStatic "java/lang/String" "COMPACT_STRINGS" "Z" ∈ tables_1 ∧ Cond.initialized "java/lang/String" ∈ tables_1 ∧ Cond.laysStatic "jdk/internal/util/Preconditions" "SIOOBE_FORMATTER" "Ljava/util/function/BiFunction;" ∈ tables_1 ∧ Cond.initialized "jdk/internal/util/Preconditions" ∈ tables_1 := by decide +kernel
theorem xp_start {b : Nat} {s : State} (hgv : (Jvm.Cond.and given_1 narrow_1).before #[Value.ref b] s = true) (hts0 : ∀ w ∈ lw_tbl, w.before #[Value.ref b] s = true) : ∃ ak av, XP ak av (fun q => s.heap.size ≤ q) s s.heap := by
  have hs := flat_of_before _ hgv
  have ht : ∀ w ∈ tables_1, w.before #[Value.ref b] s = true := fun w h => hts0 w (List.mem_append_right _ h)
  have hA : ∀ a : Nat, a < s.heap.size → ¬ (fun q => s.heap.size ≤ q) a := fun a h => Nat.not_le.mpr h
  obtain ⟨ak, av, hS, hE⟩ := vk_Sof (args := #[Value.ref b]) (s := s) (N := 12) (tm := tmS) (len := lenS) (byt := bytS) (A := fun q => s.heap.size ≤ q) (by decide)
    (fun i hi => hs _ (xs_ex i hi)) (fun i hi => hs _ (xs_co i hi)) (fun i hi => hs _ (xs_ar i hi)) (fun i hi => hs _ (xs_le i hi)) (fun i hi j hj => hs _ (xs_el i hi j hj))
    (fun i j hi hj hij => (xs_ne i hi j hj hij).elim (fun h => Or.inl (hs _ h)) (fun h => Or.inr (hs _ h))) hA
  refine ⟨ak, av, hS, fun i hi => vk_R.of (ht _ (xs_st i hi)) (hE i hi), va_Zof (ht _ xs_l1.1) (ht _ xs_l1.2.1) (va_eqi (hs _ xs_z1)) hA, ?_⟩
  rcases va_Zqof (ht _ xs_l1.2.2.1) (ht _ xs_l1.2.2.2) (hs _ xs_z2) hA with h | ⟨t, h⟩
  · exact ⟨.null, rfl, h⟩
  · exact ⟨.ref t, rfl, h⟩
def fiC0 : Nat → Int32 := fun k => ([0, 1, 3, 1, 1, 0, 1, 10, 153, 0, -1, 0, 0, 0, 1, 3, 1, 1, 0, 1, 10, 153, 0, 0, 0, 0, 0, 0, 0, 0, 0, 0, -1, -2] : List Int32).getD k 0
def arC0 : Nat → Nat → Int32 := fun k => if k = 16 then arV 1 else if k = 17 then arV 2 else fun _ => 0
def fiM0 : Nat → Int32 := fun k => if k = 6 then -1 else 0
