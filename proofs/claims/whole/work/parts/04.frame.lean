/-! bundles: the facts of a method's body, of its world; contracts; returns; calls -/
/-- the tables' words that every method is given -/
def wsU : List Cond := lw_tbl.filter goodWord
theorem in_t {w : Cond} (h : w ∈ tables_1) (hg : goodWord w = true) : w ∈ wsU := List.mem_filter.mpr ⟨List.mem_append_right _ h, hg⟩
theorem in_t1 {w : Cond} (h : w ∈ tables_1_1) (hg : goodWord w = true) : w ∈ wsU := in_t (List.mem_append_left _ h) hg
theorem in_t2 {w : Cond} (h : w ∈ tables_1_2) (hg : goodWord w = true) : w ∈ wsU := in_t (List.mem_append_right _ (List.mem_append_left _ h)) hg
theorem in_t3 {w : Cond} (h : w ∈ tables_1_3) (hg : goodWord w = true) : w ∈ wsU := in_t (List.mem_append_right _ (List.mem_append_right _ (List.mem_append_left _ h))) hg
theorem in_t4 {w : Cond} (h : w ∈ tables_1_4) (hg : goodWord w = true) : w ∈ wsU := in_t (List.mem_append_right _ (List.mem_append_right _ (List.mem_append_right _ (List.mem_append_left _ h)))) hg
theorem in_t5 {w : Cond} (h : w ∈ tables_1_5) (hg : goodWord w = true) : w ∈ wsU := in_t (List.mem_append_right _ (List.mem_append_right _ (List.mem_append_right _ (List.mem_append_right _ h)))) hg
theorem in_p1 {q : MethodName × Nat} (h : q ∈ lw_privs_1) (hg : goodWord (Cond.selects q.1.cls q.1 q.1) = true) : Cond.selects q.1.cls q.1 q.1 ∈ wsU := List.mem_filter.mpr ⟨List.mem_append_left _ (List.mem_map.mpr ⟨q, List.mem_append_left _ h, rfl⟩), hg⟩
theorem in_p2 {q : MethodName × Nat} (h : q ∈ lw_privs_2) (hg : goodWord (Cond.selects q.1.cls q.1 q.1) = true) : Cond.selects q.1.cls q.1 q.1 ∈ wsU := List.mem_filter.mpr ⟨List.mem_append_left _ (List.mem_map.mpr ⟨q, List.mem_append_right _ h, rfl⟩), hg⟩
abbrev nestT : List (String × Nat × MethodName × String) := [(RX8, 18, yX3_init, RX8), (RX8, 25, yX1_init, RX8), (RX8, 32, yX7_init, RX8), (RX8, 39, yX0_init, RX8), (RX0, 49, yX8_bit, RX8), (RX1, 18, yX8_wayOf, RX8), (RX1, 50, yX8_namingOf, RX8), (RX1, 53, yX8_bit, RX8), (RX3, 124, yX8_within, RX8), (RX3, 61, yX8_bit, RX8), (RX4, 54, yX8_plainness, RX8), (RX4, 61, yX8_turnedAbout, RX8), (RX5, 20, yX8_within, RX8), (RX5, 30, yX8_bit, RX8), (RX7, 18, yX8_isShare, RX8)]
theorem nest_in : ∀ q ∈ nestT, Cond.methodLinkNest q.1 q.2.1 q.2.2.1 q.2.2.2 ∈ lw_tbl := by decide +kernel
def Nst (U : State) : Prop := ∀ q ∈ nestT, va_Nw (.methodLinkNest q.1 q.2.1 q.2.2.1 q.2.2.2) U
theorem Nst.same {u U : State} (h : u.vm = U.vm) (hN : Nst u) : Nst U := fun q hq => va_Nw.same rfl h (hN q hq)
theorem Nst.warm {s U : State} (hW : s.WarmedH U.vm) (hN : Nst s) : Nst U := fun q hq => va_Nw.warmM hW (hN q hq)
def lenS : List Nat := [4, 5, 4, 3, 4, 3, 6, 3, 3, 4, 3, 4]
def bytS : List (List Int32) := [[99, 111, 115, 116], [119, 111, 114, 116, 104], [104, 97, 110, 100], [101, 121, 101], [102, 97, 100, 101], [119, 97, 121], [110, 97, 109, 105, 110, 103], [110, 101, 119], [110, 111, 116], [104, 101, 108, 112], [98, 97, 100], [103, 111, 111, 100]]
def idS : List Nat := [72, 78, 80, 82, 84, 86, 88, 103, 108, 110, 118, 120]
def txS : List String := ["cost", "worth", "hand", "eye", "fade", "way", "naming", "new", "not", "help", "bad", "good"]
def XP (ak av : Nat → Nat) (A : Nat → Prop) (U : State) (H : Heap) : Prop := vk_S 12 lenS bytS ak av A U H ∧ (∀ i, i < 12 → vk_R RX3 (idS.getD i 0) (txS.getD i "") (ak i) U) ∧ va_Z "java/lang/String" "COMPACT_STRINGS" "Z" (.int 1) A U H ∧ ∃ v : Value, v.category = 1 ∧ va_Z "jdk/internal/util/Preconditions" "SIOOBE_FORMATTER" "Ljava/util/function/BiFunction;" v A U H
def Xs (b : Bool) (ak av : Nat → Nat) (A : Nat → Prop) (U : State) (H : Heap) : Prop := b = true → XP ak av A U H
theorem Xs.pass {b : Bool} {ak av : Nat → Nat} {A B : Nat → Prop} {s U : State} {H : Heap} {locs : List Loc} (hW : s.WarmedH U.vm) (hU : U.heap = H) (hS : va_S A s.heap H locs) (hAB : ∀ q, B q → A q) (h : Xs b ak av A s s.heap) : Xs b ak av B U U.heap := by
  intro hb
  obtain ⟨h1, h2, h3, v, hv, h4⟩ := h hb
  rw [hU]
  exact ⟨((h1.kept hS.2.1).narrow hAB).moved hW.alike, fun i hi => (h2 i hi).warm hW, ((h3.kept hS.2.1).narrow hAB).moved hW.alike, v, hv, ((h4.kept hS.2.1).narrow hAB).moved hW.alike⟩
theorem Xs.calling {b : Bool} {ak av : Nat → Nat} {A : Nat → Prop} {U : State} {g : JFrame} {mk : MethodId} {a : Array Value} (h : Xs b ak av A U U.heap) : Xs b ak av A (U.calling g mk a) (U.calling g mk a).heap := by
  intro hb
  obtain ⟨h1, h2, h3, v, hv, h4⟩ := h hb
  exact ⟨h1.moved (u := U) (U := U.calling g mk a) (Vm.Alike.refl U.vm), fun i hi => (h2 i hi).same rfl, h3.moved (u := U) (U := U.calling g mk a) (Vm.Alike.refl U.vm), v, hv, h4.moved (u := U) (U := U.calling g mk a) (Vm.Alike.refl U.vm)⟩
abbrev VE : Type := va_G × List (ClassId × FieldType) × Bool × (Nat → Nat) × (Nat → Nat)
def Pre (E : VE) (vs : List Value) (w : va_W) (sz : Nat) : Array Value → State → Prop := va_Pc vs (fun U => U.heap.size = sz ∧ va_P E.1 vwCl w U.heap ∧ va_K E.1 vwCl E.2.1 U ∧ va_D (fun _ => True) w ∧ Nst U ∧ Xs E.2.2.1 E.2.2.2.1 E.2.2.2.2 (va_A w sz) U U.heap)
theorem Pre.blind {E : VE} {vs : List Value} {w : va_W} {sz : Nat} : FrameBlind (Pre E vs w sz) := by
  intro a U g mk q
  obtain ⟨q0, q1, q2, q3, q4, q5, q6⟩ := q
  exact ⟨q0, q1, q2, va_K.moved (u := U) (U := U.calling g mk a) (Vm.Alike.refl U.vm) q3, q4, q5.same rfl, q6.calling⟩
def Bd (p : Program) (m : MethodId) (c : Code) (cc : ByteArray) (nL : Nat) (s : State) (args : Array Value) (own : String) (E : VE) (A : Nat → Prop) : Prop :=
  CallFix p m c cc nL s args wsU own ∧ va_K E.1 vwCl E.2.1 s ∧ Nst s ∧ (∀ q, s.heap.size ≤ q → A q) ∧ Xs E.2.2.1 E.2.2.2.1 E.2.2.2.2 A s s.heap
def Wd (E : VE) (A : Nat → Prop) (s : State) (w : va_W) (H : Heap) (locs : List Loc) : Prop := va_P E.1 vwCl w H ∧ va_D A w ∧ va_S A s.heap H locs
def Qi (E : VE) (A : Nat → Prop) (w : va_W) (r : Int32) : Array Value → State → Outcome → State → Prop := va_Qi (fun (r' : Int32) (_ : Unit) => r' = r) (fun _ t => va_P E.1 vwCl w t.heap ∧ va_D A w) A
def Qz (E : VE) (A : Nat → Prop) (w : va_W) (r : Int32) : Array Value → State → Outcome → State → Prop := va_Qi (fun (r' : Int32) (_ : Unit) => r' = r ∧ narrow .boolean (.int r) = .int r) (fun _ t => va_P E.1 vwCl w t.heap ∧ va_D A w) A
def Ql (E : VE) (A : Nat → Prop) (w : va_W) (r : Int64) : Array Value → State → Outcome → State → Prop := va_Ql (fun (r' : Int64) (_ : Unit) => r' = r) (fun _ t => va_P E.1 vwCl w t.heap ∧ va_D A w) A
def Qv (E : VE) (A : Nat → Prop) (w : va_W) : Array Value → State → Outcome → State → Prop := va_Qv (fun (_ : Unit) => True) (fun _ t => va_P E.1 vwCl w t.heap ∧ va_D A w) A

def MtI (l : Launch) (y : MethodName) (cc : ByteArray) (nL : Nat) (rm : Room) (E : VE) (vs : List Value) (w w' : va_W) (r : Int32) : Prop := ∀ sz, Met l y (.code y cc nL (some .int) :: wsU) rm (Pre E vs w sz) (Qi E (va_A w sz) w' r) 0 0 (va_A w sz)
theorem MtI.of {l : Launch} {y : MethodName} {cc : ByteArray} {nL : Nat} {rm : Room} {E : VE} {vs : List Value} {w w' : va_W} {r : Int32} {own : String} (hy : plainFor y = true) (ho : y.cls = own) (hn : (lg_sl vs).length ≤ nL)
    (body : ∀ (p : Program) (e : Env) (s : State) (m : MethodId) (args : Array Value) (below : List Frame) (meth : Method) (c : Code) (A : Nat → Prop), Bd p m c cc nL s args own E A → meth.sig.returnType = (some .int) → meth.locks = false → Wd E A s w s.heap [] → ∀ ls : Array Slot, lv_has ls nL (lv_args 0 vs) → W p l e rm s m args below meth c s.heap [] 0 0 (MQ below (Qi E A w' r) args s 0 0 A) (F0 m 0 ls [])) : MtI l y cc nL rm E vs w w' r := by
  intro sz
  refine va_MetF (cc := cc) (maxL := nL) (ret := (some .int)) hy rfl ?_
  intro p e s m args below meth c s₁ B hml hv
  obtain ⟨rfl, hsz, hP, hK, hD0, hN, hX⟩ := hv
  subst hsz
  have hts := atoms_spec B.pre
  have hb : Bd p m c cc nL s vs.toArray own E (va_A w s.heap.size) := ⟨⟨B.exec, B.bytes, hml, ho ▸ findClass_of_methodNamed B.named, fun w hw => hts w (List.mem_cons_of_mem _ hw)⟩, hK, hN, fun q h => Or.inr h, hX⟩
  have hl := lv_entry vs (n := nL) hn
  rw [lg_entry_eq]
  exact body p e s m _ below meth c _ hb B.returns B.notSynchronized ⟨hP, hD0.self, va_S.rf⟩ _ hl
def MtZ (l : Launch) (y : MethodName) (cc : ByteArray) (nL : Nat) (rm : Room) (E : VE) (vs : List Value) (w w' : va_W) (r : Int32) : Prop := ∀ sz, Met l y (.code y cc nL (some .boolean) :: wsU) rm (Pre E vs w sz) (Qz E (va_A w sz) w' r) 0 0 (va_A w sz)
theorem MtZ.of {l : Launch} {y : MethodName} {cc : ByteArray} {nL : Nat} {rm : Room} {E : VE} {vs : List Value} {w w' : va_W} {r : Int32} {own : String} (hy : plainFor y = true) (ho : y.cls = own) (hn : (lg_sl vs).length ≤ nL)
    (body : ∀ (p : Program) (e : Env) (s : State) (m : MethodId) (args : Array Value) (below : List Frame) (meth : Method) (c : Code) (A : Nat → Prop), Bd p m c cc nL s args own E A → meth.sig.returnType = (some .boolean) → meth.locks = false → Wd E A s w s.heap [] → ∀ ls : Array Slot, lv_has ls nL (lv_args 0 vs) → W p l e rm s m args below meth c s.heap [] 0 0 (MQ below (Qz E A w' r) args s 0 0 A) (F0 m 0 ls [])) : MtZ l y cc nL rm E vs w w' r := by
  intro sz
  refine va_MetF (cc := cc) (maxL := nL) (ret := (some .boolean)) hy rfl ?_
  intro p e s m args below meth c s₁ B hml hv
  obtain ⟨rfl, hsz, hP, hK, hD0, hN, hX⟩ := hv
  subst hsz
  have hts := atoms_spec B.pre
  have hb : Bd p m c cc nL s vs.toArray own E (va_A w s.heap.size) := ⟨⟨B.exec, B.bytes, hml, ho ▸ findClass_of_methodNamed B.named, fun w hw => hts w (List.mem_cons_of_mem _ hw)⟩, hK, hN, fun q h => Or.inr h, hX⟩
  have hl := lv_entry vs (n := nL) hn
  rw [lg_entry_eq]
  exact body p e s m _ below meth c _ hb B.returns B.notSynchronized ⟨hP, hD0.self, va_S.rf⟩ _ hl
def MtL (l : Launch) (y : MethodName) (cc : ByteArray) (nL : Nat) (rm : Room) (E : VE) (vs : List Value) (w w' : va_W) (r : Int64) : Prop := ∀ sz, Met l y (.code y cc nL (some .long) :: wsU) rm (Pre E vs w sz) (Ql E (va_A w sz) w' r) 0 0 (va_A w sz)
theorem MtL.of {l : Launch} {y : MethodName} {cc : ByteArray} {nL : Nat} {rm : Room} {E : VE} {vs : List Value} {w w' : va_W} {r : Int64} {own : String} (hy : plainFor y = true) (ho : y.cls = own) (hn : (lg_sl vs).length ≤ nL)
    (body : ∀ (p : Program) (e : Env) (s : State) (m : MethodId) (args : Array Value) (below : List Frame) (meth : Method) (c : Code) (A : Nat → Prop), Bd p m c cc nL s args own E A → meth.sig.returnType = (some .long) → meth.locks = false → Wd E A s w s.heap [] → ∀ ls : Array Slot, lv_has ls nL (lv_args 0 vs) → W p l e rm s m args below meth c s.heap [] 0 0 (MQ below (Ql E A w' r) args s 0 0 A) (F0 m 0 ls [])) : MtL l y cc nL rm E vs w w' r := by
  intro sz
  refine va_MetF (cc := cc) (maxL := nL) (ret := (some .long)) hy rfl ?_
  intro p e s m args below meth c s₁ B hml hv
  obtain ⟨rfl, hsz, hP, hK, hD0, hN, hX⟩ := hv
  subst hsz
  have hts := atoms_spec B.pre
  have hb : Bd p m c cc nL s vs.toArray own E (va_A w s.heap.size) := ⟨⟨B.exec, B.bytes, hml, ho ▸ findClass_of_methodNamed B.named, fun w hw => hts w (List.mem_cons_of_mem _ hw)⟩, hK, hN, fun q h => Or.inr h, hX⟩
  have hl := lv_entry vs (n := nL) hn
  rw [lg_entry_eq]
  exact body p e s m _ below meth c _ hb B.returns B.notSynchronized ⟨hP, hD0.self, va_S.rf⟩ _ hl
def MtV (l : Launch) (y : MethodName) (cc : ByteArray) (nL : Nat) (rm : Room) (E : VE) (vs : List Value) (w w' : va_W) : Prop := ∀ sz, Met l y (.code y cc nL none :: wsU) rm (Pre E vs w sz) (Qv E (va_A w sz) w') 0 0 (va_A w sz)
theorem MtV.of {l : Launch} {y : MethodName} {cc : ByteArray} {nL : Nat} {rm : Room} {E : VE} {vs : List Value} {w w' : va_W} {own : String} (hy : plainFor y = true) (ho : y.cls = own) (hn : (lg_sl vs).length ≤ nL)
    (body : ∀ (p : Program) (e : Env) (s : State) (m : MethodId) (args : Array Value) (below : List Frame) (meth : Method) (c : Code) (A : Nat → Prop), Bd p m c cc nL s args own E A → meth.sig.returnType = none → meth.locks = false → Wd E A s w s.heap [] → ∀ ls : Array Slot, lv_has ls nL (lv_args 0 vs) → W p l e rm s m args below meth c s.heap [] 0 0 (MQ below (Qv E A w') args s 0 0 A) (F0 m 0 ls [])) : MtV l y cc nL rm E vs w w' := by
  intro sz
  refine va_MetF (cc := cc) (maxL := nL) (ret := none) hy rfl ?_
  intro p e s m args below meth c s₁ B hml hv
  obtain ⟨rfl, hsz, hP, hK, hD0, hN, hX⟩ := hv
  subst hsz
  have hts := atoms_spec B.pre
  have hb : Bd p m c cc nL s vs.toArray own E (va_A w s.heap.size) := ⟨⟨B.exec, B.bytes, hml, ho ▸ findClass_of_methodNamed B.named, fun w hw => hts w (List.mem_cons_of_mem _ hw)⟩, hK, hN, fun q h => Or.inr h, hX⟩
  have hl := lv_entry vs (n := nL) hn
  rw [lg_entry_eq]
  exact body p e s m _ below meth c _ hb B.returns B.notSynchronized ⟨hP, hD0.self, va_S.rf⟩ _ hl
section FRM
variable {p : Program} {l : Launch} {e : Env} {R : Room} {s : State} {m : MethodId} {args : Array Value} {below : List Frame} {meth : Method} {c : Code} {H : Heap} {locs : List Loc} {Q : State → Prop} {cells slots : Nat}
variable {cc : ByteArray} {nL pc : Nat} {ls : Array Slot} {rest st : List Value} {own : String} {E : VE} {A : Nat → Prop} {w0 w1 : va_W}
theorem retI {v : Int32} (B : Bd p m c cc nL s args own E A) (hr : meth.sig.returnType = some .int) (hk : meth.locks = false) (w : Wd E A s w0 H locs) (hdg : decode cc pc = .ok (.ireturn, 1)) : W p l e R s m args below meth c H locs cells slots (MQ below (Qi E A w0 v) args s cells slots A) (F0 m pc ls [.int v]) :=
  W.iret B.1.1 B.1.2.1 hr (fun t ht hW => ⟨⟨v, (), rfl, rfl, by rw [ht]; exact w.1, w.2.1⟩, w.2.2.F ht⟩) w.2.2.2.2 hdg hk
theorem retZ {v : Int32} (B : Bd p m c cc nL s args own E A) (hr : meth.sig.returnType = some .boolean) (hk : meth.locks = false) (w : Wd E A s w0 H locs) (hz : narrow .boolean (.int v) = .int v) (hdg : decode cc pc = .ok (.ireturn, 1)) : W p l e R s m args below meth c H locs cells slots (MQ below (Qz E A w0 v) args s cells slots A) (F0 m pc ls [.int v]) :=
  W.zret B.1.1 B.1.2.1 hr hz (fun t ht hW => ⟨⟨v, (), rfl, ⟨rfl, hz⟩, by rw [ht]; exact w.1, w.2.1⟩, w.2.2.F ht⟩) w.2.2.2.2 hdg hk
theorem retL {v : Int64} (B : Bd p m c cc nL s args own E A) (hr : meth.sig.returnType = some .long) (hk : meth.locks = false) (w : Wd E A s w0 H locs) (hdg : decode cc pc = .ok (.lreturn, 1)) : W p l e R s m args below meth c H locs cells slots (MQ below (Ql E A w0 v) args s cells slots A) (F0 m pc ls [.long v]) :=
  W.lret B.1.1 B.1.2.1 hr (fun t ht hW => ⟨⟨v, (), rfl, rfl, by rw [ht]; exact w.1, w.2.1⟩, w.2.2.F ht⟩) w.2.2.2.2 hdg hk
theorem retV (B : Bd p m c cc nL s args own E A) (hr : meth.sig.returnType = none) (hk : meth.locks = false) (w : Wd E A s w0 H locs) (hdg : decode cc pc = .ok (.return_, 1)) : W p l e R s m args below meth c H locs cells slots (MQ below (Qv E A w0) args s cells slots A) (F0 m pc ls []) :=
  W.vret B.1.1 B.1.2.1 hr (fun t ht hW => ⟨⟨(), rfl, trivial, by rw [ht]; exact w.1, w.2.1⟩, w.2.2.F ht⟩) w.2.2.2.2 hdg hk
theorem Wd.free (B : Bd p m c cc nL s args own E A) (w : Wd E A s w0 H locs) : ∀ q, va_A w0 H.size q → A q := by
  rintro q (⟨k, e, h⟩ | h)
  · exact w.2.1.2 k (q, e) h
  · exact B.2.2.2.1 q (Nat.le_trans w.2.2.1 h)
theorem Wd.free0 (B : Bd p m c cc nL s args own E A) (w : Wd E A s w0 H locs) : ∀ q, va_A [] H.size q → A q := by
  rintro q (⟨k, e, h⟩ | h)
  · simp at h
  · exact B.2.2.2.1 q (Nat.le_trans w.2.2.1 h)
theorem Wd.keep0 {H1 : Heap} {locs1 : List Loc} (w : Wd E A s w0 H locs) (hk : ∀ q : Nat, q < H.size → ¬ va_A [] H.size q → H1[q]? = H[q]?) (hS : va_S A s.heap H1 locs1) : Wd E A s w0 H1 locs1 := by
  refine ⟨w.1.kept (fun k q hq => ?_), w.2.1, hS⟩
  have hlt := (w.1 k q hq).lt
  refine hk q.1 hlt ?_
  rintro (⟨k, e, h⟩ | h)
  · simp at h
  · omega
theorem preV0 (B : Bd p m c cc nL s args own E A) (w : Wd E A s w0 H locs) (vs : List Value) : ∀ U : State, U.heap = H → s.WarmedH U.vm → Pre E vs w0 H.size vs.toArray U := fun U hU hW =>
  ⟨rfl, by rw [hU], by rw [hU]; exact w.1, va_K.moved hW.alike B.2.1, w.2.1.weaken (fun _ _ _ _ => trivial), B.2.2.1.warm hW, Xs.pass hW hU w.2.2 (Wd.free B w) B.2.2.2.2⟩
theorem preS0 (B : Bd p m c cc nL s args own E A) (w : Wd E A s w0 H locs) (vs : List Value) : ∀ U : State, U.heap = H → s.WarmedH U.vm → Pre E vs [] H.size vs.toArray U := fun U hU hW =>
  ⟨rfl, by rw [hU], fun k q h => by simp at h, va_K.moved hW.alike B.2.1, ⟨fun i j p q h => by simp at h, fun k q h => by simp at h⟩, B.2.2.1.warm hW, Xs.pass hW hU w.2.2 (Wd.free0 B w) B.2.2.2.2⟩
theorem callVI {y : MethodName} {cc' : ByteArray} {nL' idx n ci a N : Nat} {C : String} {T : u_T} {rm' : Room} {As : List Value} {r : Int32} (B : Bd p m c cc nL s args own E A) (w : Wd E A s w0 H locs) (hM : MtI l y cc' nL' rm' E (.ref a :: As) w0 w1 r) (hG : GoodIn wsU (wsV own idx C y (.code y cc' nL' (some .int) :: wsU)))
    (hd : y.cls = C ∧ y.cls ≠ "java/lang/invoke/MethodHandle" ∧ y.cls ≠ "java/lang/invoke/VarHandle" ∧ (parseMethodDescriptor y.desc).map (fun d => d.parameters.length) = some n) (k : Nat) {fs : List Value} (hk : w0[k]? = some (a, .inr (ci, fs))) (hc : vwCl[ci]? = some (C, T, N)) (hrc : rm'.cells = 0) (hrs : rm'.slots = 0)
    (hR : rm'.frames + 1 ≤ R.frames ∧ 8 + (nL' + 11) + rm'.locals ≤ R.locals) (hn : As.length = n) (hls : ls.size = nL) (hst : st = As.reverse ++ .ref a :: rest) (hrm : (rest.map fun v => v.category).sum ≤ 8) (hdg : decode cc pc = .ok (.invokevirtual idx, 3))
    (hcs : cells ≤ R.cells ∧ slots ≤ R.slots) (kk : ∀ (H1 : Heap) (locs1 : List Loc), Wd E A s w1 H1 locs1 → W p l e R s m args below meth c H1 locs1 cells slots Q (F0 m (pc + 3) ls (.int r :: rest))) : W p l e R s m args below meth c H locs cells slots Q (F0 m pc ls st) := by
  subst hst
  have hFc := Wd.free B w
  refine va_calli (va_runV (As := As) (rest := rest) B.1 (hM H.size) (cwV n B.1.2.2.2.2 hG rfl hrc hrs hd hR) ⟨Pre.blind, va_recv B.2.1 w.1 hc hk, preV0 B w _⟩ rfl hn hls rfl (lv_room hrm) hdg hcs) w.2.2 (fun q _ h => hFc q h) hFc (fun r' u t H1 locs1 ht hvm hw hB hz1 hk1 hS => ?_)
  subst hw
  obtain ⟨hP1, hD1⟩ := hB
  rw [ht] at hP1
  exact kk H1 locs1 ⟨hP1, hD1.weaken (fun _ q _ h => hFc q.1 h), hS⟩
theorem callSI {y : MethodName} {cc' : ByteArray} {nL' idx n : Nat} {rm' : Room} {As : List Value} {r : Int32} (B : Bd p m c cc nL s args own E A) (w : Wd E A s w0 H locs) (hM : MtI l y cc' nL' rm' E As [] [] r) (hG : GoodIn wsU (va_wsS own idx y (.code y cc' nL' (some .int) :: wsU)))
    (hd : y.cls ≠ "java/lang/invoke/MethodHandle" ∧ y.cls ≠ "java/lang/invoke/VarHandle" ∧ (parseMethodDescriptor y.desc).map (fun d => d.parameters.length) = some n) (hrc : rm'.cells = 0) (hrs : rm'.slots = 0)
    (hR : rm'.frames + 1 ≤ R.frames ∧ 8 + (nL' + 11) + rm'.locals ≤ R.locals) (hn : As.length = n) (hls : ls.size = nL) (hst : st = As.reverse ++ rest) (hrm : (rest.map fun v => v.category).sum ≤ 8) (hdg : decode cc pc = .ok (.invokestatic idx, 3))
    (hcs : cells ≤ R.cells ∧ slots ≤ R.slots) (kk : ∀ (H1 : Heap) (locs1 : List Loc), Wd E A s w0 H1 locs1 → W p l e R s m args below meth c H1 locs1 cells slots Q (F0 m (pc + 3) ls (.int r :: rest))) : W p l e R s m args below meth c H locs cells slots Q (F0 m pc ls st) := by
  subst hst
  have hFc := Wd.free0 B w
  refine va_calli (va_runS (As := As) (rest := rest) B.1 (hM H.size) (va_cwS n B.1.2.2.2.2 hG rfl hrc hrs hd hR) ⟨Pre.blind, preS0 B w _⟩ rfl hn hls rfl (lv_room hrm) hdg hcs) w.2.2 (fun q _ h => hFc q h) hFc (fun r' u t H1 locs1 ht hvm hw hB hz1 hk1 hS => ?_)
  subst hw
  exact kk H1 locs1 (w.keep0 hk1 hS)
theorem callNI {y : MethodName} {cc' : ByteArray} {nL' idx n : Nat} {rm' : Room} {As : List Value} {r : Int32} (B : Bd p m c cc nL s args own E A) (w : Wd E A s w0 H locs) (hM : MtI l y cc' nL' rm' E As [] [] r) (hG : GoodIn wsU (.code y cc' nL' (some .int) :: wsU)) (hN : (own, idx, y, RX8) ∈ nestT) (hini : Cond.initialized y.cls ∈ wsU) (hstt : Cond.static y ∈ wsU)
    (hd : y.cls ≠ "java/lang/invoke/MethodHandle" ∧ y.cls ≠ "java/lang/invoke/VarHandle" ∧ (parseMethodDescriptor y.desc).map (fun d => d.parameters.length) = some n) (hrc : rm'.cells = 0) (hrs : rm'.slots = 0)
    (hR : rm'.frames + 1 ≤ R.frames ∧ 8 + (nL' + 11) + rm'.locals ≤ R.locals) (hn : As.length = n) (hls : ls.size = nL) (hst : st = As.reverse ++ rest) (hrm : (rest.map fun v => v.category).sum ≤ 8) (hdg : decode cc pc = .ok (.invokestatic idx, 3))
    (hcs : cells ≤ R.cells ∧ slots ≤ R.slots) (kk : ∀ (H1 : Heap) (locs1 : List Loc), Wd E A s w0 H1 locs1 → W p l e R s m args below meth c H1 locs1 cells slots Q (F0 m (pc + 3) ls (.int r :: rest))) : W p l e R s m args below meth c H locs cells slots Q (F0 m pc ls st) := by
  subst hst
  have hFc := Wd.free0 B w
  refine va_calli (va_runSN (As := As) (rest := rest) B.1 (hM H.size) ⟨va_cnB n B.1.2.2.2.2 hG rfl hrc hrs (B.2.2.1 _ hN) (B.1.2.2.2.2 _ hini) hd hR, B.1.2.2.2.2 _ hstt, trivial⟩ ⟨Pre.blind, preS0 B w _⟩ rfl hn hls rfl (lv_room hrm) hdg hcs) w.2.2 (fun q _ h => hFc q h) hFc (fun r' u t H1 locs1 ht hvm hw hB hz1 hk1 hS => ?_)
  subst hw
  exact kk H1 locs1 (w.keep0 hk1 hS)
theorem callVZ {y : MethodName} {cc' : ByteArray} {nL' idx n ci a N : Nat} {C : String} {T : u_T} {rm' : Room} {As : List Value} {r : Int32} (B : Bd p m c cc nL s args own E A) (w : Wd E A s w0 H locs) (hM : MtZ l y cc' nL' rm' E (.ref a :: As) w0 w1 r) (hG : GoodIn wsU (wsV own idx C y (.code y cc' nL' (some .boolean) :: wsU)))
    (hd : y.cls = C ∧ y.cls ≠ "java/lang/invoke/MethodHandle" ∧ y.cls ≠ "java/lang/invoke/VarHandle" ∧ (parseMethodDescriptor y.desc).map (fun d => d.parameters.length) = some n) (k : Nat) {fs : List Value} (hk : w0[k]? = some (a, .inr (ci, fs))) (hc : vwCl[ci]? = some (C, T, N)) (hrc : rm'.cells = 0) (hrs : rm'.slots = 0)
    (hR : rm'.frames + 1 ≤ R.frames ∧ 8 + (nL' + 11) + rm'.locals ≤ R.locals) (hn : As.length = n) (hls : ls.size = nL) (hst : st = As.reverse ++ .ref a :: rest) (hrm : (rest.map fun v => v.category).sum ≤ 8) (hdg : decode cc pc = .ok (.invokevirtual idx, 3))
    (hcs : cells ≤ R.cells ∧ slots ≤ R.slots) (kk : ∀ (H1 : Heap) (locs1 : List Loc), Wd E A s w1 H1 locs1 → narrow .boolean (.int r) = .int r → W p l e R s m args below meth c H1 locs1 cells slots Q (F0 m (pc + 3) ls (.int r :: rest))) : W p l e R s m args below meth c H locs cells slots Q (F0 m pc ls st) := by
  subst hst
  have hFc := Wd.free B w
  refine va_calli (va_runV (As := As) (rest := rest) B.1 (hM H.size) (cwV n B.1.2.2.2.2 hG rfl hrc hrs hd hR) ⟨Pre.blind, va_recv B.2.1 w.1 hc hk, preV0 B w _⟩ rfl hn hls rfl (lv_room hrm) hdg hcs) w.2.2 (fun q _ h => hFc q h) hFc (fun r' u t H1 locs1 ht hvm hw hB hz1 hk1 hS => ?_)
  obtain ⟨rfl, hz⟩ := hw
  obtain ⟨hP1, hD1⟩ := hB
  rw [ht] at hP1
  exact kk H1 locs1 ⟨hP1, hD1.weaken (fun _ q _ h => hFc q.1 h), hS⟩ hz
theorem callSZ {y : MethodName} {cc' : ByteArray} {nL' idx n : Nat} {rm' : Room} {As : List Value} {r : Int32} (B : Bd p m c cc nL s args own E A) (w : Wd E A s w0 H locs) (hM : MtZ l y cc' nL' rm' E As [] [] r) (hG : GoodIn wsU (va_wsS own idx y (.code y cc' nL' (some .boolean) :: wsU)))
    (hd : y.cls ≠ "java/lang/invoke/MethodHandle" ∧ y.cls ≠ "java/lang/invoke/VarHandle" ∧ (parseMethodDescriptor y.desc).map (fun d => d.parameters.length) = some n) (hrc : rm'.cells = 0) (hrs : rm'.slots = 0)
    (hR : rm'.frames + 1 ≤ R.frames ∧ 8 + (nL' + 11) + rm'.locals ≤ R.locals) (hn : As.length = n) (hls : ls.size = nL) (hst : st = As.reverse ++ rest) (hrm : (rest.map fun v => v.category).sum ≤ 8) (hdg : decode cc pc = .ok (.invokestatic idx, 3))
    (hcs : cells ≤ R.cells ∧ slots ≤ R.slots) (kk : ∀ (H1 : Heap) (locs1 : List Loc), Wd E A s w0 H1 locs1 → narrow .boolean (.int r) = .int r → W p l e R s m args below meth c H1 locs1 cells slots Q (F0 m (pc + 3) ls (.int r :: rest))) : W p l e R s m args below meth c H locs cells slots Q (F0 m pc ls st) := by
  subst hst
  have hFc := Wd.free0 B w
  refine va_calli (va_runS (As := As) (rest := rest) B.1 (hM H.size) (va_cwS n B.1.2.2.2.2 hG rfl hrc hrs hd hR) ⟨Pre.blind, preS0 B w _⟩ rfl hn hls rfl (lv_room hrm) hdg hcs) w.2.2 (fun q _ h => hFc q h) hFc (fun r' u t H1 locs1 ht hvm hw hB hz1 hk1 hS => ?_)
  obtain ⟨rfl, hz⟩ := hw
  exact kk H1 locs1 (w.keep0 hk1 hS) hz
theorem callNZ {y : MethodName} {cc' : ByteArray} {nL' idx n : Nat} {rm' : Room} {As : List Value} {r : Int32} (B : Bd p m c cc nL s args own E A) (w : Wd E A s w0 H locs) (hM : MtZ l y cc' nL' rm' E As [] [] r) (hG : GoodIn wsU (.code y cc' nL' (some .boolean) :: wsU)) (hN : (own, idx, y, RX8) ∈ nestT) (hini : Cond.initialized y.cls ∈ wsU) (hstt : Cond.static y ∈ wsU)
    (hd : y.cls ≠ "java/lang/invoke/MethodHandle" ∧ y.cls ≠ "java/lang/invoke/VarHandle" ∧ (parseMethodDescriptor y.desc).map (fun d => d.parameters.length) = some n) (hrc : rm'.cells = 0) (hrs : rm'.slots = 0)
    (hR : rm'.frames + 1 ≤ R.frames ∧ 8 + (nL' + 11) + rm'.locals ≤ R.locals) (hn : As.length = n) (hls : ls.size = nL) (hst : st = As.reverse ++ rest) (hrm : (rest.map fun v => v.category).sum ≤ 8) (hdg : decode cc pc = .ok (.invokestatic idx, 3))
    (hcs : cells ≤ R.cells ∧ slots ≤ R.slots) (kk : ∀ (H1 : Heap) (locs1 : List Loc), Wd E A s w0 H1 locs1 → narrow .boolean (.int r) = .int r → W p l e R s m args below meth c H1 locs1 cells slots Q (F0 m (pc + 3) ls (.int r :: rest))) : W p l e R s m args below meth c H locs cells slots Q (F0 m pc ls st) := by
  subst hst
  have hFc := Wd.free0 B w
  refine va_calli (va_runSN (As := As) (rest := rest) B.1 (hM H.size) ⟨va_cnB n B.1.2.2.2.2 hG rfl hrc hrs (B.2.2.1 _ hN) (B.1.2.2.2.2 _ hini) hd hR, B.1.2.2.2.2 _ hstt, trivial⟩ ⟨Pre.blind, preS0 B w _⟩ rfl hn hls rfl (lv_room hrm) hdg hcs) w.2.2 (fun q _ h => hFc q h) hFc (fun r' u t H1 locs1 ht hvm hw hB hz1 hk1 hS => ?_)
  obtain ⟨rfl, hz⟩ := hw
  exact kk H1 locs1 (w.keep0 hk1 hS) hz
theorem callVL {y : MethodName} {cc' : ByteArray} {nL' idx n ci a N : Nat} {C : String} {T : u_T} {rm' : Room} {As : List Value} {r : Int64} (B : Bd p m c cc nL s args own E A) (w : Wd E A s w0 H locs) (hM : MtL l y cc' nL' rm' E (.ref a :: As) w0 w1 r) (hG : GoodIn wsU (wsV own idx C y (.code y cc' nL' (some .long) :: wsU)))
    (hd : y.cls = C ∧ y.cls ≠ "java/lang/invoke/MethodHandle" ∧ y.cls ≠ "java/lang/invoke/VarHandle" ∧ (parseMethodDescriptor y.desc).map (fun d => d.parameters.length) = some n) (k : Nat) {fs : List Value} (hk : w0[k]? = some (a, .inr (ci, fs))) (hc : vwCl[ci]? = some (C, T, N)) (hrc : rm'.cells = 0) (hrs : rm'.slots = 0)
    (hR : rm'.frames + 1 ≤ R.frames ∧ 8 + (nL' + 11) + rm'.locals ≤ R.locals) (hn : As.length = n) (hls : ls.size = nL) (hst : st = As.reverse ++ .ref a :: rest) (hrm : (rest.map fun v => v.category).sum ≤ 8) (hdg : decode cc pc = .ok (.invokevirtual idx, 3))
    (hcs : cells ≤ R.cells ∧ slots ≤ R.slots) (kk : ∀ (H1 : Heap) (locs1 : List Loc), Wd E A s w1 H1 locs1 → W p l e R s m args below meth c H1 locs1 cells slots Q (F0 m (pc + 3) ls (.long r :: rest))) : W p l e R s m args below meth c H locs cells slots Q (F0 m pc ls st) := by
  subst hst
  have hFc := Wd.free B w
  refine va_calll (va_runV (As := As) (rest := rest) B.1 (hM H.size) (cwV n B.1.2.2.2.2 hG rfl hrc hrs hd hR) ⟨Pre.blind, va_recv B.2.1 w.1 hc hk, preV0 B w _⟩ rfl hn hls rfl (lv_room hrm) hdg hcs) w.2.2 (fun q _ h => hFc q h) hFc (fun r' u t H1 locs1 ht hvm hw hB hz1 hk1 hS => ?_)
  subst hw
  obtain ⟨hP1, hD1⟩ := hB
  rw [ht] at hP1
  exact kk H1 locs1 ⟨hP1, hD1.weaken (fun _ q _ h => hFc q.1 h), hS⟩
theorem callSL {y : MethodName} {cc' : ByteArray} {nL' idx n : Nat} {rm' : Room} {As : List Value} {r : Int64} (B : Bd p m c cc nL s args own E A) (w : Wd E A s w0 H locs) (hM : MtL l y cc' nL' rm' E As [] [] r) (hG : GoodIn wsU (va_wsS own idx y (.code y cc' nL' (some .long) :: wsU)))
    (hd : y.cls ≠ "java/lang/invoke/MethodHandle" ∧ y.cls ≠ "java/lang/invoke/VarHandle" ∧ (parseMethodDescriptor y.desc).map (fun d => d.parameters.length) = some n) (hrc : rm'.cells = 0) (hrs : rm'.slots = 0)
    (hR : rm'.frames + 1 ≤ R.frames ∧ 8 + (nL' + 11) + rm'.locals ≤ R.locals) (hn : As.length = n) (hls : ls.size = nL) (hst : st = As.reverse ++ rest) (hrm : (rest.map fun v => v.category).sum ≤ 8) (hdg : decode cc pc = .ok (.invokestatic idx, 3))
    (hcs : cells ≤ R.cells ∧ slots ≤ R.slots) (kk : ∀ (H1 : Heap) (locs1 : List Loc), Wd E A s w0 H1 locs1 → W p l e R s m args below meth c H1 locs1 cells slots Q (F0 m (pc + 3) ls (.long r :: rest))) : W p l e R s m args below meth c H locs cells slots Q (F0 m pc ls st) := by
  subst hst
  have hFc := Wd.free0 B w
  refine va_calll (va_runS (As := As) (rest := rest) B.1 (hM H.size) (va_cwS n B.1.2.2.2.2 hG rfl hrc hrs hd hR) ⟨Pre.blind, preS0 B w _⟩ rfl hn hls rfl (lv_room hrm) hdg hcs) w.2.2 (fun q _ h => hFc q h) hFc (fun r' u t H1 locs1 ht hvm hw hB hz1 hk1 hS => ?_)
  subst hw
  exact kk H1 locs1 (w.keep0 hk1 hS)
theorem callNL {y : MethodName} {cc' : ByteArray} {nL' idx n : Nat} {rm' : Room} {As : List Value} {r : Int64} (B : Bd p m c cc nL s args own E A) (w : Wd E A s w0 H locs) (hM : MtL l y cc' nL' rm' E As [] [] r) (hG : GoodIn wsU (.code y cc' nL' (some .long) :: wsU)) (hN : (own, idx, y, RX8) ∈ nestT) (hini : Cond.initialized y.cls ∈ wsU) (hstt : Cond.static y ∈ wsU)
    (hd : y.cls ≠ "java/lang/invoke/MethodHandle" ∧ y.cls ≠ "java/lang/invoke/VarHandle" ∧ (parseMethodDescriptor y.desc).map (fun d => d.parameters.length) = some n) (hrc : rm'.cells = 0) (hrs : rm'.slots = 0)
    (hR : rm'.frames + 1 ≤ R.frames ∧ 8 + (nL' + 11) + rm'.locals ≤ R.locals) (hn : As.length = n) (hls : ls.size = nL) (hst : st = As.reverse ++ rest) (hrm : (rest.map fun v => v.category).sum ≤ 8) (hdg : decode cc pc = .ok (.invokestatic idx, 3))
    (hcs : cells ≤ R.cells ∧ slots ≤ R.slots) (kk : ∀ (H1 : Heap) (locs1 : List Loc), Wd E A s w0 H1 locs1 → W p l e R s m args below meth c H1 locs1 cells slots Q (F0 m (pc + 3) ls (.long r :: rest))) : W p l e R s m args below meth c H locs cells slots Q (F0 m pc ls st) := by
  subst hst
  have hFc := Wd.free0 B w
  refine va_calll (va_runSN (As := As) (rest := rest) B.1 (hM H.size) ⟨va_cnB n B.1.2.2.2.2 hG rfl hrc hrs (B.2.2.1 _ hN) (B.1.2.2.2.2 _ hini) hd hR, B.1.2.2.2.2 _ hstt, trivial⟩ ⟨Pre.blind, preS0 B w _⟩ rfl hn hls rfl (lv_room hrm) hdg hcs) w.2.2 (fun q _ h => hFc q h) hFc (fun r' u t H1 locs1 ht hvm hw hB hz1 hk1 hS => ?_)
  subst hw
  exact kk H1 locs1 (w.keep0 hk1 hS)
theorem callVV {y : MethodName} {cc' : ByteArray} {nL' idx n ci a N : Nat} {C : String} {T : u_T} {rm' : Room} {As : List Value} (B : Bd p m c cc nL s args own E A) (w : Wd E A s w0 H locs) (hM : MtV l y cc' nL' rm' E (.ref a :: As) w0 w1) (hG : GoodIn wsU (wsV own idx C y (.code y cc' nL' none :: wsU)))
    (hd : y.cls = C ∧ y.cls ≠ "java/lang/invoke/MethodHandle" ∧ y.cls ≠ "java/lang/invoke/VarHandle" ∧ (parseMethodDescriptor y.desc).map (fun d => d.parameters.length) = some n) (k : Nat) {fs : List Value} (hk : w0[k]? = some (a, .inr (ci, fs))) (hc : vwCl[ci]? = some (C, T, N)) (hrc : rm'.cells = 0) (hrs : rm'.slots = 0)
    (hR : rm'.frames + 1 ≤ R.frames ∧ 8 + (nL' + 11) + rm'.locals ≤ R.locals) (hn : As.length = n) (hls : ls.size = nL) (hst : st = As.reverse ++ .ref a :: rest) (hrm : (rest.map fun v => v.category).sum ≤ 8) (hdg : decode cc pc = .ok (.invokevirtual idx, 3))
    (hcs : cells ≤ R.cells ∧ slots ≤ R.slots) (kk : ∀ (H1 : Heap) (locs1 : List Loc), Wd E A s w1 H1 locs1 → W p l e R s m args below meth c H1 locs1 cells slots Q (F0 m (pc + 3) ls rest)) : W p l e R s m args below meth c H locs cells slots Q (F0 m pc ls st) := by
  subst hst
  have hFc := Wd.free B w
  refine va_callv (va_runV (As := As) (rest := rest) B.1 (hM H.size) (cwV n B.1.2.2.2.2 hG rfl hrc hrs hd hR) ⟨Pre.blind, va_recv B.2.1 w.1 hc hk, preV0 B w _⟩ rfl hn hls rfl (lv_room hrm) hdg hcs) w.2.2 (fun q _ h => hFc q h) hFc (fun u t H1 locs1 ht hvm hw hB hz1 hk1 hS => ?_)
  obtain ⟨hP1, hD1⟩ := hB
  rw [ht] at hP1
  exact kk H1 locs1 ⟨hP1, hD1.weaken (fun _ q _ h => hFc q.1 h), hS⟩
theorem callFL {y : MethodName} {cc' : ByteArray} {nL' idx n : Nat} {rm' : Room} {As : List Value} {r : Int64} (B : Bd p m c cc nL s args own E A) (w : Wd E A s w0 H locs) (hM : MtL l y cc' nL' rm' E As w0 w0 r) (hG : GoodIn wsU (va_wsS own idx y (.code y cc' nL' (some .long) :: wsU)))
    (hd : y.cls ≠ "java/lang/invoke/MethodHandle" ∧ y.cls ≠ "java/lang/invoke/VarHandle" ∧ (parseMethodDescriptor y.desc).map (fun d => d.parameters.length) = some n) (hrc : rm'.cells = 0) (hrs : rm'.slots = 0)
    (hR : rm'.frames + 1 ≤ R.frames ∧ 8 + (nL' + 11) + rm'.locals ≤ R.locals) (hn : As.length = n) (hls : ls.size = nL) (hst : st = As.reverse ++ rest) (hrm : (rest.map fun v => v.category).sum ≤ 8) (hdg : decode cc pc = .ok (.invokestatic idx, 3))
    (hcs : cells ≤ R.cells ∧ slots ≤ R.slots) (kk : ∀ (H1 : Heap) (locs1 : List Loc), Wd E A s w0 H1 locs1 → W p l e R s m args below meth c H1 locs1 cells slots Q (F0 m (pc + 3) ls (.long r :: rest))) : W p l e R s m args below meth c H locs cells slots Q (F0 m pc ls st) := by
  subst hst
  have hFc := Wd.free B w
  refine va_calll (va_runS (As := As) (rest := rest) B.1 (hM H.size) (va_cwS n B.1.2.2.2.2 hG rfl hrc hrs hd hR) ⟨Pre.blind, preV0 B w _⟩ rfl hn hls rfl (lv_room hrm) hdg hcs) w.2.2 (fun q _ h => hFc q h) hFc (fun r' u t H1 locs1 ht hvm hw hB hz1 hk1 hS => ?_)
  subst hw
  obtain ⟨hP1, hD1⟩ := hB
  rw [ht] at hP1
  exact kk H1 locs1 ⟨hP1, hD1.weaken (fun _ q _ h => hFc q.1 h), hS⟩
end FRM
theorem wsU_good : GoodIn wsU wsU := fun w h => ⟨h, good_of_word (List.mem_filter.mp h).2⟩
theorem gN {b : Cond} (hb : b ∈ wsU) : GoodIn wsU (b :: wsU) := fun w h => by
  rcases List.mem_cons.mp h with rfl | h
  · exact wsU_good _ hb
  · exact wsU_good w h
theorem gV {own C : String} {idx : Nat} {y : MethodName} {b : Cond} (h1 : Cond.methodLink own idx y ∈ wsU) (h2 : Cond.instanceMethod y ∈ wsU) (h3 : Cond.selects C y y ∈ wsU) (h4 : Cond.initialized C ∈ wsU) (hb : b ∈ wsU) : GoodIn wsU (wsV own idx C y (b :: wsU)) := fun w h => by
  rcases List.mem_append.mp h with h | h
  · simp only [List.mem_cons, List.not_mem_nil, or_false] at h
    rcases h with rfl | rfl | rfl | rfl
    · exact wsU_good _ h1
    · exact wsU_good _ h2
    · exact wsU_good _ h3
    · exact wsU_good _ h4
  · exact gN hb w h
theorem gS {own : String} {idx : Nat} {y : MethodName} {b : Cond} (h1 : Cond.methodLink own idx y ∈ wsU) (h2 : Cond.static y ∈ wsU) (h4 : Cond.initialized y.cls ∈ wsU) (hb : b ∈ wsU) : GoodIn wsU (va_wsS own idx y (b :: wsU)) := fun w h => by
  rcases List.mem_append.mp h with h | h
  · simp only [List.mem_cons, List.not_mem_nil, or_false] at h
    rcases h with rfl | rfl | rfl
    · exact wsU_good _ h1
    · exact wsU_good _ h2
    · exact wsU_good _ h4
  · exact gN hb w h
def bindv {α : Type} {β : Type} (x : α) (f : α → β) : β := f x
theorem bindv_eq {α β : Type} {x : α} {f : α → β} {r : β} (h : bindv x f = r) (y : α) (e : y = x) : f y = r := by rw [e]; exact h
def updA (ar : Nat → Nat → Int32) (k : Nat) (f : Nat → Int32) : Nat → Nat → Int32 := fun j => if j = k then f else ar j
