/-! THE CLAIM OUT OF ONE WALK OF THE LAW'S BODY. Your part is whole_start (and what it stands on); all else here is the same for every law, but numbers. -/
def R_law : String := "SaidOfHimLaw"
def lw_P (b : Addr) (xs : List Int32) (args : Array Value) (s : State) : Prop := args = #[.ref b] ∧ s.IntsAt b xs ∧ xs.length ≤ 2560 ∧ (Jvm.Cond.and given_1 narrow_1).before args s = true
def lw_Q (_ : Array Value) (s : State) (o : Outcome) (t : State) : Prop := o = .returned (some (.int 1)) ∧ Framed s o t [] 25 7506
def lw_Z (below : List Frame) (a : Array Value) (s : State) : State → Prop := fun t => ∃ o, t.status = .running ∧ Ended t below o ∧ lw_Q a s o t
/-- the law's own end, with 1 on the stack, nothing written that was there before, its room as the claim has it -/
theorem lw_ret {p : Program} {l : Launch} {e : Env} {s : State} {m : MethodId} {below : List Frame} {meth : Method} {c : Code} {b : Nat} (hx : p.tables.exec = Jvm.exec) (hb : c.code = code) (hr : meth.sig.returnType = ret) (hlocks : meth.locks = false) {pc : Nat} {H : Heap} {ls : Array Slot} (hdg : decode code pc = .ok (.ireturn, 1)) : W p l e room_1 s m #[Value.ref b] below meth c H [] 25 7506 (lw_Z below #[Value.ref b] s) (F0 m pc ls [.int 1]) := by
  intro T hT X
  obtain ⟨fs, hret, hrun, hended, hW, hframe⟩ := X.leave (v := some (.int 1)) (hlocks := hlocks) (fun h => by rw [hr] at h; cases h)
  have hmeth' : T.vm.method? m = some meth := X.method'
  refine ⟨T.setFrames fs, ?_, .returned (some (.int 1)), hrun, hended, rfl, ⟨_, rfl⟩, hW, hframe⟩
  jvm_step X.here [X.here.top, hx, hb, hdg, hmeth', hr, ret, narrow_b1]
  (try refine ⟨rfl, ?_⟩); (try refine ⟨rfl, ?_⟩)
  first | (intro acts; rw [hret _ acts rfl rfl rfl]) | rw [hret _ _ rfl rfl rfl]
  exact Steps.refl _
/-- what holds at the law's entry: the machine, the code, the tables' words (any of lw_tbl by 'hts w (by decide +kernel)'), the script of L ints xs at the cell b, what the Statement gives of the start (any of its parts by flat_of_before) -/
def lw_At (p : Program) (s : State) (m : MethodId) (meth : Method) (c : Code) (b L : Nat) (xs : Nat → Int32) : Prop :=
  p.tables.exec = Jvm.exec ∧ c.code = code ∧ meth.sig.returnType = ret ∧ c.maxLocals = 4 ∧ s.vm.findClass R_law = some m.cls ∧ (∀ w ∈ lw_tbl, w.before #[Value.ref b] s = true) ∧ va_X b L xs s s.heap ∧ b < s.heap.size ∧ meth.locks = false ∧ (Jvm.Cond.and given_1 narrow_1).before #[Value.ref b] s = true
theorem vaP_l {D : va_G} {cl : List vw_C} {a b : va_W} {H : Heap} (h : va_P D cl (a ++ b) H) : va_P D cl a H := fun k q hk => h k q (by
  have hlt := (List.getElem?_eq_some_iff.mp hk).1
  rw [List.getElem?_append_left hlt]; exact hk)
theorem vaP_r {D : va_G} {cl : List vw_C} {a b : va_W} {H : Heap} (h : va_P D cl (a ++ b) H) : va_P D cl b H := fun k q hk => h (a.length + k) q (by
  rw [List.getElem?_append_right (Nat.le_add_right _ _), Nat.add_sub_cancel_left]; exact hk)
theorem vaD_l {A : Nat → Prop} {a b : va_W} (h : va_D A (a ++ b)) : va_D A a := by
  refine ⟨fun i j p q hi hj e => h.1 i j p q ?_ ?_ e, fun k q hk => h.2 k q ?_⟩
  · have hlt := (List.getElem?_eq_some_iff.mp hi).1
    rw [List.getElem?_append_left hlt]; exact hi
  · have hlt := (List.getElem?_eq_some_iff.mp hj).1
    rw [List.getElem?_append_left hlt]; exact hj
  · have hlt := (List.getElem?_eq_some_iff.mp hk).1
    rw [List.getElem?_append_left hlt]; exact hk
theorem vaD_r {A : Nat → Prop} {a b : va_W} (h : va_D A (a ++ b)) : va_D A b := by
  have e : ∀ k : Nat, (a ++ b)[a.length + k]? = b[k]? := fun k => by rw [List.getElem?_append_right (Nat.le_add_right _ _), Nat.add_sub_cancel_left]
  refine ⟨fun i j p q hi hj e' => ?_, fun k q hk => h.2 (a.length + k) q (by rw [e]; exact hk)⟩
  have := h.1 (a.length + i) (a.length + j) p q (by rw [e]; exact hi) (by rw [e]; exact hj) e'
  omega
theorem vaD_x {A : Nat → Prop} {a b : va_W} (h : va_D A (a ++ b)) : ∀ (i j : Nat) (p q : Nat × va_E), a[i]? = some p → b[j]? = some q → p.1 ≠ q.1 := by
  intro i j p q hi hj e
  have hlt := (List.getElem?_eq_some_iff.mp hi).1
  have := h.1 i (a.length + j) p q (by rw [List.getElem?_append_left hlt]; exact hi) (by rw [List.getElem?_append_right (Nat.le_add_right _ _), Nat.add_sub_cancel_left]; exact hj) e
  omega
theorem va_joinL {A : Nat → Prop} {D : va_G} {cl : List vw_C} {a a1 b : va_W} {H H1 : Heap} (hP : va_P D cl (a ++ b) H) (hD : va_D A (a ++ b)) (hk : ∀ q : Nat, q < H.size → ¬ va_A a H.size q → H1[q]? = H[q]?) (hF : ∀ q, va_A a H.size q → A q) (hP1 : va_P D cl a1 H1) (hD1 : va_D (va_A a H.size) a1) : va_P D cl (a1 ++ b) H1 ∧ va_D A (a1 ++ b) := by
  have hx := vaD_x hD
  have out : ∀ (k : Nat) (q : Nat × va_E), b[k]? = some q → q.1 < H.size ∧ ¬ va_A a H.size q.1 := by
    intro k q hq
    have hlt := (vaP_r hP k q hq).lt
    refine ⟨hlt, ?_⟩
    rintro (⟨j, e, hj⟩ | hj)
    · exact hx j k _ q hj hq rfl
    · omega
  refine ⟨va_P.app hP1 ((vaP_r hP).kept (fun k q hq => hk q.1 (out k q hq).1 (out k q hq).2)), va_D.app (hD1.weaken (fun _ q _ h => hF q.1 h)) (vaD_r hD) ?_⟩
  intro i j x y hi hj e
  exact (out j y hj).2 (by rw [← e]; exact hD1.2 i x hi)
theorem va_joinR {A : Nat → Prop} {D : va_G} {cl : List vw_C} {a b b1 : va_W} {H H1 : Heap} (hP : va_P D cl (a ++ b) H) (hD : va_D A (a ++ b)) (hk : ∀ q : Nat, q < H.size → ¬ va_A b H.size q → H1[q]? = H[q]?) (hF : ∀ q, va_A b H.size q → A q) (hP1 : va_P D cl b1 H1) (hD1 : va_D (va_A b H.size) b1) : va_P D cl (a ++ b1) H1 ∧ va_D A (a ++ b1) := by
  have hx := vaD_x hD
  have out : ∀ (k : Nat) (q : Nat × va_E), a[k]? = some q → q.1 < H.size ∧ ¬ va_A b H.size q.1 := by
    intro k q hq
    have hlt := (vaP_l hP k q hq).lt
    refine ⟨hlt, ?_⟩
    rintro (⟨j, e, hj⟩ | hj)
    · exact hx k j q _ hq hj rfl
    · omega
  refine ⟨va_P.app ((vaP_l hP).kept (fun k q hq => hk q.1 (out k q hq).1 (out k q hq).2)) hP1, va_D.app (vaD_l hD) (hD1.weaken (fun _ q _ h => hF q.1 h)) ?_⟩
  intro i j x y hi hj e
  exact (out i x hi).2 (by rw [e]; exact hD1.2 j y hj)
theorem va_Kl {D : va_G} {cl : List vw_C} {a b : List (ClassId × FieldType)} {U : State} (h : va_K D cl (a ++ b) U) : va_K D cl a U := ⟨h.1, fun k q hk => h.2 k q (by
  have hlt := (List.getElem?_eq_some_iff.mp hk).1
  rw [List.getElem?_append_left hlt]; exact hk)⟩
theorem va_Kr {D : va_G} {cl : List vw_C} {a b : List (ClassId × FieldType)} {U : State} (h : va_K D cl (a ++ b) U) : va_K D cl b U := ⟨h.1, fun k q hk => h.2 (a.length + k) q (by
  rw [List.getElem?_append_right (Nat.le_add_right _ _), Nat.add_sub_cancel_left]; exact hk)⟩
/-- the law's own bundle -/
def LB (p : Program) (m : MethodId) (c : Code) (s : State) (args : Array Value) (D : va_G) (ca cb : Nat → ClassId) (ak av : Nat → Nat) (A : Nat → Prop) : Prop :=
  CallFix p m c cL_law 4 s args wsU RL ∧ va_K D vwCl (tysC ca ++ tysM cb) s ∧ Nst s ∧ (∀ q, s.heap.size ≤ q → A q) ∧ XP ak av A s s.heap
def LW (D : va_G) (A : Nat → Prop) (s : State) (w : va_W) (H : Heap) (locs : List Loc) : Prop := va_P D vwCl w H ∧ va_D A w ∧ va_S A s.heap H locs
theorem lawCI {p : Program} {l : Launch} {e : Env} {s : State} {m : MethodId} {args : Array Value} {below : List Frame} {meth : Method} {c : Code} {H : Heap} {locs : List Loc} {Q : State → Prop} {pc : Nat} {ls : Array Slot} {rest st : List Value} {D : va_G} {A : Nat → Prop} {y : MethodName} {cc' : ByteArray} {nL' idx n : Nat} {rm' : Room} {As : List Value} {r : Int32} {ca cb : Nat → ClassId} {ak av ad : Nat → Nat} {fi fi1 : Nat → Int32} {fl fl1 : Nat → Int64} {ar ar1 : Nat → Nat → Int32} {o : va_W} (B : LB p m c s args D ca cb ak av A) (w : LW D A s ((wC ad ca fi fl ar) ++ o) H locs) (hM : MtI l y cc' nL' rm' (EC D ca ak av) (.ref (ad 0) :: As) (wC ad ca fi fl ar) (wC ad ca fi1 fl1 ar1) r) (hG : GoodIn wsU (wsV RL idx RX8 y (.code y cc' nL' (some .int) :: wsU)))
    (hd : y.cls = RX8 ∧ y.cls ≠ "java/lang/invoke/MethodHandle" ∧ y.cls ≠ "java/lang/invoke/VarHandle" ∧ (parseMethodDescriptor y.desc).map (fun d => d.parameters.length) = some n) (hrc : rm'.cells = 0) (hrs : rm'.slots = 0)
    (hR : rm'.frames + 1 ≤ room_1.frames ∧ 8 + (nL' + 11) + rm'.locals ≤ room_1.locals) (hn : As.length = n) (hls : ls.size = 4) (hst : st = As.reverse ++ .ref (ad 0) :: rest) (hrm : (rest.map fun v => v.category).sum ≤ 8) (hdg : decode cL_law pc = .ok (.invokevirtual idx, 3))
    (kk : ∀ (H1 : Heap) (locs1 : List Loc), LW D A s ((wC ad ca fi1 fl1 ar1) ++ o) H1 locs1 → W p l e room_1 s m args below meth c H1 locs1 25 7506 Q (F0 m (pc + 3) ls (.int r :: rest))) : W p l e room_1 s m args below meth c H locs 25 7506 Q (F0 m pc ls st) := by
  subst hst
  have B1 : Bd p m c cL_law 4 s args RL (EC D ca ak av) A := ⟨B.1, va_Kl B.2.1, B.2.2.1, B.2.2.2.1, (fun _ => B.2.2.2.2)⟩
  have w1 : Wd (EC D ca ak av) A s (wC ad ca fi fl ar) H locs := ⟨vaP_l w.1, vaD_l w.2.1, w.2.2⟩
  have hFc := Wd.free B1 w1
  refine va_calli (va_runV (As := As) (rest := rest) B.1 (hM H.size) (cwV n B.1.2.2.2.2 hG rfl hrc hrs hd hR) ⟨Pre.blind, va_recv (q := (RX8, TX8, 9)) B1.2.1 w1.1 (ci := 8) (q0 := 0) rfl rfl, preV0 B1 w1 _⟩ rfl hn hls rfl (lv_room hrm) hdg ⟨by decide, by decide⟩) w.2.2 (fun q _ h => hFc q h) hFc (fun r' u t H1 locs1 ht hvm hw hB hz1 hk1 hS => ?_)
  subst hw
  obtain ⟨hP1, hD1⟩ := hB
  rw [ht] at hP1
  obtain ⟨hP, hD⟩ := va_joinL w.1 w.2.1 hk1 hFc hP1 hD1
  exact kk H1 locs1 ⟨hP, hD, hS⟩
theorem lawCL {p : Program} {l : Launch} {e : Env} {s : State} {m : MethodId} {args : Array Value} {below : List Frame} {meth : Method} {c : Code} {H : Heap} {locs : List Loc} {Q : State → Prop} {pc : Nat} {ls : Array Slot} {rest st : List Value} {D : va_G} {A : Nat → Prop} {y : MethodName} {cc' : ByteArray} {nL' idx n : Nat} {rm' : Room} {As : List Value} {r : Int64} {ca cb : Nat → ClassId} {ak av ad : Nat → Nat} {fi fi1 : Nat → Int32} {fl fl1 : Nat → Int64} {ar ar1 : Nat → Nat → Int32} {o : va_W} (B : LB p m c s args D ca cb ak av A) (w : LW D A s ((wC ad ca fi fl ar) ++ o) H locs) (hM : MtL l y cc' nL' rm' (EC D ca ak av) (.ref (ad 0) :: As) (wC ad ca fi fl ar) (wC ad ca fi1 fl1 ar1) r) (hG : GoodIn wsU (wsV RL idx RX8 y (.code y cc' nL' (some .long) :: wsU)))
    (hd : y.cls = RX8 ∧ y.cls ≠ "java/lang/invoke/MethodHandle" ∧ y.cls ≠ "java/lang/invoke/VarHandle" ∧ (parseMethodDescriptor y.desc).map (fun d => d.parameters.length) = some n) (hrc : rm'.cells = 0) (hrs : rm'.slots = 0)
    (hR : rm'.frames + 1 ≤ room_1.frames ∧ 8 + (nL' + 11) + rm'.locals ≤ room_1.locals) (hn : As.length = n) (hls : ls.size = 4) (hst : st = As.reverse ++ .ref (ad 0) :: rest) (hrm : (rest.map fun v => v.category).sum ≤ 8) (hdg : decode cL_law pc = .ok (.invokevirtual idx, 3))
    (kk : ∀ (H1 : Heap) (locs1 : List Loc), LW D A s ((wC ad ca fi1 fl1 ar1) ++ o) H1 locs1 → W p l e room_1 s m args below meth c H1 locs1 25 7506 Q (F0 m (pc + 3) ls (.long r :: rest))) : W p l e room_1 s m args below meth c H locs 25 7506 Q (F0 m pc ls st) := by
  subst hst
  have B1 : Bd p m c cL_law 4 s args RL (EC D ca ak av) A := ⟨B.1, va_Kl B.2.1, B.2.2.1, B.2.2.2.1, (fun _ => B.2.2.2.2)⟩
  have w1 : Wd (EC D ca ak av) A s (wC ad ca fi fl ar) H locs := ⟨vaP_l w.1, vaD_l w.2.1, w.2.2⟩
  have hFc := Wd.free B1 w1
  refine va_calll (va_runV (As := As) (rest := rest) B.1 (hM H.size) (cwV n B.1.2.2.2.2 hG rfl hrc hrs hd hR) ⟨Pre.blind, va_recv (q := (RX8, TX8, 9)) B1.2.1 w1.1 (ci := 8) (q0 := 0) rfl rfl, preV0 B1 w1 _⟩ rfl hn hls rfl (lv_room hrm) hdg ⟨by decide, by decide⟩) w.2.2 (fun q _ h => hFc q h) hFc (fun r' u t H1 locs1 ht hvm hw hB hz1 hk1 hS => ?_)
  subst hw
  obtain ⟨hP1, hD1⟩ := hB
  rw [ht] at hP1
  obtain ⟨hP, hD⟩ := va_joinL w.1 w.2.1 hk1 hFc hP1 hD1
  exact kk H1 locs1 ⟨hP, hD, hS⟩
theorem lawMI {p : Program} {l : Launch} {e : Env} {s : State} {m : MethodId} {args : Array Value} {below : List Frame} {meth : Method} {c : Code} {H : Heap} {locs : List Loc} {Q : State → Prop} {pc : Nat} {ls : Array Slot} {rest st : List Value} {D : va_G} {A : Nat → Prop} {y : MethodName} {cc' : ByteArray} {nL' idx n : Nat} {rm' : Room} {As : List Value} {r : Int32} {ca cb : Nat → ClassId} {ak av ad : Nat → Nat} {fi fi1 : Nat → Int32} {fl fl1 : Nat → Int64} {ar ar1 : Nat → Nat → Int32} {o : va_W} (B : LB p m c s args D ca cb ak av A) (w : LW D A s (o ++ (wM ad cb fi fl ar)) H locs) (hM : MtI l y cc' nL' rm' (EM D cb ak av) (.ref (ad 0) :: As) (wM ad cb fi fl ar) (wM ad cb fi1 fl1 ar1) r) (hG : GoodIn wsU (wsV RL idx RX9 y (.code y cc' nL' (some .int) :: wsU)))
    (hd : y.cls = RX9 ∧ y.cls ≠ "java/lang/invoke/MethodHandle" ∧ y.cls ≠ "java/lang/invoke/VarHandle" ∧ (parseMethodDescriptor y.desc).map (fun d => d.parameters.length) = some n) (hrc : rm'.cells = 0) (hrs : rm'.slots = 0)
    (hR : rm'.frames + 1 ≤ room_1.frames ∧ 8 + (nL' + 11) + rm'.locals ≤ room_1.locals) (hn : As.length = n) (hls : ls.size = 4) (hst : st = As.reverse ++ .ref (ad 0) :: rest) (hrm : (rest.map fun v => v.category).sum ≤ 8) (hdg : decode cL_law pc = .ok (.invokevirtual idx, 3))
    (kk : ∀ (H1 : Heap) (locs1 : List Loc), LW D A s (o ++ (wM ad cb fi1 fl1 ar1)) H1 locs1 → W p l e room_1 s m args below meth c H1 locs1 25 7506 Q (F0 m (pc + 3) ls (.int r :: rest))) : W p l e room_1 s m args below meth c H locs 25 7506 Q (F0 m pc ls st) := by
  subst hst
  have B1 : Bd p m c cL_law 4 s args RL (EM D cb ak av) A := ⟨B.1, va_Kr B.2.1, B.2.2.1, B.2.2.2.1, (fun h => by cases h)⟩
  have w1 : Wd (EM D cb ak av) A s (wM ad cb fi fl ar) H locs := ⟨vaP_r w.1, vaD_r w.2.1, w.2.2⟩
  have hFc := Wd.free B1 w1
  refine va_calli (va_runV (As := As) (rest := rest) B.1 (hM H.size) (cwV n B.1.2.2.2.2 hG rfl hrc hrs hd hR) ⟨Pre.blind, va_recv (q := (RX9, TX9, 21)) B1.2.1 w1.1 (ci := 9) (q0 := 0) rfl rfl, preV0 B1 w1 _⟩ rfl hn hls rfl (lv_room hrm) hdg ⟨by decide, by decide⟩) w.2.2 (fun q _ h => hFc q h) hFc (fun r' u t H1 locs1 ht hvm hw hB hz1 hk1 hS => ?_)
  subst hw
  obtain ⟨hP1, hD1⟩ := hB
  rw [ht] at hP1
  obtain ⟨hP, hD⟩ := va_joinR w.1 w.2.1 hk1 hFc hP1 hD1
  exact kk H1 locs1 ⟨hP, hD, hS⟩
theorem lawML {p : Program} {l : Launch} {e : Env} {s : State} {m : MethodId} {args : Array Value} {below : List Frame} {meth : Method} {c : Code} {H : Heap} {locs : List Loc} {Q : State → Prop} {pc : Nat} {ls : Array Slot} {rest st : List Value} {D : va_G} {A : Nat → Prop} {y : MethodName} {cc' : ByteArray} {nL' idx n : Nat} {rm' : Room} {As : List Value} {r : Int64} {ca cb : Nat → ClassId} {ak av ad : Nat → Nat} {fi fi1 : Nat → Int32} {fl fl1 : Nat → Int64} {ar ar1 : Nat → Nat → Int32} {o : va_W} (B : LB p m c s args D ca cb ak av A) (w : LW D A s (o ++ (wM ad cb fi fl ar)) H locs) (hM : MtL l y cc' nL' rm' (EM D cb ak av) (.ref (ad 0) :: As) (wM ad cb fi fl ar) (wM ad cb fi1 fl1 ar1) r) (hG : GoodIn wsU (wsV RL idx RX9 y (.code y cc' nL' (some .long) :: wsU)))
    (hd : y.cls = RX9 ∧ y.cls ≠ "java/lang/invoke/MethodHandle" ∧ y.cls ≠ "java/lang/invoke/VarHandle" ∧ (parseMethodDescriptor y.desc).map (fun d => d.parameters.length) = some n) (hrc : rm'.cells = 0) (hrs : rm'.slots = 0)
    (hR : rm'.frames + 1 ≤ room_1.frames ∧ 8 + (nL' + 11) + rm'.locals ≤ room_1.locals) (hn : As.length = n) (hls : ls.size = 4) (hst : st = As.reverse ++ .ref (ad 0) :: rest) (hrm : (rest.map fun v => v.category).sum ≤ 8) (hdg : decode cL_law pc = .ok (.invokevirtual idx, 3))
    (kk : ∀ (H1 : Heap) (locs1 : List Loc), LW D A s (o ++ (wM ad cb fi1 fl1 ar1)) H1 locs1 → W p l e room_1 s m args below meth c H1 locs1 25 7506 Q (F0 m (pc + 3) ls (.long r :: rest))) : W p l e room_1 s m args below meth c H locs 25 7506 Q (F0 m pc ls st) := by
  subst hst
  have B1 : Bd p m c cL_law 4 s args RL (EM D cb ak av) A := ⟨B.1, va_Kr B.2.1, B.2.2.1, B.2.2.2.1, (fun h => by cases h)⟩
  have w1 : Wd (EM D cb ak av) A s (wM ad cb fi fl ar) H locs := ⟨vaP_r w.1, vaD_r w.2.1, w.2.2⟩
  have hFc := Wd.free B1 w1
  refine va_calll (va_runV (As := As) (rest := rest) B.1 (hM H.size) (cwV n B.1.2.2.2.2 hG rfl hrc hrs hd hR) ⟨Pre.blind, va_recv (q := (RX9, TX9, 21)) B1.2.1 w1.1 (ci := 9) (q0 := 0) rfl rfl, preV0 B1 w1 _⟩ rfl hn hls rfl (lv_room hrm) hdg ⟨by decide, by decide⟩) w.2.2 (fun q _ h => hFc q h) hFc (fun r' u t H1 locs1 ht hvm hw hB hz1 hk1 hS => ?_)
  subst hw
  obtain ⟨hP1, hD1⟩ := hB
  rw [ht] at hP1
  obtain ⟨hP, hD⟩ := va_joinR w.1 w.2.1 hk1 hFc hP1 hD1
  exact kk H1 locs1 ⟨hP, hD, hS⟩
