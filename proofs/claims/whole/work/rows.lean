section
/-- a private method of a class that the tables say can be made, by its rows of tables_1 -/
def lw_okq (q : MethodName × Nat) : Prop := (q.1.cls ≠ "java/lang/invoke/MethodHandle" ∧ q.1.cls ≠ "java/lang/invoke/VarHandle") ∧ Cond.instantiable q.1.cls q.2 ∈ tables_1 ∧ Cond.privateMethod q.1 ∈ tables_1 ∧ Cond.instanceMethod q.1 ∈ tables_1
theorem lw_p0 : lw_okq (⟨"SaidOfHim$Reader", "skipBlanks", "()V"⟩, 7) := ⟨⟨by decide +kernel, by decide +kernel⟩, List.mem_of_getElem? (i := 86) (by decide +kernel), List.mem_of_getElem? (i := 329) (by decide +kernel), List.mem_of_getElem? (i := 330) (by decide +kernel)⟩
theorem lw_p1 : lw_okq (⟨"SaidOfHim$Reader", "takeClause", "()V"⟩, 7) := ⟨⟨by decide +kernel, by decide +kernel⟩, List.mem_of_getElem? (i := 86) (by decide +kernel), List.mem_of_getElem? (i := 333) (by decide +kernel), List.mem_of_getElem? (i := 334) (by decide +kernel)⟩
theorem lw_p2 : lw_okq (⟨"SaidOfHim$Reader", "takeClauseWord", "()I"⟩, 7) := ⟨⟨by decide +kernel, by decide +kernel⟩, List.mem_of_getElem? (i := 86) (by decide +kernel), List.mem_of_getElem? (i := 337) (by decide +kernel), List.mem_of_getElem? (i := 338) (by decide +kernel)⟩
theorem lw_p3 : lw_okq (⟨"SaidOfHim$Reader", "takeWord", "(Ljava/lang/String;)Z"⟩, 7) := ⟨⟨by decide +kernel, by decide +kernel⟩, List.mem_of_getElem? (i := 86) (by decide +kernel), List.mem_of_getElem? (i := 342) (by decide +kernel), List.mem_of_getElem? (i := 343) (by decide +kernel)⟩
theorem lw_p4 : lw_okq (⟨"SaidOfHim$Reader", "blame", "(II)V"⟩, 7) := ⟨⟨by decide +kernel, by decide +kernel⟩, List.mem_of_getElem? (i := 86) (by decide +kernel), List.mem_of_getElem? (i := 401) (by decide +kernel), List.mem_of_getElem? (i := 402) (by decide +kernel)⟩
theorem lw_p5 : lw_okq (⟨"SaidOfHim$Reader", "takeBody", "(I)V"⟩, 7) := ⟨⟨by decide +kernel, by decide +kernel⟩, List.mem_of_getElem? (i := 86) (by decide +kernel), List.mem_of_getElem? (i := 408) (by decide +kernel), List.mem_of_getElem? (i := 409) (by decide +kernel)⟩
theorem lw_p6 : lw_okq (⟨"SaidOfHim$Reader", "takeNumber", "(I)I"⟩, 7) := ⟨⟨by decide +kernel, by decide +kernel⟩, List.mem_of_getElem? (i := 86) (by decide +kernel), List.mem_of_getElem? (i := 412) (by decide +kernel), List.mem_of_getElem? (i := 413) (by decide +kernel)⟩
theorem lw_p7 : lw_okq (⟨"SaidOfHim$Reader", "takeSet", "(ILjava/lang/String;Ljava/lang/String;)I"⟩, 7) := ⟨⟨by decide +kernel, by decide +kernel⟩, List.mem_of_getElem? (i := 86) (by decide +kernel), List.mem_of_getElem? (i := 419) (by decide +kernel), List.mem_of_getElem? (i := 420) (by decide +kernel)⟩
theorem lw_p8 : lw_okq (⟨"SaidOfHim$Reader", "takeEnd", "()V"⟩, 7) := ⟨⟨by decide +kernel, by decide +kernel⟩, List.mem_of_getElem? (i := 86) (by decide +kernel), List.mem_of_getElem? (i := 425) (by decide +kernel), List.mem_of_getElem? (i := 426) (by decide +kernel)⟩
theorem lw_p9 : lw_okq (⟨"SaidOfHim$Views", "callersGood", "(I)I"⟩, 2) := ⟨⟨by decide +kernel, by decide +kernel⟩, List.mem_of_getElem? (i := 258) (by decide +kernel), List.mem_of_getElem? (i := 720) (by decide +kernel), List.mem_of_getElem? (i := 721) (by decide +kernel)⟩
theorem lw_p10 : lw_okq (⟨"SaidOfHimModel", "here", "()I"⟩, 21) := ⟨⟨by decide +kernel, by decide +kernel⟩, List.mem_of_getElem? (i := 737) (by decide +kernel), List.mem_of_getElem? (i := 824) (by decide +kernel), List.mem_of_getElem? (i := 825) (by decide +kernel)⟩
theorem lw_p11 : lw_okq (⟨"SaidOfHimModel", "takeClause", "()V"⟩, 21) := ⟨⟨by decide +kernel, by decide +kernel⟩, List.mem_of_getElem? (i := 737) (by decide +kernel), List.mem_of_getElem? (i := 828) (by decide +kernel), List.mem_of_getElem? (i := 829) (by decide +kernel)⟩
theorem lw_p12 : lw_okq (⟨"SaidOfHimModel", "takeWord", "()V"⟩, 21) := ⟨⟨by decide +kernel, by decide +kernel⟩, List.mem_of_getElem? (i := 737) (by decide +kernel), List.mem_of_getElem? (i := 832) (by decide +kernel), List.mem_of_getElem? (i := 833) (by decide +kernel)⟩
theorem lw_p13 : lw_okq (⟨"SaidOfHimModel", "kindOf", "()I"⟩, 21) := ⟨⟨by decide +kernel, by decide +kernel⟩, List.mem_of_getElem? (i := 737) (by decide +kernel), List.mem_of_getElem? (i := 838) (by decide +kernel), List.mem_of_getElem? (i := 839) (by decide +kernel)⟩
theorem lw_p14 : lw_okq (⟨"SaidOfHimModel", "isWord", "(IIIIIII)Z"⟩, 21) := ⟨⟨by decide +kernel, by decide +kernel⟩, List.mem_of_getElem? (i := 737) (by decide +kernel), List.mem_of_getElem? (i := 842) (by decide +kernel), List.mem_of_getElem? (i := 843) (by decide +kernel)⟩
theorem lw_p15 : lw_okq (⟨"SaidOfHimModel", "want", "(ZII)Z"⟩, 21) := ⟨⟨by decide +kernel, by decide +kernel⟩, List.mem_of_getElem? (i := 737) (by decide +kernel), List.mem_of_getElem? (i := 846) (by decide +kernel), List.mem_of_getElem? (i := 847) (by decide +kernel)⟩
def lw_privs_1 : List (MethodName × Nat) := [(⟨"SaidOfHim$Reader", "skipBlanks", "()V"⟩, 7), (⟨"SaidOfHim$Reader", "takeClause", "()V"⟩, 7), (⟨"SaidOfHim$Reader", "takeClauseWord", "()I"⟩, 7), (⟨"SaidOfHim$Reader", "takeWord", "(Ljava/lang/String;)Z"⟩, 7), (⟨"SaidOfHim$Reader", "blame", "(II)V"⟩, 7), (⟨"SaidOfHim$Reader", "takeBody", "(I)V"⟩, 7), (⟨"SaidOfHim$Reader", "takeNumber", "(I)I"⟩, 7), (⟨"SaidOfHim$Reader", "takeSet", "(ILjava/lang/String;Ljava/lang/String;)I"⟩, 7), (⟨"SaidOfHim$Reader", "takeEnd", "()V"⟩, 7), (⟨"SaidOfHim$Views", "callersGood", "(I)I"⟩, 2), (⟨"SaidOfHimModel", "here", "()I"⟩, 21), (⟨"SaidOfHimModel", "takeClause", "()V"⟩, 21), (⟨"SaidOfHimModel", "takeWord", "()V"⟩, 21), (⟨"SaidOfHimModel", "kindOf", "()I"⟩, 21), (⟨"SaidOfHimModel", "isWord", "(IIIIIII)Z"⟩, 21), (⟨"SaidOfHimModel", "want", "(ZII)Z"⟩, 21)]
theorem lw_r1 : ∀ q ∈ lw_privs_1, lw_okq q := List.forall_mem_cons.mpr ⟨lw_p0, List.forall_mem_cons.mpr ⟨lw_p1, List.forall_mem_cons.mpr ⟨lw_p2, List.forall_mem_cons.mpr ⟨lw_p3, List.forall_mem_cons.mpr ⟨lw_p4, List.forall_mem_cons.mpr ⟨lw_p5, List.forall_mem_cons.mpr ⟨lw_p6, List.forall_mem_cons.mpr ⟨lw_p7, List.forall_mem_cons.mpr ⟨lw_p8, List.forall_mem_cons.mpr ⟨lw_p9, List.forall_mem_cons.mpr ⟨lw_p10, List.forall_mem_cons.mpr ⟨lw_p11, List.forall_mem_cons.mpr ⟨lw_p12, List.forall_mem_cons.mpr ⟨lw_p13, List.forall_mem_cons.mpr ⟨lw_p14, List.forall_mem_cons.mpr ⟨lw_p15, fun _ h => absurd h List.not_mem_nil⟩⟩⟩⟩⟩⟩⟩⟩⟩⟩⟩⟩⟩⟩⟩⟩
theorem lw_p16 : lw_okq (⟨"SaidOfHimModel", "takeBits", "(IZ)I"⟩, 21) := ⟨⟨by decide +kernel, by decide +kernel⟩, List.mem_of_getElem? (i := 737) (by decide +kernel), List.mem_of_getElem? (i := 850) (by decide +kernel), List.mem_of_getElem? (i := 851) (by decide +kernel)⟩
theorem lw_p17 : lw_okq (⟨"SaidOfHimModel", "takeFade", "()V"⟩, 21) := ⟨⟨by decide +kernel, by decide +kernel⟩, List.mem_of_getElem? (i := 737) (by decide +kernel), List.mem_of_getElem? (i := 857) (by decide +kernel), List.mem_of_getElem? (i := 858) (by decide +kernel)⟩
theorem lw_p18 : lw_okq (⟨"SaidOfHimModel", "takeNumber", "(II)I"⟩, 21) := ⟨⟨by decide +kernel, by decide +kernel⟩, List.mem_of_getElem? (i := 737) (by decide +kernel), List.mem_of_getElem? (i := 861) (by decide +kernel), List.mem_of_getElem? (i := 862) (by decide +kernel)⟩
theorem lw_p19 : lw_okq (⟨"SaidOfHimModel", "stepOf", "(II)I"⟩, 21) := ⟨⟨by decide +kernel, by decide +kernel⟩, List.mem_of_getElem? (i := 737) (by decide +kernel), List.mem_of_getElem? (i := 907) (by decide +kernel), List.mem_of_getElem? (i := 908) (by decide +kernel)⟩
theorem lw_p20 : lw_okq (⟨"SaidOfHimModel", "calledGood", "(IIII)I"⟩, 21) := ⟨⟨by decide +kernel, by decide +kernel⟩, List.mem_of_getElem? (i := 737) (by decide +kernel), List.mem_of_getElem? (i := 914) (by decide +kernel), List.mem_of_getElem? (i := 915) (by decide +kernel)⟩
theorem lw_p21 : lw_okq (⟨"SaidOfHimModel", "goFrom", "(II)V"⟩, 21) := ⟨⟨by decide +kernel, by decide +kernel⟩, List.mem_of_getElem? (i := 737) (by decide +kernel), List.mem_of_getElem? (i := 924) (by decide +kernel), List.mem_of_getElem? (i := 925) (by decide +kernel)⟩
theorem lw_p22 : lw_okq (⟨"SaidOfHimModel", "helpedBy", "(II)I"⟩, 21) := ⟨⟨by decide +kernel, by decide +kernel⟩, List.mem_of_getElem? (i := 737) (by decide +kernel), List.mem_of_getElem? (i := 932) (by decide +kernel), List.mem_of_getElem? (i := 933) (by decide +kernel)⟩
theorem lw_p23 : lw_okq (⟨"SaidOfHimModel", "findOther", "(III)V"⟩, 21) := ⟨⟨by decide +kernel, by decide +kernel⟩, List.mem_of_getElem? (i := 737) (by decide +kernel), List.mem_of_getElem? (i := 947) (by decide +kernel), List.mem_of_getElem? (i := 948) (by decide +kernel)⟩
theorem lw_p24 : lw_okq (⟨"SaidOfHimModel", "gainOf", "(III)I"⟩, 21) := ⟨⟨by decide +kernel, by decide +kernel⟩, List.mem_of_getElem? (i := 737) (by decide +kernel), List.mem_of_getElem? (i := 959) (by decide +kernel), List.mem_of_getElem? (i := 960) (by decide +kernel)⟩
theorem lw_p25 : lw_okq (⟨"SaidOfHimModel", "holdsOf", "(I)I"⟩, 21) := ⟨⟨by decide +kernel, by decide +kernel⟩, List.mem_of_getElem? (i := 737) (by decide +kernel), List.mem_of_getElem? (i := 973) (by decide +kernel), List.mem_of_getElem? (i := 974) (by decide +kernel)⟩
theorem lw_p26 : lw_okq (⟨"SaidOfHimModel", "isHolding", "(I)Z"⟩, 21) := ⟨⟨by decide +kernel, by decide +kernel⟩, List.mem_of_getElem? (i := 737) (by decide +kernel), List.mem_of_getElem? (i := 981) (by decide +kernel), List.mem_of_getElem? (i := 982) (by decide +kernel)⟩
theorem lw_p27 : lw_okq (⟨"SaidOfHimModel", "mostHelped", "()I"⟩, 21) := ⟨⟨by decide +kernel, by decide +kernel⟩, List.mem_of_getElem? (i := 737) (by decide +kernel), List.mem_of_getElem? (i := 989) (by decide +kernel), List.mem_of_getElem? (i := 990) (by decide +kernel)⟩
theorem lw_p28 : lw_okq (⟨"SaidOfHimModel", "helpedAtRest", "(I)I"⟩, 21) := ⟨⟨by decide +kernel, by decide +kernel⟩, List.mem_of_getElem? (i := 737) (by decide +kernel), List.mem_of_getElem? (i := 993) (by decide +kernel), List.mem_of_getElem? (i := 994) (by decide +kernel)⟩
theorem lw_p29 : lw_okq (⟨"SaidOfHimModel", "bearsOf", "(I)I"⟩, 21) := ⟨⟨by decide +kernel, by decide +kernel⟩, List.mem_of_getElem? (i := 737) (by decide +kernel), List.mem_of_getElem? (i := 1003) (by decide +kernel), List.mem_of_getElem? (i := 1004) (by decide +kernel)⟩
theorem lw_p30 : lw_okq (⟨"SaidOfHimModel", "nameOf", "(II)I"⟩, 21) := ⟨⟨by decide +kernel, by decide +kernel⟩, List.mem_of_getElem? (i := 737) (by decide +kernel), List.mem_of_getElem? (i := 1034) (by decide +kernel), List.mem_of_getElem? (i := 1035) (by decide +kernel)⟩
def lw_privs_2 : List (MethodName × Nat) := [(⟨"SaidOfHimModel", "takeBits", "(IZ)I"⟩, 21), (⟨"SaidOfHimModel", "takeFade", "()V"⟩, 21), (⟨"SaidOfHimModel", "takeNumber", "(II)I"⟩, 21), (⟨"SaidOfHimModel", "stepOf", "(II)I"⟩, 21), (⟨"SaidOfHimModel", "calledGood", "(IIII)I"⟩, 21), (⟨"SaidOfHimModel", "goFrom", "(II)V"⟩, 21), (⟨"SaidOfHimModel", "helpedBy", "(II)I"⟩, 21), (⟨"SaidOfHimModel", "findOther", "(III)V"⟩, 21), (⟨"SaidOfHimModel", "gainOf", "(III)I"⟩, 21), (⟨"SaidOfHimModel", "holdsOf", "(I)I"⟩, 21), (⟨"SaidOfHimModel", "isHolding", "(I)Z"⟩, 21), (⟨"SaidOfHimModel", "mostHelped", "()I"⟩, 21), (⟨"SaidOfHimModel", "helpedAtRest", "(I)I"⟩, 21), (⟨"SaidOfHimModel", "bearsOf", "(I)I"⟩, 21), (⟨"SaidOfHimModel", "nameOf", "(II)I"⟩, 21)]
theorem lw_r2 : ∀ q ∈ lw_privs_2, lw_okq q := List.forall_mem_cons.mpr ⟨lw_p16, List.forall_mem_cons.mpr ⟨lw_p17, List.forall_mem_cons.mpr ⟨lw_p18, List.forall_mem_cons.mpr ⟨lw_p19, List.forall_mem_cons.mpr ⟨lw_p20, List.forall_mem_cons.mpr ⟨lw_p21, List.forall_mem_cons.mpr ⟨lw_p22, List.forall_mem_cons.mpr ⟨lw_p23, List.forall_mem_cons.mpr ⟨lw_p24, List.forall_mem_cons.mpr ⟨lw_p25, List.forall_mem_cons.mpr ⟨lw_p26, List.forall_mem_cons.mpr ⟨lw_p27, List.forall_mem_cons.mpr ⟨lw_p28, List.forall_mem_cons.mpr ⟨lw_p29, List.forall_mem_cons.mpr ⟨lw_p30, fun _ h => absurd h List.not_mem_nil⟩⟩⟩⟩⟩⟩⟩⟩⟩⟩⟩⟩⟩⟩⟩
def lw_privs : List (MethodName × Nat) := lw_privs_1 ++ (lw_privs_2)
def lw_tbl : List Cond := k2_sels lw_privs ++ tables_1
theorem lw_privs_ok : ∀ q ∈ lw_privs, lw_okq q := by
  show ∀ q ∈ lw_privs_1 ++ (lw_privs_2), lw_okq q
  exact List.forall_mem_append.mpr ⟨lw_r1, lw_r2⟩
end
section
/-! ===== BEGIN words of one list among another's, by their places ===== -/
theorem goodIn_r {big : List Cond} (ws : List Cond) (ps : List Nat) (hp : ws = ps.filterMap (fun i => big[i]?)) (h : ws.all goodWord = true) : GoodIn big ws := by
  intro w hw
  have h1 := List.all_eq_true.mp h w hw
  rw [hp] at hw
  obtain ⟨i, -, hi⟩ := List.mem_filterMap.mp hw
  have hm : w ∈ big := by first | exact List.mem_of_getElem? hi | exact List.getElem?_mem hi
  exact ⟨hm, good_of_word h1⟩
theorem goodIn_app {big a b : List Cond} (ha : GoodIn big a) (hb : GoodIn big b) : GoodIn big (a ++ b) := fun w h => (List.mem_append.mp h).elim (ha w) (hb w)
theorem goodIn_ca {big a b : List Cond} {c : Cond} (ha : GoodIn big (c :: a)) (hb : GoodIn big b) : GoodIn big (c :: (a ++ b)) := fun w h => (List.mem_cons.mp h).elim (fun e => ha w (List.mem_cons.mpr (Or.inl e))) (fun h => (List.mem_append.mp h).elim (fun h => ha w (List.mem_cons.mpr (Or.inr h))) (hb w))
theorem goodIn_sub {big ws : List Cond} (hm : ∀ w ∈ ws, w ∈ big) (h : ws.all goodWord = true) : GoodIn big ws := fun w hw => ⟨hm w hw, good_of_word (List.all_eq_true.mp h w hw)⟩
/-! ===== END ===== -/

/-! ===== BEGIN printed: names, fields, word lists, decode rows ===== -/
def RX0 : String := "SaidOfHim$Another"
def TX0 : u_T := fun k => match k with
  | 0 => ("SaidOfHim$Another", "good", "J", false)
  | 1 => ("SaidOfHim$Another", "times", "J", false)
  | 2 => ("SaidOfHim$Another", "whole", "J", false)
  | 3 => ("SaidOfHim$Another", "part", "J", false)
  | _ => ("SaidOfHim$Another", "has", "J", false)
def tyX0 : Nat → FieldType := fun k => match k with
  | 0 => .long
  | 1 => .long
  | 2 => .long
  | 3 => .long
  | _ => .long
abbrev wsX00 : List Cond := u_ws RX0 TX0 5
theorem nmX0 : ∀ a, a < 5 → ∀ b, b < 5 → a ≠ b → (TX0 a).2.1 ≠ (TX0 b).2.1 := by decide +kernel
theorem tyX0_ok : ∀ k, k < 5 → parseFieldDescriptor (TX0 k).2.2.1 = some (tyX0 k) := by decide +kernel
abbrev cX0_init : ByteArray := prog_2_method_1_code
def yX0_init : MethodName := ⟨RX0, "<init>", "()V"⟩
abbrev cX0_live : ByteArray := prog_2_method_2_code
def yX0_live : MethodName := ⟨RX0, "live", "(LSaidOfHim$Custom;II)V"⟩
abbrev cX0_worthBeing : ByteArray := prog_2_method_3_code
def yX0_worthBeing : MethodName := ⟨RX0, "worthBeing", "(ILSaidOfHim$Custom;II)J"⟩
abbrev cX0_hasUpper : ByteArray := prog_2_method_4_code
def yX0_hasUpper : MethodName := ⟨RX0, "hasUpper", "(LSaidOfHim$Custom;)J"⟩
abbrev cX0_hasLower : ByteArray := prog_2_method_5_code
def yX0_hasLower : MethodName := ⟨RX0, "hasLower", "()J"⟩
def RX1 : String := "SaidOfHim$Custom"
def TX1 : u_T := fun k => match k with
  | 0 => ("SaidOfHim$Custom", "odds", "[I", true)
  | 1 => ("SaidOfHim$Custom", "own", "[I", true)
  | 2 => ("SaidOfHim$Custom", "way", "I", false)
  | 3 => ("SaidOfHim$Custom", "cost", "I", false)
  | 4 => ("SaidOfHim$Custom", "worth", "I", false)
  | 5 => ("SaidOfHim$Custom", "keep", "I", false)
  | 6 => ("SaidOfHim$Custom", "fade", "I", false)
  | _ => ("SaidOfHim$Custom", "fresh", "I", false)
def tyX1 : Nat → FieldType := fun k => match k with
  | 0 => .array .int
  | 1 => .array .int
  | 2 => .int
  | 3 => .int
  | 4 => .int
  | 5 => .int
  | 6 => .int
  | _ => .int
abbrev wsX10 : List Cond := u_ws RX1 TX1 8
theorem nmX1 : ∀ a, a < 8 → ∀ b, b < 8 → a ≠ b → (TX1 a).2.1 ≠ (TX1 b).2.1 := by decide +kernel
theorem tyX1_ok : ∀ k, k < 8 → parseFieldDescriptor (TX1 k).2.2.1 = some (tyX1 k) := by decide +kernel
abbrev cX1_init : ByteArray := prog_3_method_1_code
def yX1_init : MethodName := ⟨RX1, "<init>", "()V"⟩
abbrev cX1_live : ByteArray := prog_3_method_2_code
def yX1_live : MethodName := ⟨RX1, "live", "(LSaidOfHim$Village;II)V"⟩
abbrev cX1_calledGood : ByteArray := prog_3_method_3_code
def yX1_calledGood : MethodName := ⟨RX1, "calledGood", "(III)J"⟩
abbrev cX1_next : ByteArray := prog_3_method_4_code
def yX1_next : MethodName := ⟨RX1, "next", "(I)I"⟩
abbrev cX1_aid : ByteArray := prog_3_method_5_code
def yX1_aid : MethodName := ⟨RX1, "aid", "(I)I"⟩
def RX2 : String := "SaidOfHim$Judge"
def TX2 : u_T := fun k => match k with
  | 0 => ("SaidOfHim$Judge", "village", "LSaidOfHim$Village;", true)
  | 1 => ("SaidOfHim$Judge", "custom", "LSaidOfHim$Custom;", true)
  | 2 => ("SaidOfHim$Judge", "walk", "LSaidOfHim$Walk;", true)
  | 3 => ("SaidOfHim$Judge", "another", "LSaidOfHim$Another;", true)
  | 4 => ("SaidOfHim$Judge", "whole", "J", false)
  | 5 => ("SaidOfHim$Judge", "part", "J", false)
  | _ => ("SaidOfHim$Judge", "times", "J", false)
def tyX2 : Nat → FieldType := fun k => match k with
  | 0 => .object "SaidOfHim$Village"
  | 1 => .object "SaidOfHim$Custom"
  | 2 => .object "SaidOfHim$Walk"
  | 3 => .object "SaidOfHim$Another"
  | 4 => .long
  | 5 => .long
  | _ => .long
abbrev wsX20 : List Cond := u_ws RX2 TX2 7
theorem nmX2 : ∀ a, a < 7 → ∀ b, b < 7 → a ≠ b → (TX2 a).2.1 ≠ (TX2 b).2.1 := by decide +kernel
theorem tyX2_ok : ∀ k, k < 7 → parseFieldDescriptor (TX2 k).2.2.1 = some (tyX2 k) := by decide +kernel
abbrev cX2_init : ByteArray := prog_4_method_1_code
def yX2_init : MethodName := ⟨RX2, "<init>", "(LSaidOfHim$Village;LSaidOfHim$Custom;LSaidOfHim$Walk;LSaidOfHim$Another;)V"⟩
abbrev cX2_measure : ByteArray := prog_4_method_2_code
def yX2_measure : MethodName := ⟨RX2, "measure", "(I)V"⟩
abbrev cX2_compare : ByteArray := prog_4_method_3_code
def yX2_compare : MethodName := ⟨RX2, "compare", "(II)I"⟩
abbrev cX2_verdict : ByteArray := prog_4_method_4_code
def yX2_verdict : MethodName := ⟨RX2, "verdict", "(II)I"⟩
abbrev cX2_aidAtRest : ByteArray := prog_4_method_5_code
def yX2_aidAtRest : MethodName := ⟨RX2, "aidAtRest", "()I"⟩
abbrev cX2_greatestEye : ByteArray := prog_4_method_6_code
def yX2_greatestEye : MethodName := ⟨RX2, "greatestEye", "(I)I"⟩
def RX3 : String := "SaidOfHim$Reader"
def TX3 : u_T := fun k => match k with
  | 0 => ("SaidOfHim$Reader", "bytes", "[I", true)
  | 1 => ("SaidOfHim$Reader", "draft", "LSaidOfHim$Village;", true)
  | 2 => ("SaidOfHim$Reader", "size", "I", false)
  | 3 => ("SaidOfHim$Reader", "faultAt", "I", false)
  | 4 => ("SaidOfHim$Reader", "flaw", "I", false)
  | 5 => ("SaidOfHim$Reader", "place", "I", false)
  | _ => ("SaidOfHim$Reader", "told", "I", false)
def tyX3 : Nat → FieldType := fun k => match k with
  | 0 => .array .int
  | 1 => .object "SaidOfHim$Village"
  | 2 => .int
  | 3 => .int
  | 4 => .int
  | 5 => .int
  | _ => .int
abbrev wsX30 : List Cond := u_ws RX3 TX3 7
theorem nmX3 : ∀ a, a < 7 → ∀ b, b < 7 → a ≠ b → (TX3 a).2.1 ≠ (TX3 b).2.1 := by decide +kernel
theorem tyX3_ok : ∀ k, k < 7 → parseFieldDescriptor (TX3 k).2.2.1 = some (tyX3 k) := by decide +kernel
abbrev cX3_init : ByteArray := prog_5_method_1_code
def yX3_init : MethodName := ⟨RX3, "<init>", "()V"⟩
abbrev cX3_append : ByteArray := prog_5_method_2_code
def yX3_append : MethodName := ⟨RX3, "append", "(IJ)I"⟩
abbrev cX3_parse : ByteArray := prog_5_method_3_code
def yX3_parse : MethodName := ⟨RX3, "parse", "()I"⟩
abbrev cX3_takeClause : ByteArray := prog_5_method_4_code
def yX3_takeClause : MethodName := ⟨RX3, "takeClause", "()V"⟩
abbrev cX3_takeClauseWord : ByteArray := prog_5_method_5_code
def yX3_takeClauseWord : MethodName := ⟨RX3, "takeClauseWord", "()I"⟩
abbrev cX3_takeBody : ByteArray := prog_5_method_6_code
def yX3_takeBody : MethodName := ⟨RX3, "takeBody", "(I)V"⟩
abbrev cX3_takeSet : ByteArray := prog_5_method_7_code
def yX3_takeSet : MethodName := ⟨RX3, "takeSet", "(ILjava/lang/String;Ljava/lang/String;)I"⟩
abbrev cX3_takeNumber : ByteArray := prog_5_method_8_code
def yX3_takeNumber : MethodName := ⟨RX3, "takeNumber", "(I)I"⟩
abbrev cX3_takeEnd : ByteArray := prog_5_method_9_code
def yX3_takeEnd : MethodName := ⟨RX3, "takeEnd", "()V"⟩
abbrev cX3_takeWord : ByteArray := prog_5_method_10_code
def yX3_takeWord : MethodName := ⟨RX3, "takeWord", "(Ljava/lang/String;)Z"⟩
abbrev cX3_skipBlanks : ByteArray := prog_5_method_11_code
def yX3_skipBlanks : MethodName := ⟨RX3, "skipBlanks", "()V"⟩
abbrev cX3_blame : ByteArray := prog_5_method_12_code
def yX3_blame : MethodName := ⟨RX3, "blame", "(II)V"⟩
def RX4 : String := "SaidOfHim$Survey"
def TX4 : u_T := fun k => match k with
  | 0 => ("SaidOfHim$Survey", "judge", "LSaidOfHim$Judge;", true)
  | 1 => ("SaidOfHim$Survey", "aids", "[I", true)
  | 2 => ("SaidOfHim$Survey", "made", "Z", false)
  | 3 => ("SaidOfHim$Survey", "top", "I", false)
  | _ => ("SaidOfHim$Survey", "firm", "I", false)
def tyX4 : Nat → FieldType := fun k => match k with
  | 0 => .object "SaidOfHim$Judge"
  | 1 => .array .int
  | 2 => .boolean
  | 3 => .int
  | _ => .int
abbrev wsX40 : List Cond := u_ws RX4 TX4 5
theorem nmX4 : ∀ a, a < 5 → ∀ b, b < 5 → a ≠ b → (TX4 a).2.1 ≠ (TX4 b).2.1 := by decide +kernel
theorem tyX4_ok : ∀ k, k < 5 → parseFieldDescriptor (TX4 k).2.2.1 = some (tyX4 k) := by decide +kernel
abbrev cX4_init : ByteArray := prog_6_method_1_code
def yX4_init : MethodName := ⟨RX4, "<init>", "(LSaidOfHim$Judge;)V"⟩
abbrev cX4_drop : ByteArray := prog_6_method_2_code
def yX4_drop : MethodName := ⟨RX4, "drop", "()V"⟩
abbrev cX4_make : ByteArray := prog_6_method_3_code
def yX4_make : MethodName := ⟨RX4, "make", "()V"⟩
abbrev cX4_count : ByteArray := prog_6_method_4_code
def yX4_count : MethodName := ⟨RX4, "count", "(I)I"⟩
abbrev cX4_nth : ByteArray := prog_6_method_5_code
def yX4_nth : MethodName := ⟨RX4, "nth", "(II)I"⟩
abbrev cX4_mostHelped : ByteArray := prog_6_method_6_code
def yX4_mostHelped : MethodName := ⟨RX4, "mostHelped", "(I)I"⟩
abbrev cX4_plainest : ByteArray := prog_6_method_7_code
def yX4_plainest : MethodName := ⟨RX4, "plainest", "(I)I"⟩
abbrev cX4_firmest : ByteArray := prog_6_method_8_code
def yX4_firmest : MethodName := ⟨RX4, "firmest", "(I)I"⟩
abbrev cX4_countKinds : ByteArray := prog_6_method_9_code
def yX4_countKinds : MethodName := ⟨RX4, "countKinds", "(I)I"⟩
def RX5 : String := "SaidOfHim$Views"
def TX5 : u_T := fun k => match k with
  | 0 => ("SaidOfHim$Views", "good", "[I", true)
  | _ => ("SaidOfHim$Views", "kindred", "[I", true)
def tyX5 : Nat → FieldType := fun k => match k with
  | 0 => .array .int
  | _ => .array .int
abbrev wsX50 : List Cond := u_ws RX5 TX5 2
theorem nmX5 : ∀ a, a < 2 → ∀ b, b < 2 → a ≠ b → (TX5 a).2.1 ≠ (TX5 b).2.1 := by decide +kernel
theorem tyX5_ok : ∀ k, k < 2 → parseFieldDescriptor (TX5 k).2.2.1 = some (tyX5 k) := by decide +kernel
abbrev cX5_init : ByteArray := prog_7_method_1_code
def yX5_init : MethodName := ⟨RX5, "<init>", "()V"⟩
abbrev cX5_isPerson : ByteArray := prog_7_method_2_code
def yX5_isPerson : MethodName := ⟨RX5, "isPerson", "(I)Z"⟩
abbrev cX5_isSet : ByteArray := prog_7_method_3_code
def yX5_isSet : MethodName := ⟨RX5, "isSet", "(I)Z"⟩
abbrev cX5_arePair : ByteArray := prog_7_method_4_code
def yX5_arePair : MethodName := ⟨RX5, "arePair", "(II)Z"⟩
abbrev cX5_name : ByteArray := prog_7_method_5_code
def yX5_name : MethodName := ⟨RX5, "name", "(II)I"⟩
abbrev cX5_put : ByteArray := prog_7_method_6_code
def yX5_put : MethodName := ⟨RX5, "put", "(III)V"⟩
abbrev cX5_meeting : ByteArray := prog_7_method_7_code
def yX5_meeting : MethodName := ⟨RX5, "meeting", "(IIILSaidOfHim$Village;)I"⟩
abbrev cX5_setKin : ByteArray := prog_7_method_8_code
def yX5_setKin : MethodName := ⟨RX5, "setKin", "(II)I"⟩
abbrev cX5_tell : ByteArray := prog_7_method_9_code
def yX5_tell : MethodName := ⟨RX5, "tell", "(II)I"⟩
abbrev cX5_callersGood : ByteArray := prog_7_method_10_code
def yX5_callersGood : MethodName := ⟨RX5, "callersGood", "(I)I"⟩
abbrev cX5_pairsAlike : ByteArray := prog_7_method_11_code
def yX5_pairsAlike : MethodName := ⟨RX5, "pairsAlike", "()I"⟩
abbrev cX5_calledAlike : ByteArray := prog_7_method_12_code
def yX5_calledAlike : MethodName := ⟨RX5, "calledAlike", "()I"⟩
abbrev cX5_calledGood : ByteArray := prog_7_method_13_code
def yX5_calledGood : MethodName := ⟨RX5, "calledGood", "()I"⟩
abbrev cX5_clear : ByteArray := prog_7_method_14_code
def yX5_clear : MethodName := ⟨RX5, "clear", "()I"⟩
def RX6 : String := "SaidOfHim$Village"
def TX6 : u_T := fun k => match k with
  | 0 => ("SaidOfHim$Village", "cost", "I", false)
  | 1 => ("SaidOfHim$Village", "worth", "I", false)
  | 2 => ("SaidOfHim$Village", "hand", "I", false)
  | 3 => ("SaidOfHim$Village", "eye", "I", false)
  | 4 => ("SaidOfHim$Village", "fade", "I", false)
  | 5 => ("SaidOfHim$Village", "fresh", "I", false)
  | 6 => ("SaidOfHim$Village", "way", "I", false)
  | _ => ("SaidOfHim$Village", "naming", "I", false)
def tyX6 : Nat → FieldType := fun k => match k with
  | 0 => .int
  | 1 => .int
  | 2 => .int
  | 3 => .int
  | 4 => .int
  | 5 => .int
  | 6 => .int
  | _ => .int
abbrev wsX60 : List Cond := u_ws RX6 TX6 8
theorem nmX6 : ∀ a, a < 8 → ∀ b, b < 8 → a ≠ b → (TX6 a).2.1 ≠ (TX6 b).2.1 := by decide +kernel
theorem tyX6_ok : ∀ k, k < 8 → parseFieldDescriptor (TX6 k).2.2.1 = some (tyX6 k) := by decide +kernel
abbrev cX6_init : ByteArray := prog_8_method_1_code
def yX6_init : MethodName := ⟨RX6, "<init>", "()V"⟩
abbrev cX6_asAtFirst : ByteArray := prog_8_method_2_code
def yX6_asAtFirst : MethodName := ⟨RX6, "asAtFirst", "()V"⟩
abbrev cX6_become : ByteArray := prog_8_method_3_code
def yX6_become : MethodName := ⟨RX6, "become", "(LSaidOfHim$Village;)V"⟩
def RX7 : String := "SaidOfHim$Walk"
def TX7 : u_T := fun k => match k with
  | 0 => ("SaidOfHim$Walk", "path", "[I", true)
  | 1 => ("SaidOfHim$Walk", "came", "[I", true)
  | 2 => ("SaidOfHim$Walk", "lead", "I", false)
  | 3 => ("SaidOfHim$Walk", "ring", "I", false)
  | _ => ("SaidOfHim$Walk", "end", "I", false)
def tyX7 : Nat → FieldType := fun k => match k with
  | 0 => .array .int
  | 1 => .array .int
  | 2 => .int
  | 3 => .int
  | _ => .int
abbrev wsX70 : List Cond := u_ws RX7 TX7 5
theorem nmX7 : ∀ a, a < 5 → ∀ b, b < 5 → a ≠ b → (TX7 a).2.1 ≠ (TX7 b).2.1 := by decide +kernel
theorem tyX7_ok : ∀ k, k < 5 → parseFieldDescriptor (TX7 k).2.2.1 = some (tyX7 k) := by decide +kernel
abbrev cX7_init : ByteArray := prog_9_method_1_code
def yX7_init : MethodName := ⟨RX7, "<init>", "()V"⟩
abbrev cX7_go : ByteArray := prog_9_method_2_code
def yX7_go : MethodName := ⟨RX7, "go", "(LSaidOfHim$Custom;I)V"⟩
abbrev cX7_rest : ByteArray := prog_9_method_3_code
def yX7_rest : MethodName := ⟨RX7, "rest", "()I"⟩
def RX8 : String := "SaidOfHim"
def TX8 : u_T := fun k => match k with
  | 0 => ("SaidOfHim", "village", "LSaidOfHim$Village;", true)
  | 1 => ("SaidOfHim", "reader", "LSaidOfHim$Reader;", true)
  | 2 => ("SaidOfHim", "custom", "LSaidOfHim$Custom;", true)
  | 3 => ("SaidOfHim", "walk", "LSaidOfHim$Walk;", true)
  | 4 => ("SaidOfHim", "another", "LSaidOfHim$Another;", true)
  | 5 => ("SaidOfHim", "judge", "LSaidOfHim$Judge;", true)
  | 6 => ("SaidOfHim", "survey", "LSaidOfHim$Survey;", true)
  | 7 => ("SaidOfHim", "views", "LSaidOfHim$Views;", true)
  | _ => ("SaidOfHim", "least", "I", false)
def tyX8 : Nat → FieldType := fun k => match k with
  | 0 => .object "SaidOfHim$Village"
  | 1 => .object "SaidOfHim$Reader"
  | 2 => .object "SaidOfHim$Custom"
  | 3 => .object "SaidOfHim$Walk"
  | 4 => .object "SaidOfHim$Another"
  | 5 => .object "SaidOfHim$Judge"
  | 6 => .object "SaidOfHim$Survey"
  | 7 => .object "SaidOfHim$Views"
  | _ => .int
abbrev wsX80 : List Cond := u_ws RX8 TX8 9
theorem nmX8 : ∀ a, a < 9 → ∀ b, b < 9 → a ≠ b → (TX8 a).2.1 ≠ (TX8 b).2.1 := by decide +kernel
theorem tyX8_ok : ∀ k, k < 9 → parseFieldDescriptor (TX8 k).2.2.1 = some (tyX8 k) := by decide +kernel
abbrev cX8_init : ByteArray := prog_1_method_1_code
def yX8_init : MethodName := ⟨RX8, "<init>", "()V"⟩
abbrev cX8_feed : ByteArray := prog_1_method_2_code
def yX8_feed : MethodName := ⟨RX8, "feed", "(IJ)I"⟩
abbrev cX8_read : ByteArray := prog_1_method_3_code
def yX8_read : MethodName := ⟨RX8, "read", "()I"⟩
abbrev cX8_fault : ByteArray := prog_1_method_4_code
def yX8_fault : MethodName := ⟨RX8, "fault", "()I"⟩
abbrev cX8_village : ByteArray := prog_1_method_5_code
def yX8_village : MethodName := ⟨RX8, "village", "(I)I"⟩
abbrev cX8_least : ByteArray := prog_1_method_6_code
def yX8_least : MethodName := ⟨RX8, "least", "(I)I"⟩
abbrev cX8_does : ByteArray := prog_1_method_7_code
def yX8_does : MethodName := ⟨RX8, "does", "(IIII)I"⟩
abbrev cX8_step : ByteArray := prog_1_method_8_code
def yX8_step : MethodName := ⟨RX8, "step", "(II)I"⟩
abbrev cX8_from : ByteArray := prog_1_method_9_code
def yX8_from : MethodName := ⟨RX8, "from", "(III)I"⟩
abbrev cX8_helped : ByteArray := prog_1_method_10_code
def yX8_helped : MethodName := ⟨RX8, "helped", "(II)I"⟩
abbrev cX8_fit : ByteArray := prog_1_method_11_code
def yX8_fit : MethodName := ⟨RX8, "fit", "(II)I"⟩
abbrev cX8_other : ByteArray := prog_1_method_12_code
def yX8_other : MethodName := ⟨RX8, "other", "(IIII)J"⟩
abbrev cX8_gain : ByteArray := prog_1_method_13_code
def yX8_gain : MethodName := ⟨RX8, "gain", "(III)I"⟩
abbrev cX8_holds : ByteArray := prog_1_method_14_code
def yX8_holds : MethodName := ⟨RX8, "holds", "(I)I"⟩
abbrev cX8_all : ByteArray := prog_1_method_15_code
def yX8_all : MethodName := ⟨RX8, "all", "(I)I"⟩
abbrev cX8_best : ByteArray := prog_1_method_16_code
def yX8_best : MethodName := ⟨RX8, "best", "(I)I"⟩
abbrev cX8_plain : ByteArray := prog_1_method_17_code
def yX8_plain : MethodName := ⟨RX8, "plain", "(I)I"⟩
abbrev cX8_bears : ByteArray := prog_1_method_18_code
def yX8_bears : MethodName := ⟨RX8, "bears", "(I)I"⟩
abbrev cX8_turned : ByteArray := prog_1_method_19_code
def yX8_turned : MethodName := ⟨RX8, "turned", "(I)I"⟩
abbrev cX8_kinds : ByteArray := prog_1_method_20_code
def yX8_kinds : MethodName := ⟨RX8, "kinds", "()I"⟩
abbrev cX8_view : ByteArray := prog_1_method_21_code
def yX8_view : MethodName := ⟨RX8, "view", "(II)I"⟩
abbrev cX8_call : ByteArray := prog_1_method_22_code
def yX8_call : MethodName := ⟨RX8, "call", "(III)I"⟩
abbrev cX8_meet : ByteArray := prog_1_method_23_code
def yX8_meet : MethodName := ⟨RX8, "meet", "(III)I"⟩
abbrev cX8_kin : ByteArray := prog_1_method_24_code
def yX8_kin : MethodName := ⟨RX8, "kin", "(II)I"⟩
abbrev cX8_talk : ByteArray := prog_1_method_25_code
def yX8_talk : MethodName := ⟨RX8, "talk", "(II)I"⟩
abbrev cX8_agreed : ByteArray := prog_1_method_26_code
def yX8_agreed : MethodName := ⟨RX8, "agreed", "(I)I"⟩
abbrev cX8_forget : ByteArray := prog_1_method_27_code
def yX8_forget : MethodName := ⟨RX8, "forget", "()I"⟩
abbrev cX8_within : ByteArray := prog_1_method_28_code
def yX8_within : MethodName := ⟨RX8, "within", "(III)Z"⟩
abbrev cX8_isRule : ByteArray := prog_1_method_29_code
def yX8_isRule : MethodName := ⟨RX8, "isRule", "(I)Z"⟩
abbrev cX8_isWay : ByteArray := prog_1_method_30_code
def yX8_isWay : MethodName := ⟨RX8, "isWay", "(I)Z"⟩
abbrev cX8_isShare : ByteArray := prog_1_method_31_code
def yX8_isShare : MethodName := ⟨RX8, "isShare", "(I)Z"⟩
abbrev cX8_bit : ByteArray := prog_1_method_32_code
def yX8_bit : MethodName := ⟨RX8, "bit", "(II)I"⟩
abbrev cX8_wayOf : ByteArray := prog_1_method_33_code
def yX8_wayOf : MethodName := ⟨RX8, "wayOf", "(I)I"⟩
abbrev cX8_namingOf : ByteArray := prog_1_method_34_code
def yX8_namingOf : MethodName := ⟨RX8, "namingOf", "(I)I"⟩
abbrev cX8_plainness : ByteArray := prog_1_method_35_code
def yX8_plainness : MethodName := ⟨RX8, "plainness", "(I)I"⟩
abbrev cX8_hangs : ByteArray := prog_1_method_36_code
def yX8_hangs : MethodName := ⟨RX8, "hangs", "(III)I"⟩
abbrev cX8_turnedAbout : ByteArray := prog_1_method_37_code
def yX8_turnedAbout : MethodName := ⟨RX8, "turnedAbout", "(I)I"⟩
abbrev cX8_leastTerm : ByteArray := prog_1_method_38_code
def yX8_leastTerm : MethodName := ⟨RX8, "leastTerm", "(JJJ)J"⟩
def RX9 : String := "SaidOfHimModel"
def TX9 : u_T := fun k => match k with
  | 0 => ("SaidOfHimModel", "village", "[I", true)
  | 1 => ("SaidOfHimModel", "newVillage", "[I", true)
  | 2 => ("SaidOfHimModel", "least", "I", false)
  | 3 => ("SaidOfHimModel", "text", "[I", true)
  | 4 => ("SaidOfHimModel", "textSize", "I", false)
  | 5 => ("SaidOfHimModel", "at", "I", false)
  | 6 => ("SaidOfHimModel", "from", "I", false)
  | 7 => ("SaidOfHimModel", "letters", "I", false)
  | 8 => ("SaidOfHimModel", "faultOf", "I", false)
  | 9 => ("SaidOfHimModel", "place", "I", false)
  | 10 => ("SaidOfHimModel", "told", "I", false)
  | 11 => ("SaidOfHimModel", "met", "[I", true)
  | 12 => ("SaidOfHimModel", "rest", "I", false)
  | 13 => ("SaidOfHimModel", "tail", "I", false)
  | 14 => ("SaidOfHimModel", "ring", "I", false)
  | 15 => ("SaidOfHimModel", "goodUpper", "J", false)
  | 16 => ("SaidOfHimModel", "goodLower", "J", false)
  | 17 => ("SaidOfHimModel", "hasUpper", "J", false)
  | 18 => ("SaidOfHimModel", "hasLower", "J", false)
  | 19 => ("SaidOfHimModel", "isGood", "[Z", true)
  | _ => ("SaidOfHimModel", "kin", "[I", true)
def tyX9 : Nat → FieldType := fun k => match k with
  | 0 => .array .int
  | 1 => .array .int
  | 2 => .int
  | 3 => .array .int
  | 4 => .int
  | 5 => .int
  | 6 => .int
  | 7 => .int
  | 8 => .int
  | 9 => .int
  | 10 => .int
  | 11 => .array .int
  | 12 => .int
  | 13 => .int
  | 14 => .int
  | 15 => .long
  | 16 => .long
  | 17 => .long
  | 18 => .long
  | 19 => .array .boolean
  | _ => .array .int
abbrev wsX90 : List Cond := u_ws RX9 TX9 21
theorem nmX9 : ∀ a, a < 21 → ∀ b, b < 21 → a ≠ b → (TX9 a).2.1 ≠ (TX9 b).2.1 := by decide +kernel
theorem tyX9_ok : ∀ k, k < 21 → parseFieldDescriptor (TX9 k).2.2.1 = some (tyX9 k) := by decide +kernel
abbrev cX9_init : ByteArray := prog_11_method_1_code
def yX9_init : MethodName := ⟨RX9, "<init>", "()V"⟩
abbrev cX9_in : ByteArray := prog_11_method_3_code
def yX9_in : MethodName := ⟨RX9, "in", "(JJJ)Z"⟩
abbrev cX9_one : ByteArray := prog_11_method_4_code
def yX9_one : MethodName := ⟨RX9, "one", "(Z)I"⟩
abbrev cX9_atFirst : ByteArray := prog_11_method_5_code
def yX9_atFirst : MethodName := ⟨RX9, "atFirst", "(I)I"⟩
abbrev cX9_isRule : ByteArray := prog_11_method_6_code
def yX9_isRule : MethodName := ⟨RX9, "isRule", "(I)Z"⟩
abbrev cX9_isShare : ByteArray := prog_11_method_7_code
def yX9_isShare : MethodName := ⟨RX9, "isShare", "(I)Z"⟩
abbrev cX9_feed : ByteArray := prog_11_method_8_code
def yX9_feed : MethodName := ⟨RX9, "feed", "(IJ)I"⟩
abbrev cX9_here : ByteArray := prog_11_method_9_code
def yX9_here : MethodName := ⟨RX9, "here", "()I"⟩
abbrev cX9_want : ByteArray := prog_11_method_10_code
def yX9_want : MethodName := ⟨RX9, "want", "(ZII)Z"⟩
abbrev cX9_takeWord : ByteArray := prog_11_method_11_code
def yX9_takeWord : MethodName := ⟨RX9, "takeWord", "()V"⟩
abbrev cX9_isWord : ByteArray := prog_11_method_12_code
def yX9_isWord : MethodName := ⟨RX9, "isWord", "(IIIIIII)Z"⟩
abbrev cX9_takeNumber : ByteArray := prog_11_method_13_code
def yX9_takeNumber : MethodName := ⟨RX9, "takeNumber", "(II)I"⟩
abbrev cX9_kindOf : ByteArray := prog_11_method_14_code
def yX9_kindOf : MethodName := ⟨RX9, "kindOf", "()I"⟩
abbrev cX9_takeBits : ByteArray := prog_11_method_15_code
def yX9_takeBits : MethodName := ⟨RX9, "takeBits", "(IZ)I"⟩
abbrev cX9_takeFade : ByteArray := prog_11_method_16_code
def yX9_takeFade : MethodName := ⟨RX9, "takeFade", "()V"⟩
abbrev cX9_takeClause : ByteArray := prog_11_method_17_code
def yX9_takeClause : MethodName := ⟨RX9, "takeClause", "()V"⟩
abbrev cX9_read : ByteArray := prog_11_method_18_code
def yX9_read : MethodName := ⟨RX9, "read", "()I"⟩
abbrev cX9_fault : ByteArray := prog_11_method_19_code
def yX9_fault : MethodName := ⟨RX9, "fault", "()I"⟩
abbrev cX9_village : ByteArray := prog_11_method_20_code
def yX9_village : MethodName := ⟨RX9, "village", "(I)I"⟩
abbrev cX9_least : ByteArray := prog_11_method_21_code
def yX9_least : MethodName := ⟨RX9, "least", "(I)I"⟩
abbrev cX9_means : ByteArray := prog_11_method_22_code
def yX9_means : MethodName := ⟨RX9, "means", "(III)I"⟩
abbrev cX9_calls : ByteArray := prog_11_method_23_code
def yX9_calls : MethodName := ⟨RX9, "calls", "(IIII)I"⟩
abbrev cX9_isName : ByteArray := prog_11_method_24_code
def yX9_isName : MethodName := ⟨RX9, "isName", "(I)Z"⟩
abbrev cX9_does : ByteArray := prog_11_method_25_code
def yX9_does : MethodName := ⟨RX9, "does", "(IIII)I"⟩
abbrev cX9_shareOf : ByteArray := prog_11_method_26_code
def yX9_shareOf : MethodName := ⟨RX9, "shareOf", "(II)I"⟩
abbrev cX9_calledGood : ByteArray := prog_11_method_27_code
def yX9_calledGood : MethodName := ⟨RX9, "calledGood", "(IIII)I"⟩
abbrev cX9_stepOf : ByteArray := prog_11_method_28_code
def yX9_stepOf : MethodName := ⟨RX9, "stepOf", "(II)I"⟩
abbrev cX9_step : ByteArray := prog_11_method_29_code
def yX9_step : MethodName := ⟨RX9, "step", "(II)I"⟩
abbrev cX9_goFrom : ByteArray := prog_11_method_30_code
def yX9_goFrom : MethodName := ⟨RX9, "goFrom", "(II)V"⟩
abbrev cX9_from : ByteArray := prog_11_method_31_code
def yX9_from : MethodName := ⟨RX9, "from", "(III)I"⟩
abbrev cX9_helpedBy : ByteArray := prog_11_method_32_code
def yX9_helpedBy : MethodName := ⟨RX9, "helpedBy", "(II)I"⟩
abbrev cX9_helped : ByteArray := prog_11_method_33_code
def yX9_helped : MethodName := ⟨RX9, "helped", "(II)I"⟩
abbrev cX9_fit : ByteArray := prog_11_method_34_code
def yX9_fit : MethodName := ⟨RX9, "fit", "(II)I"⟩
abbrev cX9_gcd : ByteArray := prog_11_method_35_code
def yX9_gcd : MethodName := ⟨RX9, "gcd", "(JJ)J"⟩
abbrev cX9_findOther : ByteArray := prog_11_method_36_code
def yX9_findOther : MethodName := ⟨RX9, "findOther", "(III)V"⟩
abbrev cX9_other : ByteArray := prog_11_method_37_code
def yX9_other : MethodName := ⟨RX9, "other", "(IIII)J"⟩
abbrev cX9_compare : ByteArray := prog_11_method_38_code
def yX9_compare : MethodName := ⟨RX9, "compare", "(JJJJ)I"⟩
abbrev cX9_floor : ByteArray := prog_11_method_39_code
def yX9_floor : MethodName := ⟨RX9, "floor", "(JJ)J"⟩
abbrev cX9_gainOf : ByteArray := prog_11_method_40_code
def yX9_gainOf : MethodName := ⟨RX9, "gainOf", "(III)I"⟩
abbrev cX9_gain : ByteArray := prog_11_method_41_code
def yX9_gain : MethodName := ⟨RX9, "gain", "(III)I"⟩
abbrev cX9_holdsOf : ByteArray := prog_11_method_42_code
def yX9_holdsOf : MethodName := ⟨RX9, "holdsOf", "(I)I"⟩
abbrev cX9_holds : ByteArray := prog_11_method_43_code
def yX9_holds : MethodName := ⟨RX9, "holds", "(I)I"⟩
abbrev cX9_isHolding : ByteArray := prog_11_method_44_code
def yX9_isHolding : MethodName := ⟨RX9, "isHolding", "(I)Z"⟩
abbrev cX9_all : ByteArray := prog_11_method_45_code
def yX9_all : MethodName := ⟨RX9, "all", "(I)I"⟩
abbrev cX9_mostHelped : ByteArray := prog_11_method_46_code
def yX9_mostHelped : MethodName := ⟨RX9, "mostHelped", "()I"⟩
abbrev cX9_helpedAtRest : ByteArray := prog_11_method_47_code
def yX9_helpedAtRest : MethodName := ⟨RX9, "helpedAtRest", "(I)I"⟩
abbrev cX9_best : ByteArray := prog_11_method_48_code
def yX9_best : MethodName := ⟨RX9, "best", "(I)I"⟩
abbrev cX9_hangs : ByteArray := prog_11_method_49_code
def yX9_hangs : MethodName := ⟨RX9, "hangs", "(III)I"⟩
abbrev cX9_plainOf : ByteArray := prog_11_method_50_code
def yX9_plainOf : MethodName := ⟨RX9, "plainOf", "(I)I"⟩
abbrev cX9_plain : ByteArray := prog_11_method_51_code
def yX9_plain : MethodName := ⟨RX9, "plain", "(I)I"⟩
abbrev cX9_bearsOf : ByteArray := prog_11_method_52_code
def yX9_bearsOf : MethodName := ⟨RX9, "bearsOf", "(I)I"⟩
abbrev cX9_bears : ByteArray := prog_11_method_53_code
def yX9_bears : MethodName := ⟨RX9, "bears", "(I)I"⟩
abbrev cX9_turnedOf : ByteArray := prog_11_method_54_code
def yX9_turnedOf : MethodName := ⟨RX9, "turnedOf", "(I)I"⟩
abbrev cX9_turned : ByteArray := prog_11_method_55_code
def yX9_turned : MethodName := ⟨RX9, "turned", "(I)I"⟩
abbrev cX9_kinds : ByteArray := prog_11_method_56_code
def yX9_kinds : MethodName := ⟨RX9, "kinds", "()I"⟩
abbrev cX9_isPerson : ByteArray := prog_11_method_57_code
def yX9_isPerson : MethodName := ⟨RX9, "isPerson", "(I)Z"⟩
abbrev cX9_nameOf : ByteArray := prog_11_method_58_code
def yX9_nameOf : MethodName := ⟨RX9, "nameOf", "(II)I"⟩
abbrev cX9_view : ByteArray := prog_11_method_59_code
def yX9_view : MethodName := ⟨RX9, "view", "(II)I"⟩
abbrev cX9_call : ByteArray := prog_11_method_60_code
def yX9_call : MethodName := ⟨RX9, "call", "(III)I"⟩
abbrev cX9_meet : ByteArray := prog_11_method_61_code
def yX9_meet : MethodName := ⟨RX9, "meet", "(III)I"⟩
abbrev cX9_kin : ByteArray := prog_11_method_62_code
def yX9_kin : MethodName := ⟨RX9, "kin", "(II)I"⟩
abbrev cX9_talk : ByteArray := prog_11_method_63_code
def yX9_talk : MethodName := ⟨RX9, "talk", "(II)I"⟩
abbrev cX9_agreed : ByteArray := prog_11_method_64_code
def yX9_agreed : MethodName := ⟨RX9, "agreed", "(I)I"⟩
abbrev cX9_forget : ByteArray := prog_11_method_65_code
def yX9_forget : MethodName := ⟨RX9, "forget", "()I"⟩
def RJ6 : String := "java/lang/Integer"
def TJ6 : u_T := fun k => match k with
  | _ => ("", "", "", false)
def tyJ6 : Nat → FieldType := fun k => match k with
  | _ => .int
abbrev wsJ60 : List Cond := u_ws RJ6 TJ6 0
theorem nmJ6 : ∀ a, a < 0 → ∀ b, b < 0 → a ≠ b → (TJ6 a).2.1 ≠ (TJ6 b).2.1 := by decide +kernel
theorem tyJ6_ok : ∀ k, k < 0 → parseFieldDescriptor (TJ6 k).2.2.1 = some (tyJ6 k) := by decide +kernel
abbrev cJ6_bitCount_0f7a4 : ByteArray := prog_12_method_49_code
def yJ6_bitCount_0f7a4 : MethodName := ⟨RJ6, "bitCount", "(I)I"⟩
def RJ13 : String := "java/lang/Long"
def TJ13 : u_T := fun k => match k with
  | _ => ("", "", "", false)
def tyJ13 : Nat → FieldType := fun k => match k with
  | _ => .int
abbrev wsJ130 : List Cond := u_ws RJ13 TJ13 0
theorem nmJ13 : ∀ a, a < 0 → ∀ b, b < 0 → a ≠ b → (TJ13 a).2.1 ≠ (TJ13 b).2.1 := by decide +kernel
theorem tyJ13_ok : ∀ k, k < 0 → parseFieldDescriptor (TJ13 k).2.2.1 = some (tyJ13 k) := by decide +kernel
abbrev cJ13_compare_74951 : ByteArray := prog_13_method_42_code
def yJ13_compare_74951 : MethodName := ⟨RJ13, "compare", "(JJ)I"⟩
def RJ9 : String := "java/lang/Math"
def TJ9 : u_T := fun k => match k with
  | _ => ("", "", "", false)
def tyJ9 : Nat → FieldType := fun k => match k with
  | _ => .int
abbrev wsJ90 : List Cond := u_ws RJ9 TJ9 0
theorem nmJ9 : ∀ a, a < 0 → ∀ b, b < 0 → a ≠ b → (TJ9 a).2.1 ≠ (TJ9 b).2.1 := by decide +kernel
theorem tyJ9_ok : ∀ k, k < 0 → parseFieldDescriptor (TJ9 k).2.2.1 = some (tyJ9 k) := by decide +kernel
abbrev cJ9_floorDiv_f86c9 : ByteArray := prog_14_method_49_code
def yJ9_floorDiv_f86c9 : MethodName := ⟨RJ9, "floorDiv", "(JJ)J"⟩
abbrev cJ9_abs_067f4 : ByteArray := prog_14_method_61_code
def yJ9_abs_067f4 : MethodName := ⟨RJ9, "abs", "(J)J"⟩
abbrev cJ9_max_7cf53 : ByteArray := prog_14_method_65_code
def yJ9_max_7cf53 : MethodName := ⟨RJ9, "max", "(II)I"⟩
def RJ0 : String := "java/lang/String"
def TJ0 : u_T := fun k => match k with
  | _ => ("", "", "", false)
def tyJ0 : Nat → FieldType := fun k => match k with
  | _ => .int
abbrev wsJ00 : List Cond := u_ws RJ0 TJ0 0
theorem nmJ0 : ∀ a, a < 0 → ∀ b, b < 0 → a ≠ b → (TJ0 a).2.1 ≠ (TJ0 b).2.1 := by decide +kernel
theorem tyJ0_ok : ∀ k, k < 0 → parseFieldDescriptor (TJ0 k).2.2.1 = some (tyJ0 k) := by decide +kernel
abbrev cJ0_length_8abf5 : ByteArray := prog_15_method_54_code
def yJ0_length_8abf5 : MethodName := ⟨RJ0, "length", "()I"⟩
abbrev cJ0_charAt_5068e : ByteArray := prog_15_method_56_code
def yJ0_charAt_5068e : MethodName := ⟨RJ0, "charAt", "(I)C"⟩
abbrev cJ0_coder_7d493 : ByteArray := prog_15_method_152_code
def yJ0_coder_7d493 : MethodName := ⟨RJ0, "coder", "()B"⟩
abbrev cJ0_isLatin1_aae02 : ByteArray := prog_15_method_154_code
def yJ0_isLatin1_aae02 : MethodName := ⟨RJ0, "isLatin1", "()Z"⟩
abbrev cJ0_checkIndex_df160 : ByteArray := prog_15_method_155_code
def yJ0_checkIndex_df160 : MethodName := ⟨RJ0, "checkIndex", "(II)V"⟩
def RJ1 : String := "java/lang/StringLatin1"
def TJ1 : u_T := fun k => match k with
  | _ => ("", "", "", false)
def tyJ1 : Nat → FieldType := fun k => match k with
  | _ => .int
abbrev wsJ10 : List Cond := u_ws RJ1 TJ1 0
theorem nmJ1 : ∀ a, a < 0 → ∀ b, b < 0 → a ≠ b → (TJ1 a).2.1 ≠ (TJ1 b).2.1 := by decide +kernel
theorem tyJ1_ok : ∀ k, k < 0 → parseFieldDescriptor (TJ1 k).2.2.1 = some (tyJ1 k) := by decide +kernel
abbrev cJ1_charAt_3b067 : ByteArray := prog_16_method_2_code
def yJ1_charAt_3b067 : MethodName := ⟨RJ1, "charAt", "([BI)C"⟩
def RJ2 : String := "java/lang/StringUTF16"
def TJ2 : u_T := fun k => match k with
  | _ => ("", "", "", false)
def tyJ2 : Nat → FieldType := fun k => match k with
  | _ => .int
abbrev wsJ20 : List Cond := u_ws RJ2 TJ2 0
theorem nmJ2 : ∀ a, a < 0 → ∀ b, b < 0 → a ≠ b → (TJ2 a).2.1 ≠ (TJ2 b).2.1 := by decide +kernel
theorem tyJ2_ok : ∀ k, k < 0 → parseFieldDescriptor (TJ2 k).2.2.1 = some (tyJ2 k) := by decide +kernel
abbrev cJ2_getChar_3b067 : ByteArray := prog_17_method_5_code
def yJ2_getChar_3b067 : MethodName := ⟨RJ2, "getChar", "([BI)C"⟩
abbrev cJ2_length_9d52b : ByteArray := prog_17_method_6_code
def yJ2_length_9d52b : MethodName := ⟨RJ2, "length", "([B)I"⟩
abbrev cJ2_charAt_3b067 : ByteArray := prog_17_method_83_code
def yJ2_charAt_3b067 : MethodName := ⟨RJ2, "charAt", "([BI)C"⟩
abbrev cJ2_checkIndex_2214a : ByteArray := prog_17_method_91_code
def yJ2_checkIndex_2214a : MethodName := ⟨RJ2, "checkIndex", "(I[B)V"⟩
def RJ3 : String := "jdk/internal/util/Preconditions"
def TJ3 : u_T := fun k => match k with
  | _ => ("", "", "", false)
def tyJ3 : Nat → FieldType := fun k => match k with
  | _ => .int
abbrev wsJ30 : List Cond := u_ws RJ3 TJ3 0
theorem nmJ3 : ∀ a, a < 0 → ∀ b, b < 0 → a ≠ b → (TJ3 a).2.1 ≠ (TJ3 b).2.1 := by decide +kernel
theorem tyJ3_ok : ∀ k, k < 0 → parseFieldDescriptor (TJ3 k).2.2.1 = some (tyJ3 k) := by decide +kernel
abbrev cJ3_checkIndex_8e157 : ByteArray := prog_18_method_11_code
def yJ3_checkIndex_8e157 : MethodName := ⟨RJ3, "checkIndex", "(IILjava/util/function/BiFunction;)I"⟩
def RL : String := "SaidOfHimLaw"
abbrev cL_law : ByteArray := code
def yL_law : MethodName := ⟨RL, "law", "([I)Z"⟩
abbrev vwCl : List vw_C := [(RX0, TX0, 5), (RX1, TX1, 8), (RX2, TX2, 7), (RX3, TX3, 7), (RX4, TX4, 5), (RX5, TX5, 2), (RX6, TX6, 8), (RX7, TX7, 5), (RX8, TX8, 9), (RX9, TX9, 21)]
end
section
/-! bundles: the facts of a method's body, of its world; contracts; returns; calls -/
/-- the tables' words that every method is given -/
def wsU : List Cond := lw_tbl.filter goodWord
theorem in_t {w : Cond} (h : w ∈ tables_1) (hg : goodWord w = true) : w ∈ wsU := List.mem_filter.mpr ⟨List.mem_append_right _ h, hg⟩
theorem in_t1 {w : Cond} (h : w ∈ tables_1_1) (hg : goodWord w = true) : w ∈ wsU := in_t (List.mem_append_left _ h) hg
theorem in_t2 {w : Cond} (h : w ∈ tables_1_2) (hg : goodWord w = true) : w ∈ wsU := in_t (List.mem_append_right _ (List.mem_append_left _ h)) hg
theorem in_t3 {w : Cond} (h : w ∈ tables_1_3) (hg : goodWord w = true) : w ∈ wsU := in_t (List.mem_append_right _ (List.mem_append_right _ (List.mem_append_left _ h))) hg
theorem in_t4 {w : Cond} (h : w ∈ tables_1_4) (hg : goodWord w = true) : w ∈ wsU := in_t (List.mem_append_right _ (List.mem_append_right _ (List.mem_append_right _ (List.mem_append_left _ h)))) hg
theorem in_t5 {w : Cond} (h : w ∈ tables_1_5) (hg : goodWord w = true) : w ∈ wsU := in_t (List.mem_append_right _ (List.mem_append_right _ (List.mem_append_right _ (List.mem_append_right _ h)))) hg
theorem in_p1 {q : MethodName × Nat} (h : q ∈ lw_privs_1) (hg : goodWord (Cond.selects q.1.cls q.1 q.1) = true) : Cond.selects q.1.cls q.1 q.1 ∈ wsU := List.mem_filter.mpr ⟨List.mem_append_left _ (List.mem_map.mpr ⟨q, List.mem_append_left _ h, rfl⟩), hg⟩
theorem in_p2 {q : MethodName × Nat} (h : q ∈ lw_privs_2) (hg : goodWord (Cond.selects q.1.cls q.1 q.1) = true) : Cond.selects q.1.cls q.1 q.1 ∈ wsU := List.mem_filter.mpr ⟨List.mem_append_left _ (List.mem_map.mpr ⟨q, List.mem_append_right _ h, rfl⟩), hg⟩
abbrev nestT : List (String × Nat × MethodName × String) := [(RX8, 18, yX3_init, RX8), (RX8, 25, yX1_init, RX8), (RX8, 32, yX7_init, RX8), (RX8, 39, yX0_init, RX8), (RX0, 49, yX8_bit, RX8), (RX1, 18, yX8_wayOf, RX8), (RX1, 50, yX8_namingOf, RX8), (RX1, 53, yX8_bit, RX8), (RX3, 124, yX8_within, RX8), (RX3, 61, yX8_bit, RX8), (RX4, 54, yX8_plainness, RX8), (RX4, 61, yX8_turnedAbout, RX8), (RX5, 20, yX8_within, RX8), (RX5, 30, yX8_bit, RX8), (RX7, 18, yX8_isShare, RX8)]
theorem nest_in : ∀ q ∈ nestT, Cond.methodLinkNest q.1 q.2.1 q.2.2.1 q.2.2.2 ∈ lw_tbl := by decide +kernel
def Nst (U : State) : Prop := ∀ q ∈ nestT, va_Nw (.methodLinkNest q.1 q.2.1 q.2.2.1 q.2.2.2) U
theorem Nst.same {u U : State} (h : u.vm = U.vm) (hN : Nst u) : Nst U := fun q hq => va_Nw.same rfl h (hN q hq)
theorem Nst.warm {s U : State} (hW : s.WarmedH U.vm) (hN : Nst s) : Nst U := fun q hq => va_Nw.warmM hW (hN q hq)
def lenS : List Nat := [4, 5, 4, 3, 4, 3, 6, 3, 3, 4, 3, 4]
def bytS : List (List Int32) := [[99, 111, 115, 116], [119, 111, 114, 116, 104], [104, 97, 110, 100], [101, 121, 101], [102, 97, 100, 101], [119, 97, 121], [110, 97, 109, 105, 110, 103], [110, 101, 119], [110, 111, 116], [104, 101, 108, 112], [98, 97, 100], [103, 111, 111, 100]]
def idS : List Nat := [72, 78, 80, 82, 84, 86, 88, 103, 108, 110, 118, 120]
def txS : List String := ["cost", "worth", "hand", "eye", "fade", "way", "naming", "new", "not", "help", "bad", "good"]
def XP (ak av : Nat → Nat) (A : Nat → Prop) (U : State) (H : Heap) : Prop := vk_S 12 lenS bytS ak av A U H ∧ (∀ i, i < 12 → vk_R RX3 (idS.getD i 0) (txS.getD i "") (ak i) U) ∧ va_Z "java/lang/String" "COMPACT_STRINGS" "Z" (.int 1) A U H ∧ ∃ v, va_Z "jdk/internal/util/Preconditions" "SIOOBE_FORMATTER" "Ljava/util/function/BiFunction;" v A U H
def Xs (b : Bool) (ak av : Nat → Nat) (A : Nat → Prop) (U : State) (H : Heap) : Prop := b = true → XP ak av A U H
theorem Xs.pass {b : Bool} {ak av : Nat → Nat} {A B : Nat → Prop} {s U : State} {H : Heap} {locs : List Loc} (hW : s.WarmedH U.vm) (hU : U.heap = H) (hS : va_S A s.heap H locs) (hAB : ∀ q, B q → A q) (h : Xs b ak av A s s.heap) : Xs b ak av B U U.heap := by
  intro hb
  obtain ⟨h1, h2, h3, v, h4⟩ := h hb
  rw [hU]
  exact ⟨((h1.kept hS.2.1).narrow hAB).moved hW.alike, fun i hi => (h2 i hi).warm hW, ((h3.kept hS.2.1).narrow hAB).moved hW.alike, v, ((h4.kept hS.2.1).narrow hAB).moved hW.alike⟩
theorem Xs.calling {b : Bool} {ak av : Nat → Nat} {A : Nat → Prop} {U : State} {g : JFrame} {mk : MethodId} {a : Array Value} (h : Xs b ak av A U U.heap) : Xs b ak av A (U.calling g mk a) (U.calling g mk a).heap := by
  intro hb
  obtain ⟨h1, h2, h3, v, h4⟩ := h hb
  exact ⟨h1.moved (u := U) (U := U.calling g mk a) (Vm.Alike.refl U.vm), fun i hi => (h2 i hi).same rfl, h3.moved (u := U) (U := U.calling g mk a) (Vm.Alike.refl U.vm), v, h4.moved (u := U) (U := U.calling g mk a) (Vm.Alike.refl U.vm)⟩
abbrev VE : Type := va_G × List (ClassId × FieldType) × Bool × (Nat → Nat) × (Nat → Nat)
def Pre (E : VE) (vs : List Value) (w : va_W) (sz : Nat) : Array Value → State → Prop := va_Pc vs (fun U => U.heap.size = sz ∧ va_P E.1 vwCl w U.heap ∧ va_K E.1 vwCl E.2.1 U ∧ va_D (fun _ => True) w ∧ Nst U ∧ Xs E.2.2.1 E.2.2.2.1 E.2.2.2.2 (va_A w sz) U U.heap)
theorem Pre.blind {E : VE} {vs : List Value} {w : va_W} {sz : Nat} : FrameBlind (Pre E vs w sz) := by
  intro a U g mk q
  obtain ⟨q0, q1, q2, q3, q4, q5, q6⟩ := q
  exact ⟨q0, q1, q2, va_K.moved (u := U) (U := U.calling g mk a) (Vm.Alike.refl U.vm) q3, q4, q5.same rfl, q6.calling⟩
def Bd (p : Program) (m : MethodId) (c : Code) (cc : ByteArray) (nL : Nat) (s : State) (args : Array Value) (own : String) (E : VE) (A : Nat → Prop) : Prop :=
  CallFix p m c cc nL s args wsU own ∧ va_K E.1 vwCl E.2.1 s ∧ Nst s ∧ (∀ q, s.heap.size ≤ q → A q) ∧ Xs E.2.2.1 E.2.2.2.1 E.2.2.2.2 A s s.heap
def Wd (E : VE) (A : Nat → Prop) (s : State) (w : va_W) (H : Heap) (locs : List Loc) : Prop := va_P E.1 vwCl w H ∧ va_D A w ∧ va_S A s.heap H locs
def Qi (E : VE) (A : Nat → Prop) (w : va_W) (r : Int32) : Array Value → State → Outcome → State → Prop := va_Qi (fun (r' : Int32) (_ : Unit) => r' = r) (fun _ t => va_P E.1 vwCl w t.heap ∧ va_D A w) A
def Qz (E : VE) (A : Nat → Prop) (w : va_W) (r : Int32) : Array Value → State → Outcome → State → Prop := va_Qi (fun (r' : Int32) (_ : Unit) => r' = r ∧ narrow .boolean (.int r) = .int r) (fun _ t => va_P E.1 vwCl w t.heap ∧ va_D A w) A
def Ql (E : VE) (A : Nat → Prop) (w : va_W) (r : Int64) : Array Value → State → Outcome → State → Prop := va_Ql (fun (r' : Int64) (_ : Unit) => r' = r) (fun _ t => va_P E.1 vwCl w t.heap ∧ va_D A w) A
def Qv (E : VE) (A : Nat → Prop) (w : va_W) : Array Value → State → Outcome → State → Prop := va_Qv (fun (_ : Unit) => True) (fun _ t => va_P E.1 vwCl w t.heap ∧ va_D A w) A

def MtI (l : Launch) (y : MethodName) (cc : ByteArray) (nL : Nat) (rm : Room) (E : VE) (vs : List Value) (w w' : va_W) (r : Int32) : Prop := ∀ sz, Met l y (.code y cc nL (some .int) :: wsU) rm (Pre E vs w sz) (Qi E (va_A w sz) w' r) 0 0 (va_A w sz)
theorem MtI.of {l : Launch} {y : MethodName} {cc : ByteArray} {nL : Nat} {rm : Room} {E : VE} {vs : List Value} {w w' : va_W} {r : Int32} {own : String} (hy : plainName y.cls = true) (ho : y.cls = own) (hn : (lg_sl vs).length ≤ nL)
    (body : ∀ (p : Program) (e : Env) (s : State) (m : MethodId) (args : Array Value) (below : List Frame) (meth : Method) (c : Code) (A : Nat → Prop), Bd p m c cc nL s args own E A → meth.sig.returnType = (some .int) → meth.locks = false → Wd E A s w s.heap [] → ∀ ls : Array Slot, lv_has ls nL (lv_args 0 vs) → W p l e rm s m args below meth c s.heap [] 0 0 (MQ below (Qi E A w' r) args s 0 0 A) (F0 m 0 ls [])) : MtI l y cc nL rm E vs w w' r := by
  intro sz
  refine Met.ofW (cc := cc) (maxL := nL) (ret := (some .int)) hy rfl ?_
  intro p e s m args below meth c s₁ B hml hv
  obtain ⟨rfl, hsz, hP, hK, hD0, hN, hX⟩ := hv
  subst hsz
  have hts := atoms_spec B.pre
  have hb : Bd p m c cc nL s vs.toArray own E (va_A w s.heap.size) := ⟨⟨B.exec, B.bytes, hml, ho ▸ findClass_of_methodNamed B.named, fun w hw => hts w (List.mem_cons_of_mem _ hw)⟩, hK, hN, fun q h => Or.inr h, hX⟩
  have hl := lv_entry vs (n := nL) hn
  rw [lg_entry_eq]
  exact body p e s m _ below meth c _ hb B.returns B.notSynchronized ⟨hP, hD0.self, va_S.rf⟩ _ hl
def MtZ (l : Launch) (y : MethodName) (cc : ByteArray) (nL : Nat) (rm : Room) (E : VE) (vs : List Value) (w w' : va_W) (r : Int32) : Prop := ∀ sz, Met l y (.code y cc nL (some .boolean) :: wsU) rm (Pre E vs w sz) (Qz E (va_A w sz) w' r) 0 0 (va_A w sz)
theorem MtZ.of {l : Launch} {y : MethodName} {cc : ByteArray} {nL : Nat} {rm : Room} {E : VE} {vs : List Value} {w w' : va_W} {r : Int32} {own : String} (hy : plainName y.cls = true) (ho : y.cls = own) (hn : (lg_sl vs).length ≤ nL)
    (body : ∀ (p : Program) (e : Env) (s : State) (m : MethodId) (args : Array Value) (below : List Frame) (meth : Method) (c : Code) (A : Nat → Prop), Bd p m c cc nL s args own E A → meth.sig.returnType = (some .boolean) → meth.locks = false → Wd E A s w s.heap [] → ∀ ls : Array Slot, lv_has ls nL (lv_args 0 vs) → W p l e rm s m args below meth c s.heap [] 0 0 (MQ below (Qz E A w' r) args s 0 0 A) (F0 m 0 ls [])) : MtZ l y cc nL rm E vs w w' r := by
  intro sz
  refine Met.ofW (cc := cc) (maxL := nL) (ret := (some .boolean)) hy rfl ?_
  intro p e s m args below meth c s₁ B hml hv
  obtain ⟨rfl, hsz, hP, hK, hD0, hN, hX⟩ := hv
  subst hsz
  have hts := atoms_spec B.pre
  have hb : Bd p m c cc nL s vs.toArray own E (va_A w s.heap.size) := ⟨⟨B.exec, B.bytes, hml, ho ▸ findClass_of_methodNamed B.named, fun w hw => hts w (List.mem_cons_of_mem _ hw)⟩, hK, hN, fun q h => Or.inr h, hX⟩
  have hl := lv_entry vs (n := nL) hn
  rw [lg_entry_eq]
  exact body p e s m _ below meth c _ hb B.returns B.notSynchronized ⟨hP, hD0.self, va_S.rf⟩ _ hl
def MtL (l : Launch) (y : MethodName) (cc : ByteArray) (nL : Nat) (rm : Room) (E : VE) (vs : List Value) (w w' : va_W) (r : Int64) : Prop := ∀ sz, Met l y (.code y cc nL (some .long) :: wsU) rm (Pre E vs w sz) (Ql E (va_A w sz) w' r) 0 0 (va_A w sz)
theorem MtL.of {l : Launch} {y : MethodName} {cc : ByteArray} {nL : Nat} {rm : Room} {E : VE} {vs : List Value} {w w' : va_W} {r : Int64} {own : String} (hy : plainName y.cls = true) (ho : y.cls = own) (hn : (lg_sl vs).length ≤ nL)
    (body : ∀ (p : Program) (e : Env) (s : State) (m : MethodId) (args : Array Value) (below : List Frame) (meth : Method) (c : Code) (A : Nat → Prop), Bd p m c cc nL s args own E A → meth.sig.returnType = (some .long) → meth.locks = false → Wd E A s w s.heap [] → ∀ ls : Array Slot, lv_has ls nL (lv_args 0 vs) → W p l e rm s m args below meth c s.heap [] 0 0 (MQ below (Ql E A w' r) args s 0 0 A) (F0 m 0 ls [])) : MtL l y cc nL rm E vs w w' r := by
  intro sz
  refine Met.ofW (cc := cc) (maxL := nL) (ret := (some .long)) hy rfl ?_
  intro p e s m args below meth c s₁ B hml hv
  obtain ⟨rfl, hsz, hP, hK, hD0, hN, hX⟩ := hv
  subst hsz
  have hts := atoms_spec B.pre
  have hb : Bd p m c cc nL s vs.toArray own E (va_A w s.heap.size) := ⟨⟨B.exec, B.bytes, hml, ho ▸ findClass_of_methodNamed B.named, fun w hw => hts w (List.mem_cons_of_mem _ hw)⟩, hK, hN, fun q h => Or.inr h, hX⟩
  have hl := lv_entry vs (n := nL) hn
  rw [lg_entry_eq]
  exact body p e s m _ below meth c _ hb B.returns B.notSynchronized ⟨hP, hD0.self, va_S.rf⟩ _ hl
def MtV (l : Launch) (y : MethodName) (cc : ByteArray) (nL : Nat) (rm : Room) (E : VE) (vs : List Value) (w w' : va_W) : Prop := ∀ sz, Met l y (.code y cc nL none :: wsU) rm (Pre E vs w sz) (Qv E (va_A w sz) w') 0 0 (va_A w sz)
theorem MtV.of {l : Launch} {y : MethodName} {cc : ByteArray} {nL : Nat} {rm : Room} {E : VE} {vs : List Value} {w w' : va_W} {own : String} (hy : plainName y.cls = true) (ho : y.cls = own) (hn : (lg_sl vs).length ≤ nL)
    (body : ∀ (p : Program) (e : Env) (s : State) (m : MethodId) (args : Array Value) (below : List Frame) (meth : Method) (c : Code) (A : Nat → Prop), Bd p m c cc nL s args own E A → meth.sig.returnType = none → meth.locks = false → Wd E A s w s.heap [] → ∀ ls : Array Slot, lv_has ls nL (lv_args 0 vs) → W p l e rm s m args below meth c s.heap [] 0 0 (MQ below (Qv E A w') args s 0 0 A) (F0 m 0 ls [])) : MtV l y cc nL rm E vs w w' := by
  intro sz
  refine Met.ofW (cc := cc) (maxL := nL) (ret := none) hy rfl ?_
  intro p e s m args below meth c s₁ B hml hv
  obtain ⟨rfl, hsz, hP, hK, hD0, hN, hX⟩ := hv
  subst hsz
  have hts := atoms_spec B.pre
  have hb : Bd p m c cc nL s vs.toArray own E (va_A w s.heap.size) := ⟨⟨B.exec, B.bytes, hml, ho ▸ findClass_of_methodNamed B.named, fun w hw => hts w (List.mem_cons_of_mem _ hw)⟩, hK, hN, fun q h => Or.inr h, hX⟩
  have hl := lv_entry vs (n := nL) hn
  rw [lg_entry_eq]
  exact body p e s m _ below meth c _ hb B.returns B.notSynchronized ⟨hP, hD0.self, va_S.rf⟩ _ hl
section FRM
variable {p : Program} {l : Launch} {e : Env} {R : Room} {s : State} {m : MethodId} {args : Array Value} {below : List Frame} {meth : Method} {c : Code} {H : Heap} {locs : List Loc} {Q : State → Prop}
variable {cc : ByteArray} {nL pc : Nat} {ls : Array Slot} {rest st : List Value} {own : String} {E : VE} {A : Nat → Prop} {w0 w1 : va_W}
theorem retI {v : Int32} (B : Bd p m c cc nL s args own E A) (hr : meth.sig.returnType = some .int) (hk : meth.locks = false) (w : Wd E A s w0 H locs) (hdg : decode cc pc = .ok (.ireturn, 1)) : W p l e R s m args below meth c H locs 0 0 (MQ below (Qi E A w0 v) args s 0 0 A) (F0 m pc ls [.int v]) :=
  W.iret B.1.1 B.1.2.1 hr (fun t ht hW => ⟨⟨v, (), rfl, rfl, by rw [ht]; exact w.1, w.2.1⟩, w.2.2.F ht⟩) w.2.2.2.2 hdg hk
theorem retZ {v : Int32} (B : Bd p m c cc nL s args own E A) (hr : meth.sig.returnType = some .boolean) (hk : meth.locks = false) (w : Wd E A s w0 H locs) (hz : narrow .boolean (.int v) = .int v) (hdg : decode cc pc = .ok (.ireturn, 1)) : W p l e R s m args below meth c H locs 0 0 (MQ below (Qz E A w0 v) args s 0 0 A) (F0 m pc ls [.int v]) :=
  W.zret B.1.1 B.1.2.1 hr hz (fun t ht hW => ⟨⟨v, (), rfl, ⟨rfl, hz⟩, by rw [ht]; exact w.1, w.2.1⟩, w.2.2.F ht⟩) w.2.2.2.2 hdg hk
theorem retL {v : Int64} (B : Bd p m c cc nL s args own E A) (hr : meth.sig.returnType = some .long) (hk : meth.locks = false) (w : Wd E A s w0 H locs) (hdg : decode cc pc = .ok (.lreturn, 1)) : W p l e R s m args below meth c H locs 0 0 (MQ below (Ql E A w0 v) args s 0 0 A) (F0 m pc ls [.long v]) :=
  W.lret B.1.1 B.1.2.1 hr (fun t ht hW => ⟨⟨v, (), rfl, rfl, by rw [ht]; exact w.1, w.2.1⟩, w.2.2.F ht⟩) w.2.2.2.2 hdg hk
theorem retV (B : Bd p m c cc nL s args own E A) (hr : meth.sig.returnType = none) (hk : meth.locks = false) (w : Wd E A s w0 H locs) (hdg : decode cc pc = .ok (.return_, 1)) : W p l e R s m args below meth c H locs 0 0 (MQ below (Qv E A w0) args s 0 0 A) (F0 m pc ls []) :=
  W.vret B.1.1 B.1.2.1 hr (fun t ht hW => ⟨⟨(), rfl, trivial, by rw [ht]; exact w.1, w.2.1⟩, w.2.2.F ht⟩) w.2.2.2.2 hdg hk
theorem Wd.free (B : Bd p m c cc nL s args own E A) (w : Wd E A s w0 H locs) : ∀ q, va_A w0 H.size q → A q := by
  rintro q (⟨k, e, h⟩ | h)
  · exact w.2.1.2 k (q, e) h
  · exact B.2.2.2.1 q (Nat.le_trans w.2.2.1 h)
theorem Wd.free0 (B : Bd p m c cc nL s args own E A) (w : Wd E A s w0 H locs) : ∀ q, va_A [] H.size q → A q := by
  rintro q (⟨k, e, h⟩ | h)
  · simp at h
  · exact B.2.2.2.1 q (Nat.le_trans w.2.2.1 h)
theorem Wd.keep0 {H1 : Heap} {locs1 : List Loc} (w : Wd E A s w0 H locs) (hk : ∀ q : Nat, q < H.size → ¬ va_A [] H.size q → H1[q]? = H[q]?) (hS : va_S A s.heap H1 locs1) : Wd E A s w0 H1 locs1 := by
  refine ⟨w.1.kept (fun k q hq => ?_), w.2.1, hS⟩
  have hlt := (w.1 k q hq).lt
  refine hk q.1 hlt ?_
  rintro (⟨k, e, h⟩ | h)
  · simp at h
  · omega
theorem preV0 (B : Bd p m c cc nL s args own E A) (w : Wd E A s w0 H locs) (vs : List Value) : ∀ U : State, U.heap = H → s.WarmedH U.vm → Pre E vs w0 H.size vs.toArray U := fun U hU hW =>
  ⟨rfl, by rw [hU], by rw [hU]; exact w.1, va_K.moved hW.alike B.2.1, w.2.1.weaken (fun _ _ _ _ => trivial), B.2.2.1.warm hW, Xs.pass hW hU w.2.2 (Wd.free B w) B.2.2.2.2⟩
theorem preS0 (B : Bd p m c cc nL s args own E A) (w : Wd E A s w0 H locs) (vs : List Value) : ∀ U : State, U.heap = H → s.WarmedH U.vm → Pre E vs [] H.size vs.toArray U := fun U hU hW =>
  ⟨rfl, by rw [hU], fun k q h => by simp at h, va_K.moved hW.alike B.2.1, ⟨fun i j p q h => by simp at h, fun k q h => by simp at h⟩, B.2.2.1.warm hW, Xs.pass hW hU w.2.2 (Wd.free0 B w) B.2.2.2.2⟩
theorem callVI {y : MethodName} {cc' : ByteArray} {nL' idx n ci a N : Nat} {C : String} {T : u_T} {rm' : Room} {As : List Value} {r : Int32} (B : Bd p m c cc nL s args own E A) (w : Wd E A s w0 H locs) (hM : MtI l y cc' nL' rm' E (.ref a :: As) w0 w1 r) (hG : GoodIn wsU (wsV own idx C y (.code y cc' nL' (some .int) :: wsU)))
    (hd : y.cls = C ∧ y.cls ≠ "java/lang/invoke/MethodHandle" ∧ y.cls ≠ "java/lang/invoke/VarHandle" ∧ (parseMethodDescriptor y.desc).map (fun d => d.parameters.length) = some n) (k : Nat) {fs : List Value} (hk : w0[k]? = some (a, .inr (ci, fs))) (hc : vwCl[ci]? = some (C, T, N)) (hrc : rm'.cells = 0) (hrs : rm'.slots = 0)
    (hR : rm'.frames + 1 ≤ R.frames ∧ 8 + (nL' + 11) + rm'.locals ≤ R.locals) (hn : As.length = n) (hls : ls.size = nL) (hst : st = As.reverse ++ .ref a :: rest) (hrm : (rest.map fun v => v.category).sum ≤ 8) (hdg : decode cc pc = .ok (.invokevirtual idx, 3))
    (kk : ∀ (H1 : Heap) (locs1 : List Loc), Wd E A s w1 H1 locs1 → W p l e R s m args below meth c H1 locs1 0 0 Q (F0 m (pc + 3) ls (.int r :: rest))) : W p l e R s m args below meth c H locs 0 0 Q (F0 m pc ls st) := by
  subst hst
  have hFc := Wd.free B w
  refine va_calli (va_runV (As := As) (rest := rest) B.1 (hM H.size) (cwV n B.1.2.2.2.2 hG rfl hrc hrs hd hR) ⟨Pre.blind, va_recv B.2.1 w.1 hc hk, preV0 B w _⟩ rfl hn hls rfl (lv_room hrm) hdg ⟨Nat.zero_le _, Nat.zero_le _⟩) w.2.2 (fun q _ h => hFc q h) hFc (fun r' u t H1 locs1 ht hvm hw hB hz1 hk1 hS => ?_)
  subst hw
  obtain ⟨hP1, hD1⟩ := hB
  rw [ht] at hP1
  exact kk H1 locs1 ⟨hP1, hD1.weaken (fun _ q _ h => hFc q.1 h), hS⟩
theorem callSI {y : MethodName} {cc' : ByteArray} {nL' idx n : Nat} {rm' : Room} {As : List Value} {r : Int32} (B : Bd p m c cc nL s args own E A) (w : Wd E A s w0 H locs) (hM : MtI l y cc' nL' rm' E As [] [] r) (hG : GoodIn wsU (va_wsS own idx y (.code y cc' nL' (some .int) :: wsU)))
    (hd : y.cls ≠ "java/lang/invoke/MethodHandle" ∧ y.cls ≠ "java/lang/invoke/VarHandle" ∧ (parseMethodDescriptor y.desc).map (fun d => d.parameters.length) = some n) (hrc : rm'.cells = 0) (hrs : rm'.slots = 0)
    (hR : rm'.frames + 1 ≤ R.frames ∧ 8 + (nL' + 11) + rm'.locals ≤ R.locals) (hn : As.length = n) (hls : ls.size = nL) (hst : st = As.reverse ++ rest) (hrm : (rest.map fun v => v.category).sum ≤ 8) (hdg : decode cc pc = .ok (.invokestatic idx, 3))
    (kk : ∀ (H1 : Heap) (locs1 : List Loc), Wd E A s w0 H1 locs1 → W p l e R s m args below meth c H1 locs1 0 0 Q (F0 m (pc + 3) ls (.int r :: rest))) : W p l e R s m args below meth c H locs 0 0 Q (F0 m pc ls st) := by
  subst hst
  have hFc := Wd.free0 B w
  refine va_calli (va_runS (As := As) (rest := rest) B.1 (hM H.size) (va_cwS n B.1.2.2.2.2 hG rfl hrc hrs hd hR) ⟨Pre.blind, preS0 B w _⟩ rfl hn hls rfl (lv_room hrm) hdg ⟨Nat.zero_le _, Nat.zero_le _⟩) w.2.2 (fun q _ h => hFc q h) hFc (fun r' u t H1 locs1 ht hvm hw hB hz1 hk1 hS => ?_)
  subst hw
  exact kk H1 locs1 (w.keep0 hk1 hS)
theorem callNI {y : MethodName} {cc' : ByteArray} {nL' idx n : Nat} {rm' : Room} {As : List Value} {r : Int32} (B : Bd p m c cc nL s args own E A) (w : Wd E A s w0 H locs) (hM : MtI l y cc' nL' rm' E As [] [] r) (hG : GoodIn wsU (.code y cc' nL' (some .int) :: wsU)) (hN : (own, idx, y, RX8) ∈ nestT) (hini : Cond.initialized y.cls ∈ wsU) (hstt : Cond.static y ∈ wsU)
    (hd : y.cls ≠ "java/lang/invoke/MethodHandle" ∧ y.cls ≠ "java/lang/invoke/VarHandle" ∧ (parseMethodDescriptor y.desc).map (fun d => d.parameters.length) = some n) (hrc : rm'.cells = 0) (hrs : rm'.slots = 0)
    (hR : rm'.frames + 1 ≤ R.frames ∧ 8 + (nL' + 11) + rm'.locals ≤ R.locals) (hn : As.length = n) (hls : ls.size = nL) (hst : st = As.reverse ++ rest) (hrm : (rest.map fun v => v.category).sum ≤ 8) (hdg : decode cc pc = .ok (.invokestatic idx, 3))
    (kk : ∀ (H1 : Heap) (locs1 : List Loc), Wd E A s w0 H1 locs1 → W p l e R s m args below meth c H1 locs1 0 0 Q (F0 m (pc + 3) ls (.int r :: rest))) : W p l e R s m args below meth c H locs 0 0 Q (F0 m pc ls st) := by
  subst hst
  have hFc := Wd.free0 B w
  refine va_calli (va_runSN (As := As) (rest := rest) B.1 (hM H.size) ⟨va_cnB n B.1.2.2.2.2 hG rfl hrc hrs (B.2.2.1 _ hN) (B.1.2.2.2.2 _ hini) hd hR, B.1.2.2.2.2 _ hstt, trivial⟩ ⟨Pre.blind, preS0 B w _⟩ rfl hn hls rfl (lv_room hrm) hdg ⟨Nat.zero_le _, Nat.zero_le _⟩) w.2.2 (fun q _ h => hFc q h) hFc (fun r' u t H1 locs1 ht hvm hw hB hz1 hk1 hS => ?_)
  subst hw
  exact kk H1 locs1 (w.keep0 hk1 hS)
theorem callVZ {y : MethodName} {cc' : ByteArray} {nL' idx n ci a N : Nat} {C : String} {T : u_T} {rm' : Room} {As : List Value} {r : Int32} (B : Bd p m c cc nL s args own E A) (w : Wd E A s w0 H locs) (hM : MtZ l y cc' nL' rm' E (.ref a :: As) w0 w1 r) (hG : GoodIn wsU (wsV own idx C y (.code y cc' nL' (some .boolean) :: wsU)))
    (hd : y.cls = C ∧ y.cls ≠ "java/lang/invoke/MethodHandle" ∧ y.cls ≠ "java/lang/invoke/VarHandle" ∧ (parseMethodDescriptor y.desc).map (fun d => d.parameters.length) = some n) (k : Nat) {fs : List Value} (hk : w0[k]? = some (a, .inr (ci, fs))) (hc : vwCl[ci]? = some (C, T, N)) (hrc : rm'.cells = 0) (hrs : rm'.slots = 0)
    (hR : rm'.frames + 1 ≤ R.frames ∧ 8 + (nL' + 11) + rm'.locals ≤ R.locals) (hn : As.length = n) (hls : ls.size = nL) (hst : st = As.reverse ++ .ref a :: rest) (hrm : (rest.map fun v => v.category).sum ≤ 8) (hdg : decode cc pc = .ok (.invokevirtual idx, 3))
    (kk : ∀ (H1 : Heap) (locs1 : List Loc), Wd E A s w1 H1 locs1 → narrow .boolean (.int r) = .int r → W p l e R s m args below meth c H1 locs1 0 0 Q (F0 m (pc + 3) ls (.int r :: rest))) : W p l e R s m args below meth c H locs 0 0 Q (F0 m pc ls st) := by
  subst hst
  have hFc := Wd.free B w
  refine va_calli (va_runV (As := As) (rest := rest) B.1 (hM H.size) (cwV n B.1.2.2.2.2 hG rfl hrc hrs hd hR) ⟨Pre.blind, va_recv B.2.1 w.1 hc hk, preV0 B w _⟩ rfl hn hls rfl (lv_room hrm) hdg ⟨Nat.zero_le _, Nat.zero_le _⟩) w.2.2 (fun q _ h => hFc q h) hFc (fun r' u t H1 locs1 ht hvm hw hB hz1 hk1 hS => ?_)
  obtain ⟨rfl, hz⟩ := hw
  obtain ⟨hP1, hD1⟩ := hB
  rw [ht] at hP1
  exact kk H1 locs1 ⟨hP1, hD1.weaken (fun _ q _ h => hFc q.1 h), hS⟩ hz
theorem callSZ {y : MethodName} {cc' : ByteArray} {nL' idx n : Nat} {rm' : Room} {As : List Value} {r : Int32} (B : Bd p m c cc nL s args own E A) (w : Wd E A s w0 H locs) (hM : MtZ l y cc' nL' rm' E As [] [] r) (hG : GoodIn wsU (va_wsS own idx y (.code y cc' nL' (some .boolean) :: wsU)))
    (hd : y.cls ≠ "java/lang/invoke/MethodHandle" ∧ y.cls ≠ "java/lang/invoke/VarHandle" ∧ (parseMethodDescriptor y.desc).map (fun d => d.parameters.length) = some n) (hrc : rm'.cells = 0) (hrs : rm'.slots = 0)
    (hR : rm'.frames + 1 ≤ R.frames ∧ 8 + (nL' + 11) + rm'.locals ≤ R.locals) (hn : As.length = n) (hls : ls.size = nL) (hst : st = As.reverse ++ rest) (hrm : (rest.map fun v => v.category).sum ≤ 8) (hdg : decode cc pc = .ok (.invokestatic idx, 3))
    (kk : ∀ (H1 : Heap) (locs1 : List Loc), Wd E A s w0 H1 locs1 → narrow .boolean (.int r) = .int r → W p l e R s m args below meth c H1 locs1 0 0 Q (F0 m (pc + 3) ls (.int r :: rest))) : W p l e R s m args below meth c H locs 0 0 Q (F0 m pc ls st) := by
  subst hst
  have hFc := Wd.free0 B w
  refine va_calli (va_runS (As := As) (rest := rest) B.1 (hM H.size) (va_cwS n B.1.2.2.2.2 hG rfl hrc hrs hd hR) ⟨Pre.blind, preS0 B w _⟩ rfl hn hls rfl (lv_room hrm) hdg ⟨Nat.zero_le _, Nat.zero_le _⟩) w.2.2 (fun q _ h => hFc q h) hFc (fun r' u t H1 locs1 ht hvm hw hB hz1 hk1 hS => ?_)
  obtain ⟨rfl, hz⟩ := hw
  exact kk H1 locs1 (w.keep0 hk1 hS) hz
theorem callNZ {y : MethodName} {cc' : ByteArray} {nL' idx n : Nat} {rm' : Room} {As : List Value} {r : Int32} (B : Bd p m c cc nL s args own E A) (w : Wd E A s w0 H locs) (hM : MtZ l y cc' nL' rm' E As [] [] r) (hG : GoodIn wsU (.code y cc' nL' (some .boolean) :: wsU)) (hN : (own, idx, y, RX8) ∈ nestT) (hini : Cond.initialized y.cls ∈ wsU) (hstt : Cond.static y ∈ wsU)
    (hd : y.cls ≠ "java/lang/invoke/MethodHandle" ∧ y.cls ≠ "java/lang/invoke/VarHandle" ∧ (parseMethodDescriptor y.desc).map (fun d => d.parameters.length) = some n) (hrc : rm'.cells = 0) (hrs : rm'.slots = 0)
    (hR : rm'.frames + 1 ≤ R.frames ∧ 8 + (nL' + 11) + rm'.locals ≤ R.locals) (hn : As.length = n) (hls : ls.size = nL) (hst : st = As.reverse ++ rest) (hrm : (rest.map fun v => v.category).sum ≤ 8) (hdg : decode cc pc = .ok (.invokestatic idx, 3))
    (kk : ∀ (H1 : Heap) (locs1 : List Loc), Wd E A s w0 H1 locs1 → narrow .boolean (.int r) = .int r → W p l e R s m args below meth c H1 locs1 0 0 Q (F0 m (pc + 3) ls (.int r :: rest))) : W p l e R s m args below meth c H locs 0 0 Q (F0 m pc ls st) := by
  subst hst
  have hFc := Wd.free0 B w
  refine va_calli (va_runSN (As := As) (rest := rest) B.1 (hM H.size) ⟨va_cnB n B.1.2.2.2.2 hG rfl hrc hrs (B.2.2.1 _ hN) (B.1.2.2.2.2 _ hini) hd hR, B.1.2.2.2.2 _ hstt, trivial⟩ ⟨Pre.blind, preS0 B w _⟩ rfl hn hls rfl (lv_room hrm) hdg ⟨Nat.zero_le _, Nat.zero_le _⟩) w.2.2 (fun q _ h => hFc q h) hFc (fun r' u t H1 locs1 ht hvm hw hB hz1 hk1 hS => ?_)
  obtain ⟨rfl, hz⟩ := hw
  exact kk H1 locs1 (w.keep0 hk1 hS) hz
theorem callVL {y : MethodName} {cc' : ByteArray} {nL' idx n ci a N : Nat} {C : String} {T : u_T} {rm' : Room} {As : List Value} {r : Int64} (B : Bd p m c cc nL s args own E A) (w : Wd E A s w0 H locs) (hM : MtL l y cc' nL' rm' E (.ref a :: As) w0 w1 r) (hG : GoodIn wsU (wsV own idx C y (.code y cc' nL' (some .long) :: wsU)))
    (hd : y.cls = C ∧ y.cls ≠ "java/lang/invoke/MethodHandle" ∧ y.cls ≠ "java/lang/invoke/VarHandle" ∧ (parseMethodDescriptor y.desc).map (fun d => d.parameters.length) = some n) (k : Nat) {fs : List Value} (hk : w0[k]? = some (a, .inr (ci, fs))) (hc : vwCl[ci]? = some (C, T, N)) (hrc : rm'.cells = 0) (hrs : rm'.slots = 0)
    (hR : rm'.frames + 1 ≤ R.frames ∧ 8 + (nL' + 11) + rm'.locals ≤ R.locals) (hn : As.length = n) (hls : ls.size = nL) (hst : st = As.reverse ++ .ref a :: rest) (hrm : (rest.map fun v => v.category).sum ≤ 8) (hdg : decode cc pc = .ok (.invokevirtual idx, 3))
    (kk : ∀ (H1 : Heap) (locs1 : List Loc), Wd E A s w1 H1 locs1 → W p l e R s m args below meth c H1 locs1 0 0 Q (F0 m (pc + 3) ls (.long r :: rest))) : W p l e R s m args below meth c H locs 0 0 Q (F0 m pc ls st) := by
  subst hst
  have hFc := Wd.free B w
  refine va_calll (va_runV (As := As) (rest := rest) B.1 (hM H.size) (cwV n B.1.2.2.2.2 hG rfl hrc hrs hd hR) ⟨Pre.blind, va_recv B.2.1 w.1 hc hk, preV0 B w _⟩ rfl hn hls rfl (lv_room hrm) hdg ⟨Nat.zero_le _, Nat.zero_le _⟩) w.2.2 (fun q _ h => hFc q h) hFc (fun r' u t H1 locs1 ht hvm hw hB hz1 hk1 hS => ?_)
  subst hw
  obtain ⟨hP1, hD1⟩ := hB
  rw [ht] at hP1
  exact kk H1 locs1 ⟨hP1, hD1.weaken (fun _ q _ h => hFc q.1 h), hS⟩
theorem callSL {y : MethodName} {cc' : ByteArray} {nL' idx n : Nat} {rm' : Room} {As : List Value} {r : Int64} (B : Bd p m c cc nL s args own E A) (w : Wd E A s w0 H locs) (hM : MtL l y cc' nL' rm' E As [] [] r) (hG : GoodIn wsU (va_wsS own idx y (.code y cc' nL' (some .long) :: wsU)))
    (hd : y.cls ≠ "java/lang/invoke/MethodHandle" ∧ y.cls ≠ "java/lang/invoke/VarHandle" ∧ (parseMethodDescriptor y.desc).map (fun d => d.parameters.length) = some n) (hrc : rm'.cells = 0) (hrs : rm'.slots = 0)
    (hR : rm'.frames + 1 ≤ R.frames ∧ 8 + (nL' + 11) + rm'.locals ≤ R.locals) (hn : As.length = n) (hls : ls.size = nL) (hst : st = As.reverse ++ rest) (hrm : (rest.map fun v => v.category).sum ≤ 8) (hdg : decode cc pc = .ok (.invokestatic idx, 3))
    (kk : ∀ (H1 : Heap) (locs1 : List Loc), Wd E A s w0 H1 locs1 → W p l e R s m args below meth c H1 locs1 0 0 Q (F0 m (pc + 3) ls (.long r :: rest))) : W p l e R s m args below meth c H locs 0 0 Q (F0 m pc ls st) := by
  subst hst
  have hFc := Wd.free0 B w
  refine va_calll (va_runS (As := As) (rest := rest) B.1 (hM H.size) (va_cwS n B.1.2.2.2.2 hG rfl hrc hrs hd hR) ⟨Pre.blind, preS0 B w _⟩ rfl hn hls rfl (lv_room hrm) hdg ⟨Nat.zero_le _, Nat.zero_le _⟩) w.2.2 (fun q _ h => hFc q h) hFc (fun r' u t H1 locs1 ht hvm hw hB hz1 hk1 hS => ?_)
  subst hw
  exact kk H1 locs1 (w.keep0 hk1 hS)
theorem callNL {y : MethodName} {cc' : ByteArray} {nL' idx n : Nat} {rm' : Room} {As : List Value} {r : Int64} (B : Bd p m c cc nL s args own E A) (w : Wd E A s w0 H locs) (hM : MtL l y cc' nL' rm' E As [] [] r) (hG : GoodIn wsU (.code y cc' nL' (some .long) :: wsU)) (hN : (own, idx, y, RX8) ∈ nestT) (hini : Cond.initialized y.cls ∈ wsU) (hstt : Cond.static y ∈ wsU)
    (hd : y.cls ≠ "java/lang/invoke/MethodHandle" ∧ y.cls ≠ "java/lang/invoke/VarHandle" ∧ (parseMethodDescriptor y.desc).map (fun d => d.parameters.length) = some n) (hrc : rm'.cells = 0) (hrs : rm'.slots = 0)
    (hR : rm'.frames + 1 ≤ R.frames ∧ 8 + (nL' + 11) + rm'.locals ≤ R.locals) (hn : As.length = n) (hls : ls.size = nL) (hst : st = As.reverse ++ rest) (hrm : (rest.map fun v => v.category).sum ≤ 8) (hdg : decode cc pc = .ok (.invokestatic idx, 3))
    (kk : ∀ (H1 : Heap) (locs1 : List Loc), Wd E A s w0 H1 locs1 → W p l e R s m args below meth c H1 locs1 0 0 Q (F0 m (pc + 3) ls (.long r :: rest))) : W p l e R s m args below meth c H locs 0 0 Q (F0 m pc ls st) := by
  subst hst
  have hFc := Wd.free0 B w
  refine va_calll (va_runSN (As := As) (rest := rest) B.1 (hM H.size) ⟨va_cnB n B.1.2.2.2.2 hG rfl hrc hrs (B.2.2.1 _ hN) (B.1.2.2.2.2 _ hini) hd hR, B.1.2.2.2.2 _ hstt, trivial⟩ ⟨Pre.blind, preS0 B w _⟩ rfl hn hls rfl (lv_room hrm) hdg ⟨Nat.zero_le _, Nat.zero_le _⟩) w.2.2 (fun q _ h => hFc q h) hFc (fun r' u t H1 locs1 ht hvm hw hB hz1 hk1 hS => ?_)
  subst hw
  exact kk H1 locs1 (w.keep0 hk1 hS)
theorem callVV {y : MethodName} {cc' : ByteArray} {nL' idx n ci a N : Nat} {C : String} {T : u_T} {rm' : Room} {As : List Value} (B : Bd p m c cc nL s args own E A) (w : Wd E A s w0 H locs) (hM : MtV l y cc' nL' rm' E (.ref a :: As) w0 w1) (hG : GoodIn wsU (wsV own idx C y (.code y cc' nL' none :: wsU)))
    (hd : y.cls = C ∧ y.cls ≠ "java/lang/invoke/MethodHandle" ∧ y.cls ≠ "java/lang/invoke/VarHandle" ∧ (parseMethodDescriptor y.desc).map (fun d => d.parameters.length) = some n) (k : Nat) {fs : List Value} (hk : w0[k]? = some (a, .inr (ci, fs))) (hc : vwCl[ci]? = some (C, T, N)) (hrc : rm'.cells = 0) (hrs : rm'.slots = 0)
    (hR : rm'.frames + 1 ≤ R.frames ∧ 8 + (nL' + 11) + rm'.locals ≤ R.locals) (hn : As.length = n) (hls : ls.size = nL) (hst : st = As.reverse ++ .ref a :: rest) (hrm : (rest.map fun v => v.category).sum ≤ 8) (hdg : decode cc pc = .ok (.invokevirtual idx, 3))
    (kk : ∀ (H1 : Heap) (locs1 : List Loc), Wd E A s w1 H1 locs1 → W p l e R s m args below meth c H1 locs1 0 0 Q (F0 m (pc + 3) ls rest)) : W p l e R s m args below meth c H locs 0 0 Q (F0 m pc ls st) := by
  subst hst
  have hFc := Wd.free B w
  refine va_callv (va_runV (As := As) (rest := rest) B.1 (hM H.size) (cwV n B.1.2.2.2.2 hG rfl hrc hrs hd hR) ⟨Pre.blind, va_recv B.2.1 w.1 hc hk, preV0 B w _⟩ rfl hn hls rfl (lv_room hrm) hdg ⟨Nat.zero_le _, Nat.zero_le _⟩) w.2.2 (fun q _ h => hFc q h) hFc (fun u t H1 locs1 ht hvm hw hB hz1 hk1 hS => ?_)
  obtain ⟨hP1, hD1⟩ := hB
  rw [ht] at hP1
  exact kk H1 locs1 ⟨hP1, hD1.weaken (fun _ q _ h => hFc q.1 h), hS⟩
end FRM
theorem wsU_good : GoodIn wsU wsU := fun w h => ⟨h, good_of_word (List.mem_filter.mp h).2⟩
theorem gN {b : Cond} (hb : b ∈ wsU) : GoodIn wsU (b :: wsU) := fun w h => by
  rcases List.mem_cons.mp h with rfl | h
  · exact wsU_good _ hb
  · exact wsU_good w h
theorem gV {own C : String} {idx : Nat} {y : MethodName} {b : Cond} (h1 : Cond.methodLink own idx y ∈ wsU) (h2 : Cond.instanceMethod y ∈ wsU) (h3 : Cond.selects C y y ∈ wsU) (h4 : Cond.initialized C ∈ wsU) (hb : b ∈ wsU) : GoodIn wsU (wsV own idx C y (b :: wsU)) := fun w h => by
  rcases List.mem_append.mp h with h | h
  · simp only [List.mem_cons, List.not_mem_nil, or_false] at h
    rcases h with rfl | rfl | rfl | rfl
    · exact wsU_good _ h1
    · exact wsU_good _ h2
    · exact wsU_good _ h3
    · exact wsU_good _ h4
  · exact gN hb w h
theorem gS {own : String} {idx : Nat} {y : MethodName} {b : Cond} (h1 : Cond.methodLink own idx y ∈ wsU) (h2 : Cond.static y ∈ wsU) (h4 : Cond.initialized y.cls ∈ wsU) (hb : b ∈ wsU) : GoodIn wsU (va_wsS own idx y (b :: wsU)) := fun w h => by
  rcases List.mem_append.mp h with h | h
  · simp only [List.mem_cons, List.not_mem_nil, or_false] at h
    rcases h with rfl | rfl | rfl
    · exact wsU_good _ h1
    · exact wsU_good _ h2
    · exact wsU_good _ h4
  · exact gN hb w h
def bindv {α : Type} {β : Type} (x : α) (f : α → β) : β := f x
theorem bindv_eq {α β : Type} {x : α} {f : α → β} {r : β} (h : bindv x f = r) (y : α) (e : y = x) : f y = r := by rw [e]; exact h
def updA (ar : Nat → Nat → Int32) (k : Nat) (f : Nat → Int32) : Nat → Nat → Int32 := fun j => if j = k then f else ar j
end
section
theorem if_t {α : Type} {c : Prop} {i : Decidable c} {a b r : α} (h : (@ite α c i a b) = r) (hc : c) : a = r := by rw [if_pos hc] at h; exact h
theorem if_f {α : Type} {c : Prop} {i : Decidable c} {a b r : α} (h : (@ite α c i a b) = r) (hc : ¬ c) : b = r := by rw [if_neg hc] at h; exact h
def gd {α : Type} (i : Int32) (n : Nat) (o : Option α) : Option α := if i < 0 ∨ n ≤ i.toNatClampNeg then none else o
theorem gd_eq {α : Type} {i : Int32} {n : Nat} {o : Option α} {r : α} (h : gd i n o = some r) : vp_in i n ∧ o = some r := by
  unfold gd at h
  by_cases hc : i < 0 ∨ n ≤ i.toNatClampNeg
  · rw [if_pos hc] at h; cases h
  · rw [if_neg hc] at h; exact ⟨hc, h⟩
theorem gd_in {α : Type} {i : Int32} {n : Nat} {o : Option α} (h : vp_in i n) : gd i n o = o := if_neg h
def dvI {α : Type} (y : Int32) (o : Option α) : Option α := if y = 0 then none else o
theorem dvI_eq {α : Type} {y : Int32} {o : Option α} {r : α} (h : dvI y o = some r) : ¬ y = 0 ∧ o = some r := by
  unfold dvI at h
  by_cases hc : y = 0
  · rw [if_pos hc] at h; cases h
  · rw [if_neg hc] at h; exact ⟨hc, h⟩
def dvL {α : Type} (y : Int64) (o : Option α) : Option α := if y = 0 then none else o
theorem dvL_eq {α : Type} {y : Int64} {o : Option α} {r : α} (h : dvL y o = some r) : ¬ y = 0 ∧ o = some r := by
  unfold dvL at h
  by_cases hc : y = 0
  · rw [if_pos hc] at h; cases h
  · rw [if_neg hc] at h; exact ⟨hc, h⟩
def bz {α : Type} (v : Int32) (o : Option α) : Option α := if v = 0 ∨ v = 1 then o else none
theorem bz_eq {α : Type} {v : Int32} {o : Option α} {r : α} (h : bz v o = some r) : narrow .boolean (.int v) = .int v ∧ o = some r := by
  unfold bz at h
  by_cases hc : v = 0 ∨ v = 1
  · rw [if_pos hc] at h
    refine ⟨?_, h⟩
    rcases hc with rfl | rfl <;> rfl
  · rw [if_neg hc] at h; cases h
def bind0 {β : Type} (o : Option Unit) (f : Unit → Option β) : Option β := o.bind f
theorem bind0_eq {β : Type} {o : Option Unit} {f : Unit → Option β} {r : β} (h : bind0 o f = some r) : o = some () ∧ f () = some r := by
  cases o with
  | none => cases h
  | some a => exact ⟨rfl, h⟩
def bind1 {α β : Type} (o : Option α) (f : α → Option β) : Option β := o.bind f
theorem bind1_eq {α β : Type} {o : Option α} {f : α → Option β} {r : β} (h : bind1 o f = some r) : ∃ a, o = some a ∧ f a = some r := by
  cases o with
  | none => cases h
  | some a => exact ⟨a, rfl, h⟩
def bind2 {α β γ : Type} (o : Option (α × β)) (f : α → β → Option γ) : Option γ := o.bind (fun q => f q.1 q.2)
theorem bind2_eq {α β γ : Type} {o : Option (α × β)} {f : α → β → Option γ} {r : γ} (h : bind2 o f = some r) : ∃ a b, o = some (a, b) ∧ f a b = some r := by
  cases o with
  | none => cases h
  | some a => exact ⟨a.1, a.2, rfl, h⟩
def bind3 {α β γ δ : Type} (o : Option (α × β × γ)) (f : α → β → γ → Option δ) : Option δ := o.bind (fun q => f q.1 q.2.1 q.2.2)
theorem bind3_eq {α β γ δ : Type} {o : Option (α × β × γ)} {f : α → β → γ → Option δ} {r : δ} (h : bind3 o f = some r) : ∃ a b c, o = some (a, b, c) ∧ f a b c = some r := by
  cases o with
  | none => cases h
  | some a => exact ⟨a.1, a.2.1, a.2.2, rfl, h⟩
def bind4 {α β γ δ ε : Type} (o : Option (α × β × γ × δ)) (f : α → β → γ → δ → Option ε) : Option ε := o.bind (fun q => f q.1 q.2.1 q.2.2.1 q.2.2.2)
theorem bind4_eq {α β γ δ ε : Type} {o : Option (α × β × γ × δ)} {f : α → β → γ → δ → Option ε} {r : ε} (h : bind4 o f = some r) : ∃ a b c d, o = some (a, b, c, d) ∧ f a b c d = some r := by
  cases o with
  | none => cases h
  | some a => exact ⟨a.1, a.2.1, a.2.2.1, a.2.2.2, rfl, h⟩
def wC (ad : Nat → Nat) (ca : Nat → ClassId) (fi : Nat → Int32) (fl : Nat → Int64) (ar : Nat → Nat → Int32) : va_W := [(ad 0, .inr (8, [.ref (ad 1), .ref (ad 2), .ref (ad 5), .ref (ad 8), .ref (ad 11), .ref (ad 12), .ref (ad 13), .ref (ad 15), .int (fi 0)])), (ad 1, .inr (6, [.int (fi 1), .int (fi 2), .int (fi 3), .int (fi 4), .int (fi 5), .int (fi 6), .int (fi 7), .int (fi 8)])), (ad 2, .inr (3, [.ref (ad 3), .ref (ad 4), .int (fi 9), .int (fi 10), .int (fi 11), .int (fi 12), .int (fi 13)])), (ad 3, .inl (ca 3, 120, .inl (ar 3))), (ad 4, .inr (6, [.int (fi 14), .int (fi 15), .int (fi 16), .int (fi 17), .int (fi 18), .int (fi 19), .int (fi 20), .int (fi 21)])), (ad 5, .inr (1, [.ref (ad 6), .ref (ad 7), .int (fi 22), .int (fi 23), .int (fi 24), .int (fi 25), .int (fi 26), .int (fi 27)])), (ad 6, .inl (ca 6, 8, .inl (ar 6))), (ad 7, .inl (ca 7, 4, .inl (ar 7))), (ad 8, .inr (7, [.ref (ad 9), .ref (ad 10), .int (fi 28), .int (fi 29), .int (fi 30)])), (ad 9, .inl (ca 9, 1001, .inl (ar 9))), (ad 10, .inl (ca 10, 1001, .inl (ar 10))), (ad 11, .inr (0, [.long (fl 0), .long (fl 1), .long (fl 2), .long (fl 3), .long (fl 4)])), (ad 12, .inr (2, [.ref (ad 1), .ref (ad 5), .ref (ad 8), .ref (ad 11), .long (fl 5), .long (fl 6), .long (fl 7)])), (ad 13, .inr (4, [.ref (ad 12), .ref (ad 14), .int (fi 31), .int (fi 32), .int (fi 33)])), (ad 14, .inl (ca 14, 4096, .inl (ar 14))), (ad 15, .inr (5, [.ref (ad 16), .ref (ad 17)])), (ad 16, .inl (ca 16, 6, .inl (ar 16))), (ad 17, .inl (ca 17, 6, .inl (ar 17)))]
def tysC (ca : Nat → ClassId) : List (ClassId × FieldType) := [(ca 3, .int), (ca 6, .int), (ca 7, .int), (ca 9, .int), (ca 10, .int), (ca 14, .int), (ca 16, .int), (ca 17, .int)]
def wM (ad : Nat → Nat) (ca : Nat → ClassId) (fi : Nat → Int32) (fl : Nat → Int64) (ar : Nat → Nat → Int32) : va_W := [(ad 0, .inr (9, [.ref (ad 1), .ref (ad 2), .int (fi 0), .ref (ad 3), .int (fi 1), .int (fi 2), .int (fi 3), .int (fi 4), .int (fi 5), .int (fi 6), .int (fi 7), .ref (ad 4), .int (fi 8), .int (fi 9), .int (fi 10), .long (fl 0), .long (fl 1), .long (fl 2), .long (fl 3), .ref (ad 5), .ref (ad 6)])), (ad 1, .inl (ca 1, 8, .inl (ar 1))), (ad 2, .inl (ca 2, 8, .inl (ar 2))), (ad 3, .inl (ca 3, 120, .inl (ar 3))), (ad 4, .inl (ca 4, 1001, .inl (ar 4))), (ad 5, .inl (ca 5, 36, .inl (ar 5))), (ad 6, .inl (ca 6, 6, .inl (ar 6)))]
def tysM (ca : Nat → ClassId) : List (ClassId × FieldType) := [(ca 1, .int), (ca 2, .int), (ca 3, .int), (ca 4, .int), (ca 5, .boolean), (ca 6, .int)]
abbrev EC (D : va_G) (ca : Nat → ClassId) (ak av : Nat → Nat) : VE := (D, tysC ca, true, ak, av)
abbrev EM (D : va_G) (ca : Nat → ClassId) (ak av : Nat → Nat) : VE := (D, tysM ca, false, ak, av)
-- int fields: C.0.least=fi 0, C.1.cost=fi 1, C.1.worth=fi 2, C.1.hand=fi 3, C.1.eye=fi 4, C.1.fade=fi 5, C.1.fresh=fi 6, C.1.way=fi 7, C.1.naming=fi 8, C.2.size=fi 9, C.2.faultAt=fi 10, C.2.flaw=fi 11, C.2.place=fi 12, C.2.told=fi 13, C.4.cost=fi 14, C.4.worth=fi 15, C.4.hand=fi 16, C.4.eye=fi 17, C.4.fade=fi 18, C.4.fresh=fi 19, C.4.way=fi 20, C.4.naming=fi 21, C.5.way=fi 22, C.5.cost=fi 23, C.5.worth=fi 24, C.5.keep=fi 25, C.5.fade=fi 26, C.5.fresh=fi 27, C.8.lead=fi 28, C.8.ring=fi 29, C.8.end=fi 30, C.13.made=fi 31, C.13.top=fi 32, C.13.firm=fi 33, M.0.least=fi 0, M.0.textSize=fi 1, M.0.at=fi 2, M.0.from=fi 3, M.0.letters=fi 4, M.0.faultOf=fi 5, M.0.place=fi 6, M.0.told=fi 7, M.0.rest=fi 8, M.0.tail=fi 9, M.0.ring=fi 10
-- long fields: C.11.good=fl 0, C.11.times=fl 1, C.11.whole=fl 2, C.11.part=fl 3, C.11.has=fl 4, C.12.whole=fl 5, C.12.part=fl 6, C.12.times=fl 7, M.0.goodUpper=fl 0, M.0.goodLower=fl 1, M.0.hasUpper=fl 2, M.0.hasLower=fl 3
theorem inU0 : ∀ w ∈ u_ws RX0 TX0 5, w ∈ wsU := by
  intro w h
  obtain ⟨k, hk, rfl⟩ := List.mem_map.mp h
  have hk := List.mem_range.mp hk
  match k, hk with
  | 0, _ => exact (in_t1 (List.mem_of_getElem? (i := 195) (by decide +kernel)) (by decide) : Cond.lays RX0 "SaidOfHim$Another" "good" "J" ∈ wsU)
  | 1, _ => exact (in_t1 (List.mem_of_getElem? (i := 197) (by decide +kernel)) (by decide) : Cond.lays RX0 "SaidOfHim$Another" "times" "J" ∈ wsU)
  | 2, _ => exact (in_t1 (List.mem_of_getElem? (i := 199) (by decide +kernel)) (by decide) : Cond.lays RX0 "SaidOfHim$Another" "whole" "J" ∈ wsU)
  | 3, _ => exact (in_t1 (List.mem_of_getElem? (i := 201) (by decide +kernel)) (by decide) : Cond.lays RX0 "SaidOfHim$Another" "part" "J" ∈ wsU)
  | 4, _ => exact (in_t1 (List.mem_of_getElem? (i := 203) (by decide +kernel)) (by decide) : Cond.lays RX0 "SaidOfHim$Another" "has" "J" ∈ wsU)
theorem inU1 : ∀ w ∈ u_ws RX1 TX1 8, w ∈ wsU := by
  intro w h
  obtain ⟨k, hk, rfl⟩ := List.mem_map.mp h
  have hk := List.mem_range.mp hk
  match k, hk with
  | 0, _ => exact (in_t1 (List.mem_of_getElem? (i := 138) (by decide +kernel)) (by decide) : Cond.laysFinal RX1 "SaidOfHim$Custom" "odds" "[I" ∈ wsU)
  | 1, _ => exact (in_t1 (List.mem_of_getElem? (i := 140) (by decide +kernel)) (by decide) : Cond.laysFinal RX1 "SaidOfHim$Custom" "own" "[I" ∈ wsU)
  | 2, _ => exact (in_t1 (List.mem_of_getElem? (i := 142) (by decide +kernel)) (by decide) : Cond.lays RX1 "SaidOfHim$Custom" "way" "I" ∈ wsU)
  | 3, _ => exact (in_t1 (List.mem_of_getElem? (i := 144) (by decide +kernel)) (by decide) : Cond.lays RX1 "SaidOfHim$Custom" "cost" "I" ∈ wsU)
  | 4, _ => exact (in_t1 (List.mem_of_getElem? (i := 146) (by decide +kernel)) (by decide) : Cond.lays RX1 "SaidOfHim$Custom" "worth" "I" ∈ wsU)
  | 5, _ => exact (in_t1 (List.mem_of_getElem? (i := 148) (by decide +kernel)) (by decide) : Cond.lays RX1 "SaidOfHim$Custom" "keep" "I" ∈ wsU)
  | 6, _ => exact (in_t1 (List.mem_of_getElem? (i := 150) (by decide +kernel)) (by decide) : Cond.lays RX1 "SaidOfHim$Custom" "fade" "I" ∈ wsU)
  | 7, _ => exact (in_t1 (List.mem_of_getElem? (i := 152) (by decide +kernel)) (by decide) : Cond.lays RX1 "SaidOfHim$Custom" "fresh" "I" ∈ wsU)
theorem inU2 : ∀ w ∈ u_ws RX2 TX2 7, w ∈ wsU := by
  intro w h
  obtain ⟨k, hk, rfl⟩ := List.mem_map.mp h
  have hk := List.mem_range.mp hk
  match k, hk with
  | 0, _ => exact (in_t1 (List.mem_of_getElem? (i := 220) (by decide +kernel)) (by decide) : Cond.laysFinal RX2 "SaidOfHim$Judge" "village" "LSaidOfHim$Village;" ∈ wsU)
  | 1, _ => exact (in_t1 (List.mem_of_getElem? (i := 222) (by decide +kernel)) (by decide) : Cond.laysFinal RX2 "SaidOfHim$Judge" "custom" "LSaidOfHim$Custom;" ∈ wsU)
  | 2, _ => exact (in_t1 (List.mem_of_getElem? (i := 224) (by decide +kernel)) (by decide) : Cond.laysFinal RX2 "SaidOfHim$Judge" "walk" "LSaidOfHim$Walk;" ∈ wsU)
  | 3, _ => exact (in_t1 (List.mem_of_getElem? (i := 226) (by decide +kernel)) (by decide) : Cond.laysFinal RX2 "SaidOfHim$Judge" "another" "LSaidOfHim$Another;" ∈ wsU)
  | 4, _ => exact (in_t1 (List.mem_of_getElem? (i := 228) (by decide +kernel)) (by decide) : Cond.lays RX2 "SaidOfHim$Judge" "whole" "J" ∈ wsU)
  | 5, _ => exact (in_t1 (List.mem_of_getElem? (i := 230) (by decide +kernel)) (by decide) : Cond.lays RX2 "SaidOfHim$Judge" "part" "J" ∈ wsU)
  | 6, _ => exact (in_t1 (List.mem_of_getElem? (i := 232) (by decide +kernel)) (by decide) : Cond.lays RX2 "SaidOfHim$Judge" "times" "J" ∈ wsU)
theorem inU3 : ∀ w ∈ u_ws RX3 TX3 7, w ∈ wsU := by
  intro w h
  obtain ⟨k, hk, rfl⟩ := List.mem_map.mp h
  have hk := List.mem_range.mp hk
  match k, hk with
  | 0, _ => exact (in_t1 (List.mem_of_getElem? (i := 103) (by decide +kernel)) (by decide) : Cond.laysFinal RX3 "SaidOfHim$Reader" "bytes" "[I" ∈ wsU)
  | 1, _ => exact (in_t1 (List.mem_of_getElem? (i := 105) (by decide +kernel)) (by decide) : Cond.laysFinal RX3 "SaidOfHim$Reader" "draft" "LSaidOfHim$Village;" ∈ wsU)
  | 2, _ => exact (in_t1 (List.mem_of_getElem? (i := 107) (by decide +kernel)) (by decide) : Cond.lays RX3 "SaidOfHim$Reader" "size" "I" ∈ wsU)
  | 3, _ => exact (in_t1 (List.mem_of_getElem? (i := 109) (by decide +kernel)) (by decide) : Cond.lays RX3 "SaidOfHim$Reader" "faultAt" "I" ∈ wsU)
  | 4, _ => exact (in_t1 (List.mem_of_getElem? (i := 111) (by decide +kernel)) (by decide) : Cond.lays RX3 "SaidOfHim$Reader" "flaw" "I" ∈ wsU)
  | 5, _ => exact (in_t1 (List.mem_of_getElem? (i := 113) (by decide +kernel)) (by decide) : Cond.lays RX3 "SaidOfHim$Reader" "place" "I" ∈ wsU)
  | 6, _ => exact (in_t1 (List.mem_of_getElem? (i := 115) (by decide +kernel)) (by decide) : Cond.lays RX3 "SaidOfHim$Reader" "told" "I" ∈ wsU)
theorem inU4 : ∀ w ∈ u_ws RX4 TX4 5, w ∈ wsU := by
  intro w h
  obtain ⟨k, hk, rfl⟩ := List.mem_map.mp h
  have hk := List.mem_range.mp hk
  match k, hk with
  | 0, _ => exact (in_t2 (List.mem_of_getElem? (i := 6) (by decide +kernel)) (by decide) : Cond.laysFinal RX4 "SaidOfHim$Survey" "judge" "LSaidOfHim$Judge;" ∈ wsU)
  | 1, _ => exact (in_t2 (List.mem_of_getElem? (i := 8) (by decide +kernel)) (by decide) : Cond.laysFinal RX4 "SaidOfHim$Survey" "aids" "[I" ∈ wsU)
  | 2, _ => exact (in_t2 (List.mem_of_getElem? (i := 10) (by decide +kernel)) (by decide) : Cond.lays RX4 "SaidOfHim$Survey" "made" "Z" ∈ wsU)
  | 3, _ => exact (in_t2 (List.mem_of_getElem? (i := 12) (by decide +kernel)) (by decide) : Cond.lays RX4 "SaidOfHim$Survey" "top" "I" ∈ wsU)
  | 4, _ => exact (in_t2 (List.mem_of_getElem? (i := 14) (by decide +kernel)) (by decide) : Cond.lays RX4 "SaidOfHim$Survey" "firm" "I" ∈ wsU)
theorem inU5 : ∀ w ∈ u_ws RX5 TX5 2, w ∈ wsU := by
  intro w h
  obtain ⟨k, hk, rfl⟩ := List.mem_map.mp h
  have hk := List.mem_range.mp hk
  match k, hk with
  | 0, _ => exact (in_t2 (List.mem_of_getElem? (i := 35) (by decide +kernel)) (by decide) : Cond.laysFinal RX5 "SaidOfHim$Views" "good" "[I" ∈ wsU)
  | 1, _ => exact (in_t2 (List.mem_of_getElem? (i := 37) (by decide +kernel)) (by decide) : Cond.laysFinal RX5 "SaidOfHim$Views" "kindred" "[I" ∈ wsU)
theorem inU6 : ∀ w ∈ u_ws RX6 TX6 8, w ∈ wsU := by
  intro w h
  obtain ⟨k, hk, rfl⟩ := List.mem_map.mp h
  have hk := List.mem_range.mp hk
  match k, hk with
  | 0, _ => exact (in_t1 (List.mem_of_getElem? (i := 68) (by decide +kernel)) (by decide) : Cond.lays RX6 "SaidOfHim$Village" "cost" "I" ∈ wsU)
  | 1, _ => exact (in_t1 (List.mem_of_getElem? (i := 70) (by decide +kernel)) (by decide) : Cond.lays RX6 "SaidOfHim$Village" "worth" "I" ∈ wsU)
  | 2, _ => exact (in_t1 (List.mem_of_getElem? (i := 72) (by decide +kernel)) (by decide) : Cond.lays RX6 "SaidOfHim$Village" "hand" "I" ∈ wsU)
  | 3, _ => exact (in_t1 (List.mem_of_getElem? (i := 74) (by decide +kernel)) (by decide) : Cond.lays RX6 "SaidOfHim$Village" "eye" "I" ∈ wsU)
  | 4, _ => exact (in_t1 (List.mem_of_getElem? (i := 76) (by decide +kernel)) (by decide) : Cond.lays RX6 "SaidOfHim$Village" "fade" "I" ∈ wsU)
  | 5, _ => exact (in_t1 (List.mem_of_getElem? (i := 78) (by decide +kernel)) (by decide) : Cond.lays RX6 "SaidOfHim$Village" "fresh" "I" ∈ wsU)
  | 6, _ => exact (in_t1 (List.mem_of_getElem? (i := 80) (by decide +kernel)) (by decide) : Cond.lays RX6 "SaidOfHim$Village" "way" "I" ∈ wsU)
  | 7, _ => exact (in_t1 (List.mem_of_getElem? (i := 82) (by decide +kernel)) (by decide) : Cond.lays RX6 "SaidOfHim$Village" "naming" "I" ∈ wsU)
theorem inU7 : ∀ w ∈ u_ws RX7 TX7 5, w ∈ wsU := by
  intro w h
  obtain ⟨k, hk, rfl⟩ := List.mem_map.mp h
  have hk := List.mem_range.mp hk
  match k, hk with
  | 0, _ => exact (in_t1 (List.mem_of_getElem? (i := 168) (by decide +kernel)) (by decide) : Cond.laysFinal RX7 "SaidOfHim$Walk" "path" "[I" ∈ wsU)
  | 1, _ => exact (in_t1 (List.mem_of_getElem? (i := 170) (by decide +kernel)) (by decide) : Cond.laysFinal RX7 "SaidOfHim$Walk" "came" "[I" ∈ wsU)
  | 2, _ => exact (in_t1 (List.mem_of_getElem? (i := 172) (by decide +kernel)) (by decide) : Cond.lays RX7 "SaidOfHim$Walk" "lead" "I" ∈ wsU)
  | 3, _ => exact (in_t1 (List.mem_of_getElem? (i := 174) (by decide +kernel)) (by decide) : Cond.lays RX7 "SaidOfHim$Walk" "ring" "I" ∈ wsU)
  | 4, _ => exact (in_t1 (List.mem_of_getElem? (i := 176) (by decide +kernel)) (by decide) : Cond.lays RX7 "SaidOfHim$Walk" "end" "I" ∈ wsU)
theorem inU8 : ∀ w ∈ u_ws RX8 TX8 9, w ∈ wsU := by
  intro w h
  obtain ⟨k, hk, rfl⟩ := List.mem_map.mp h
  have hk := List.mem_range.mp hk
  match k, hk with
  | 0, _ => exact (in_t2 (List.mem_of_getElem? (i := 49) (by decide +kernel)) (by decide) : Cond.laysFinal RX8 "SaidOfHim" "village" "LSaidOfHim$Village;" ∈ wsU)
  | 1, _ => exact (in_t2 (List.mem_of_getElem? (i := 51) (by decide +kernel)) (by decide) : Cond.laysFinal RX8 "SaidOfHim" "reader" "LSaidOfHim$Reader;" ∈ wsU)
  | 2, _ => exact (in_t2 (List.mem_of_getElem? (i := 53) (by decide +kernel)) (by decide) : Cond.laysFinal RX8 "SaidOfHim" "custom" "LSaidOfHim$Custom;" ∈ wsU)
  | 3, _ => exact (in_t2 (List.mem_of_getElem? (i := 55) (by decide +kernel)) (by decide) : Cond.laysFinal RX8 "SaidOfHim" "walk" "LSaidOfHim$Walk;" ∈ wsU)
  | 4, _ => exact (in_t2 (List.mem_of_getElem? (i := 57) (by decide +kernel)) (by decide) : Cond.laysFinal RX8 "SaidOfHim" "another" "LSaidOfHim$Another;" ∈ wsU)
  | 5, _ => exact (in_t2 (List.mem_of_getElem? (i := 59) (by decide +kernel)) (by decide) : Cond.laysFinal RX8 "SaidOfHim" "judge" "LSaidOfHim$Judge;" ∈ wsU)
  | 6, _ => exact (in_t2 (List.mem_of_getElem? (i := 61) (by decide +kernel)) (by decide) : Cond.laysFinal RX8 "SaidOfHim" "survey" "LSaidOfHim$Survey;" ∈ wsU)
  | 7, _ => exact (in_t2 (List.mem_of_getElem? (i := 63) (by decide +kernel)) (by decide) : Cond.laysFinal RX8 "SaidOfHim" "views" "LSaidOfHim$Views;" ∈ wsU)
  | 8, _ => exact (in_t2 (List.mem_of_getElem? (i := 65) (by decide +kernel)) (by decide) : Cond.lays RX8 "SaidOfHim" "least" "I" ∈ wsU)
theorem inU9 : ∀ w ∈ u_ws RX9 TX9 21, w ∈ wsU := by
  intro w h
  obtain ⟨k, hk, rfl⟩ := List.mem_map.mp h
  have hk := List.mem_range.mp hk
  match k, hk with
  | 0, _ => exact (in_t4 (List.mem_of_getElem? (i := 46) (by decide +kernel)) (by decide) : Cond.laysFinal RX9 "SaidOfHimModel" "village" "[I" ∈ wsU)
  | 1, _ => exact (in_t4 (List.mem_of_getElem? (i := 48) (by decide +kernel)) (by decide) : Cond.laysFinal RX9 "SaidOfHimModel" "newVillage" "[I" ∈ wsU)
  | 2, _ => exact (in_t4 (List.mem_of_getElem? (i := 50) (by decide +kernel)) (by decide) : Cond.lays RX9 "SaidOfHimModel" "least" "I" ∈ wsU)
  | 3, _ => exact (in_t4 (List.mem_of_getElem? (i := 52) (by decide +kernel)) (by decide) : Cond.laysFinal RX9 "SaidOfHimModel" "text" "[I" ∈ wsU)
  | 4, _ => exact (in_t4 (List.mem_of_getElem? (i := 54) (by decide +kernel)) (by decide) : Cond.lays RX9 "SaidOfHimModel" "textSize" "I" ∈ wsU)
  | 5, _ => exact (in_t4 (List.mem_of_getElem? (i := 56) (by decide +kernel)) (by decide) : Cond.lays RX9 "SaidOfHimModel" "at" "I" ∈ wsU)
  | 6, _ => exact (in_t4 (List.mem_of_getElem? (i := 58) (by decide +kernel)) (by decide) : Cond.lays RX9 "SaidOfHimModel" "from" "I" ∈ wsU)
  | 7, _ => exact (in_t4 (List.mem_of_getElem? (i := 60) (by decide +kernel)) (by decide) : Cond.lays RX9 "SaidOfHimModel" "letters" "I" ∈ wsU)
  | 8, _ => exact (in_t4 (List.mem_of_getElem? (i := 62) (by decide +kernel)) (by decide) : Cond.lays RX9 "SaidOfHimModel" "faultOf" "I" ∈ wsU)
  | 9, _ => exact (in_t4 (List.mem_of_getElem? (i := 64) (by decide +kernel)) (by decide) : Cond.lays RX9 "SaidOfHimModel" "place" "I" ∈ wsU)
  | 10, _ => exact (in_t4 (List.mem_of_getElem? (i := 66) (by decide +kernel)) (by decide) : Cond.lays RX9 "SaidOfHimModel" "told" "I" ∈ wsU)
  | 11, _ => exact (in_t4 (List.mem_of_getElem? (i := 68) (by decide +kernel)) (by decide) : Cond.laysFinal RX9 "SaidOfHimModel" "met" "[I" ∈ wsU)
  | 12, _ => exact (in_t4 (List.mem_of_getElem? (i := 70) (by decide +kernel)) (by decide) : Cond.lays RX9 "SaidOfHimModel" "rest" "I" ∈ wsU)
  | 13, _ => exact (in_t4 (List.mem_of_getElem? (i := 72) (by decide +kernel)) (by decide) : Cond.lays RX9 "SaidOfHimModel" "tail" "I" ∈ wsU)
  | 14, _ => exact (in_t4 (List.mem_of_getElem? (i := 74) (by decide +kernel)) (by decide) : Cond.lays RX9 "SaidOfHimModel" "ring" "I" ∈ wsU)
  | 15, _ => exact (in_t4 (List.mem_of_getElem? (i := 76) (by decide +kernel)) (by decide) : Cond.lays RX9 "SaidOfHimModel" "goodUpper" "J" ∈ wsU)
  | 16, _ => exact (in_t4 (List.mem_of_getElem? (i := 78) (by decide +kernel)) (by decide) : Cond.lays RX9 "SaidOfHimModel" "goodLower" "J" ∈ wsU)
  | 17, _ => exact (in_t4 (List.mem_of_getElem? (i := 80) (by decide +kernel)) (by decide) : Cond.lays RX9 "SaidOfHimModel" "hasUpper" "J" ∈ wsU)
  | 18, _ => exact (in_t4 (List.mem_of_getElem? (i := 82) (by decide +kernel)) (by decide) : Cond.lays RX9 "SaidOfHimModel" "hasLower" "J" ∈ wsU)
  | 19, _ => exact (in_t4 (List.mem_of_getElem? (i := 84) (by decide +kernel)) (by decide) : Cond.laysFinal RX9 "SaidOfHimModel" "isGood" "[Z" ∈ wsU)
  | 20, _ => exact (in_t4 (List.mem_of_getElem? (i := 86) (by decide +kernel)) (by decide) : Cond.laysFinal RX9 "SaidOfHimModel" "kin" "[I" ∈ wsU)
  | k + 21, hk => exact absurd hk (by omega)
section WLD
variable {p : Program} {l : Launch} {e : Env} {R : Room} {s : State} {m : MethodId} {args : Array Value} {below : List Frame} {meth : Method} {c : Code} {H : Heap} {locs : List Loc} {Q : State → Prop}
variable {cc : ByteArray} {nL pc idx : Nat} {ls : Array Slot} {rest : List Value} {own : String} {A : Nat → Prop} {D : va_G} {ca : Nat → ClassId} {ak av ad : Nat → Nat} {fi : Nat → Int32} {fl : Nat → Int64} {ar : Nat → Nat → Int32}
theorem gfC_0_0 (B : Bd p m c cc nL s args own (EC D ca ak av) A) (w : Wd (EC D ca ak av) A s (wC ad ca fi fl ar) H locs) (hlink : Cond.fieldLink own idx "SaidOfHim" "village" "LSaidOfHim$Village;" ∈ wsU) (hdg : decode cc pc = .ok (.getfield idx, 3)) (kk : W p l e R s m args below meth c H locs 0 0 Q (F0 m (pc + 3) ls (.ref (ad 1) :: rest))) : W p l e R s m args below meth c H locs 0 0 Q (F0 m pc ls (.ref (ad 0) :: rest)) := va_get (D := D) (ci := 8) (C := RX8) (T := TX8) (N := 9) B.1.1 B.1.2.1 B.1.2.2.2.2 inU8 B.1.2.2.2.1 B.2.1 w.1 0 rfl rfl 0 (by decide) (B.1.2.2.2.2 _ hlink) (fun _ h9 => h9) rfl hdg kk
theorem gfC_0_1 (B : Bd p m c cc nL s args own (EC D ca ak av) A) (w : Wd (EC D ca ak av) A s (wC ad ca fi fl ar) H locs) (hlink : Cond.fieldLink own idx "SaidOfHim" "reader" "LSaidOfHim$Reader;" ∈ wsU) (hdg : decode cc pc = .ok (.getfield idx, 3)) (kk : W p l e R s m args below meth c H locs 0 0 Q (F0 m (pc + 3) ls (.ref (ad 2) :: rest))) : W p l e R s m args below meth c H locs 0 0 Q (F0 m pc ls (.ref (ad 0) :: rest)) := va_get (D := D) (ci := 8) (C := RX8) (T := TX8) (N := 9) B.1.1 B.1.2.1 B.1.2.2.2.2 inU8 B.1.2.2.2.1 B.2.1 w.1 0 rfl rfl 1 (by decide) (B.1.2.2.2.2 _ hlink) (fun _ h9 => h9) rfl hdg kk
theorem gfC_0_2 (B : Bd p m c cc nL s args own (EC D ca ak av) A) (w : Wd (EC D ca ak av) A s (wC ad ca fi fl ar) H locs) (hlink : Cond.fieldLink own idx "SaidOfHim" "custom" "LSaidOfHim$Custom;" ∈ wsU) (hdg : decode cc pc = .ok (.getfield idx, 3)) (kk : W p l e R s m args below meth c H locs 0 0 Q (F0 m (pc + 3) ls (.ref (ad 5) :: rest))) : W p l e R s m args below meth c H locs 0 0 Q (F0 m pc ls (.ref (ad 0) :: rest)) := va_get (D := D) (ci := 8) (C := RX8) (T := TX8) (N := 9) B.1.1 B.1.2.1 B.1.2.2.2.2 inU8 B.1.2.2.2.1 B.2.1 w.1 0 rfl rfl 2 (by decide) (B.1.2.2.2.2 _ hlink) (fun _ h9 => h9) rfl hdg kk
theorem gfC_0_3 (B : Bd p m c cc nL s args own (EC D ca ak av) A) (w : Wd (EC D ca ak av) A s (wC ad ca fi fl ar) H locs) (hlink : Cond.fieldLink own idx "SaidOfHim" "walk" "LSaidOfHim$Walk;" ∈ wsU) (hdg : decode cc pc = .ok (.getfield idx, 3)) (kk : W p l e R s m args below meth c H locs 0 0 Q (F0 m (pc + 3) ls (.ref (ad 8) :: rest))) : W p l e R s m args below meth c H locs 0 0 Q (F0 m pc ls (.ref (ad 0) :: rest)) := va_get (D := D) (ci := 8) (C := RX8) (T := TX8) (N := 9) B.1.1 B.1.2.1 B.1.2.2.2.2 inU8 B.1.2.2.2.1 B.2.1 w.1 0 rfl rfl 3 (by decide) (B.1.2.2.2.2 _ hlink) (fun _ h9 => h9) rfl hdg kk
theorem gfC_0_4 (B : Bd p m c cc nL s args own (EC D ca ak av) A) (w : Wd (EC D ca ak av) A s (wC ad ca fi fl ar) H locs) (hlink : Cond.fieldLink own idx "SaidOfHim" "another" "LSaidOfHim$Another;" ∈ wsU) (hdg : decode cc pc = .ok (.getfield idx, 3)) (kk : W p l e R s m args below meth c H locs 0 0 Q (F0 m (pc + 3) ls (.ref (ad 11) :: rest))) : W p l e R s m args below meth c H locs 0 0 Q (F0 m pc ls (.ref (ad 0) :: rest)) := va_get (D := D) (ci := 8) (C := RX8) (T := TX8) (N := 9) B.1.1 B.1.2.1 B.1.2.2.2.2 inU8 B.1.2.2.2.1 B.2.1 w.1 0 rfl rfl 4 (by decide) (B.1.2.2.2.2 _ hlink) (fun _ h9 => h9) rfl hdg kk
theorem gfC_0_5 (B : Bd p m c cc nL s args own (EC D ca ak av) A) (w : Wd (EC D ca ak av) A s (wC ad ca fi fl ar) H locs) (hlink : Cond.fieldLink own idx "SaidOfHim" "judge" "LSaidOfHim$Judge;" ∈ wsU) (hdg : decode cc pc = .ok (.getfield idx, 3)) (kk : W p l e R s m args below meth c H locs 0 0 Q (F0 m (pc + 3) ls (.ref (ad 12) :: rest))) : W p l e R s m args below meth c H locs 0 0 Q (F0 m pc ls (.ref (ad 0) :: rest)) := va_get (D := D) (ci := 8) (C := RX8) (T := TX8) (N := 9) B.1.1 B.1.2.1 B.1.2.2.2.2 inU8 B.1.2.2.2.1 B.2.1 w.1 0 rfl rfl 5 (by decide) (B.1.2.2.2.2 _ hlink) (fun _ h9 => h9) rfl hdg kk
theorem gfC_0_6 (B : Bd p m c cc nL s args own (EC D ca ak av) A) (w : Wd (EC D ca ak av) A s (wC ad ca fi fl ar) H locs) (hlink : Cond.fieldLink own idx "SaidOfHim" "survey" "LSaidOfHim$Survey;" ∈ wsU) (hdg : decode cc pc = .ok (.getfield idx, 3)) (kk : W p l e R s m args below meth c H locs 0 0 Q (F0 m (pc + 3) ls (.ref (ad 13) :: rest))) : W p l e R s m args below meth c H locs 0 0 Q (F0 m pc ls (.ref (ad 0) :: rest)) := va_get (D := D) (ci := 8) (C := RX8) (T := TX8) (N := 9) B.1.1 B.1.2.1 B.1.2.2.2.2 inU8 B.1.2.2.2.1 B.2.1 w.1 0 rfl rfl 6 (by decide) (B.1.2.2.2.2 _ hlink) (fun _ h9 => h9) rfl hdg kk
theorem gfC_0_7 (B : Bd p m c cc nL s args own (EC D ca ak av) A) (w : Wd (EC D ca ak av) A s (wC ad ca fi fl ar) H locs) (hlink : Cond.fieldLink own idx "SaidOfHim" "views" "LSaidOfHim$Views;" ∈ wsU) (hdg : decode cc pc = .ok (.getfield idx, 3)) (kk : W p l e R s m args below meth c H locs 0 0 Q (F0 m (pc + 3) ls (.ref (ad 15) :: rest))) : W p l e R s m args below meth c H locs 0 0 Q (F0 m pc ls (.ref (ad 0) :: rest)) := va_get (D := D) (ci := 8) (C := RX8) (T := TX8) (N := 9) B.1.1 B.1.2.1 B.1.2.2.2.2 inU8 B.1.2.2.2.1 B.2.1 w.1 0 rfl rfl 7 (by decide) (B.1.2.2.2.2 _ hlink) (fun _ h9 => h9) rfl hdg kk
theorem gfC_0_8 (B : Bd p m c cc nL s args own (EC D ca ak av) A) (w : Wd (EC D ca ak av) A s (wC ad ca fi fl ar) H locs) (hlink : Cond.fieldLink own idx "SaidOfHim" "least" "I" ∈ wsU) (hdg : decode cc pc = .ok (.getfield idx, 3)) (kk : W p l e R s m args below meth c H locs 0 0 Q (F0 m (pc + 3) ls (.int (fi 0) :: rest))) : W p l e R s m args below meth c H locs 0 0 Q (F0 m pc ls (.ref (ad 0) :: rest)) := va_get (D := D) (ci := 8) (C := RX8) (T := TX8) (N := 9) B.1.1 B.1.2.1 B.1.2.2.2.2 inU8 B.1.2.2.2.1 B.2.1 w.1 0 rfl rfl 8 (by decide) (B.1.2.2.2.2 _ hlink) (fun _ h9 => h9) rfl hdg kk
theorem pfC_0_8 {v : Int32} (B : Bd p m c cc nL s args own (EC D ca ak av) A) (w : Wd (EC D ca ak av) A s (wC ad ca fi fl ar) H locs) (hlink : Cond.fieldLink own idx "SaidOfHim" "least" "I" ∈ wsU) (hdg : decode cc pc = .ok (.putfield idx, 3)) (kk : ∀ (H1 : Heap) (locs1 : List Loc) (fi1 : Nat → Int32), fi1 = upd fi 0 v → Wd (EC D ca ak av) A s (wC ad ca fi1 fl ar) H1 locs1 → W p l e R s m args below meth c H1 locs1 0 0 Q (F0 m (pc + 3) ls rest)) : W p l e R s m args below meth c H locs 0 0 Q (F0 m pc ls (.int v :: .ref (ad 0) :: rest)) := va_put (D := D) (ci := 8) (v := .int v) (ty := .int) (C := RX8) (T := TX8) (N := 9) B.1.1 B.1.2.1 B.1.2.2.2.2 inU8 tyX8 tyX8_ok nmX8 B.1.2.2.2.1 B.2.1 w.1 w.2.1 w.2.2 0 rfl rfl 8 (by decide) (B.1.2.2.2.2 _ hlink) (fun _ h9 => h9) rfl (by decide +kernel) rfl rfl (Nat.le_of_ble_eq_true rfl) hdg (fun H1 locs1 hP hD hS => kk H1 locs1 _ rfl ⟨hP, hD, hS⟩)
theorem gfC_1_0 (B : Bd p m c cc nL s args own (EC D ca ak av) A) (w : Wd (EC D ca ak av) A s (wC ad ca fi fl ar) H locs) (hlink : Cond.fieldLink own idx "SaidOfHim$Village" "cost" "I" ∈ wsU) (hdg : decode cc pc = .ok (.getfield idx, 3)) (kk : W p l e R s m args below meth c H locs 0 0 Q (F0 m (pc + 3) ls (.int (fi 1) :: rest))) : W p l e R s m args below meth c H locs 0 0 Q (F0 m pc ls (.ref (ad 1) :: rest)) := va_get (D := D) (ci := 6) (C := RX6) (T := TX6) (N := 8) B.1.1 B.1.2.1 B.1.2.2.2.2 inU6 B.1.2.2.2.1 B.2.1 w.1 1 rfl rfl 0 (by decide) (B.1.2.2.2.2 _ hlink) (fun _ h9 => h9) rfl hdg kk
theorem pfC_1_0 {v : Int32} (B : Bd p m c cc nL s args own (EC D ca ak av) A) (w : Wd (EC D ca ak av) A s (wC ad ca fi fl ar) H locs) (hlink : Cond.fieldLink own idx "SaidOfHim$Village" "cost" "I" ∈ wsU) (hdg : decode cc pc = .ok (.putfield idx, 3)) (kk : ∀ (H1 : Heap) (locs1 : List Loc) (fi1 : Nat → Int32), fi1 = upd fi 1 v → Wd (EC D ca ak av) A s (wC ad ca fi1 fl ar) H1 locs1 → W p l e R s m args below meth c H1 locs1 0 0 Q (F0 m (pc + 3) ls rest)) : W p l e R s m args below meth c H locs 0 0 Q (F0 m pc ls (.int v :: .ref (ad 1) :: rest)) := va_put (D := D) (ci := 6) (v := .int v) (ty := .int) (C := RX6) (T := TX6) (N := 8) B.1.1 B.1.2.1 B.1.2.2.2.2 inU6 tyX6 tyX6_ok nmX6 B.1.2.2.2.1 B.2.1 w.1 w.2.1 w.2.2 1 rfl rfl 0 (by decide) (B.1.2.2.2.2 _ hlink) (fun _ h9 => h9) rfl (by decide +kernel) rfl rfl (Nat.le_of_ble_eq_true rfl) hdg (fun H1 locs1 hP hD hS => kk H1 locs1 _ rfl ⟨hP, hD, hS⟩)
theorem gfC_1_1 (B : Bd p m c cc nL s args own (EC D ca ak av) A) (w : Wd (EC D ca ak av) A s (wC ad ca fi fl ar) H locs) (hlink : Cond.fieldLink own idx "SaidOfHim$Village" "worth" "I" ∈ wsU) (hdg : decode cc pc = .ok (.getfield idx, 3)) (kk : W p l e R s m args below meth c H locs 0 0 Q (F0 m (pc + 3) ls (.int (fi 2) :: rest))) : W p l e R s m args below meth c H locs 0 0 Q (F0 m pc ls (.ref (ad 1) :: rest)) := va_get (D := D) (ci := 6) (C := RX6) (T := TX6) (N := 8) B.1.1 B.1.2.1 B.1.2.2.2.2 inU6 B.1.2.2.2.1 B.2.1 w.1 1 rfl rfl 1 (by decide) (B.1.2.2.2.2 _ hlink) (fun _ h9 => h9) rfl hdg kk
theorem pfC_1_1 {v : Int32} (B : Bd p m c cc nL s args own (EC D ca ak av) A) (w : Wd (EC D ca ak av) A s (wC ad ca fi fl ar) H locs) (hlink : Cond.fieldLink own idx "SaidOfHim$Village" "worth" "I" ∈ wsU) (hdg : decode cc pc = .ok (.putfield idx, 3)) (kk : ∀ (H1 : Heap) (locs1 : List Loc) (fi1 : Nat → Int32), fi1 = upd fi 2 v → Wd (EC D ca ak av) A s (wC ad ca fi1 fl ar) H1 locs1 → W p l e R s m args below meth c H1 locs1 0 0 Q (F0 m (pc + 3) ls rest)) : W p l e R s m args below meth c H locs 0 0 Q (F0 m pc ls (.int v :: .ref (ad 1) :: rest)) := va_put (D := D) (ci := 6) (v := .int v) (ty := .int) (C := RX6) (T := TX6) (N := 8) B.1.1 B.1.2.1 B.1.2.2.2.2 inU6 tyX6 tyX6_ok nmX6 B.1.2.2.2.1 B.2.1 w.1 w.2.1 w.2.2 1 rfl rfl 1 (by decide) (B.1.2.2.2.2 _ hlink) (fun _ h9 => h9) rfl (by decide +kernel) rfl rfl (Nat.le_of_ble_eq_true rfl) hdg (fun H1 locs1 hP hD hS => kk H1 locs1 _ rfl ⟨hP, hD, hS⟩)
theorem gfC_1_2 (B : Bd p m c cc nL s args own (EC D ca ak av) A) (w : Wd (EC D ca ak av) A s (wC ad ca fi fl ar) H locs) (hlink : Cond.fieldLink own idx "SaidOfHim$Village" "hand" "I" ∈ wsU) (hdg : decode cc pc = .ok (.getfield idx, 3)) (kk : W p l e R s m args below meth c H locs 0 0 Q (F0 m (pc + 3) ls (.int (fi 3) :: rest))) : W p l e R s m args below meth c H locs 0 0 Q (F0 m pc ls (.ref (ad 1) :: rest)) := va_get (D := D) (ci := 6) (C := RX6) (T := TX6) (N := 8) B.1.1 B.1.2.1 B.1.2.2.2.2 inU6 B.1.2.2.2.1 B.2.1 w.1 1 rfl rfl 2 (by decide) (B.1.2.2.2.2 _ hlink) (fun _ h9 => h9) rfl hdg kk
theorem pfC_1_2 {v : Int32} (B : Bd p m c cc nL s args own (EC D ca ak av) A) (w : Wd (EC D ca ak av) A s (wC ad ca fi fl ar) H locs) (hlink : Cond.fieldLink own idx "SaidOfHim$Village" "hand" "I" ∈ wsU) (hdg : decode cc pc = .ok (.putfield idx, 3)) (kk : ∀ (H1 : Heap) (locs1 : List Loc) (fi1 : Nat → Int32), fi1 = upd fi 3 v → Wd (EC D ca ak av) A s (wC ad ca fi1 fl ar) H1 locs1 → W p l e R s m args below meth c H1 locs1 0 0 Q (F0 m (pc + 3) ls rest)) : W p l e R s m args below meth c H locs 0 0 Q (F0 m pc ls (.int v :: .ref (ad 1) :: rest)) := va_put (D := D) (ci := 6) (v := .int v) (ty := .int) (C := RX6) (T := TX6) (N := 8) B.1.1 B.1.2.1 B.1.2.2.2.2 inU6 tyX6 tyX6_ok nmX6 B.1.2.2.2.1 B.2.1 w.1 w.2.1 w.2.2 1 rfl rfl 2 (by decide) (B.1.2.2.2.2 _ hlink) (fun _ h9 => h9) rfl (by decide +kernel) rfl rfl (Nat.le_of_ble_eq_true rfl) hdg (fun H1 locs1 hP hD hS => kk H1 locs1 _ rfl ⟨hP, hD, hS⟩)
theorem gfC_1_3 (B : Bd p m c cc nL s args own (EC D ca ak av) A) (w : Wd (EC D ca ak av) A s (wC ad ca fi fl ar) H locs) (hlink : Cond.fieldLink own idx "SaidOfHim$Village" "eye" "I" ∈ wsU) (hdg : decode cc pc = .ok (.getfield idx, 3)) (kk : W p l e R s m args below meth c H locs 0 0 Q (F0 m (pc + 3) ls (.int (fi 4) :: rest))) : W p l e R s m args below meth c H locs 0 0 Q (F0 m pc ls (.ref (ad 1) :: rest)) := va_get (D := D) (ci := 6) (C := RX6) (T := TX6) (N := 8) B.1.1 B.1.2.1 B.1.2.2.2.2 inU6 B.1.2.2.2.1 B.2.1 w.1 1 rfl rfl 3 (by decide) (B.1.2.2.2.2 _ hlink) (fun _ h9 => h9) rfl hdg kk
theorem pfC_1_3 {v : Int32} (B : Bd p m c cc nL s args own (EC D ca ak av) A) (w : Wd (EC D ca ak av) A s (wC ad ca fi fl ar) H locs) (hlink : Cond.fieldLink own idx "SaidOfHim$Village" "eye" "I" ∈ wsU) (hdg : decode cc pc = .ok (.putfield idx, 3)) (kk : ∀ (H1 : Heap) (locs1 : List Loc) (fi1 : Nat → Int32), fi1 = upd fi 4 v → Wd (EC D ca ak av) A s (wC ad ca fi1 fl ar) H1 locs1 → W p l e R s m args below meth c H1 locs1 0 0 Q (F0 m (pc + 3) ls rest)) : W p l e R s m args below meth c H locs 0 0 Q (F0 m pc ls (.int v :: .ref (ad 1) :: rest)) := va_put (D := D) (ci := 6) (v := .int v) (ty := .int) (C := RX6) (T := TX6) (N := 8) B.1.1 B.1.2.1 B.1.2.2.2.2 inU6 tyX6 tyX6_ok nmX6 B.1.2.2.2.1 B.2.1 w.1 w.2.1 w.2.2 1 rfl rfl 3 (by decide) (B.1.2.2.2.2 _ hlink) (fun _ h9 => h9) rfl (by decide +kernel) rfl rfl (Nat.le_of_ble_eq_true rfl) hdg (fun H1 locs1 hP hD hS => kk H1 locs1 _ rfl ⟨hP, hD, hS⟩)
theorem gfC_1_4 (B : Bd p m c cc nL s args own (EC D ca ak av) A) (w : Wd (EC D ca ak av) A s (wC ad ca fi fl ar) H locs) (hlink : Cond.fieldLink own idx "SaidOfHim$Village" "fade" "I" ∈ wsU) (hdg : decode cc pc = .ok (.getfield idx, 3)) (kk : W p l e R s m args below meth c H locs 0 0 Q (F0 m (pc + 3) ls (.int (fi 5) :: rest))) : W p l e R s m args below meth c H locs 0 0 Q (F0 m pc ls (.ref (ad 1) :: rest)) := va_get (D := D) (ci := 6) (C := RX6) (T := TX6) (N := 8) B.1.1 B.1.2.1 B.1.2.2.2.2 inU6 B.1.2.2.2.1 B.2.1 w.1 1 rfl rfl 4 (by decide) (B.1.2.2.2.2 _ hlink) (fun _ h9 => h9) rfl hdg kk
theorem pfC_1_4 {v : Int32} (B : Bd p m c cc nL s args own (EC D ca ak av) A) (w : Wd (EC D ca ak av) A s (wC ad ca fi fl ar) H locs) (hlink : Cond.fieldLink own idx "SaidOfHim$Village" "fade" "I" ∈ wsU) (hdg : decode cc pc = .ok (.putfield idx, 3)) (kk : ∀ (H1 : Heap) (locs1 : List Loc) (fi1 : Nat → Int32), fi1 = upd fi 5 v → Wd (EC D ca ak av) A s (wC ad ca fi1 fl ar) H1 locs1 → W p l e R s m args below meth c H1 locs1 0 0 Q (F0 m (pc + 3) ls rest)) : W p l e R s m args below meth c H locs 0 0 Q (F0 m pc ls (.int v :: .ref (ad 1) :: rest)) := va_put (D := D) (ci := 6) (v := .int v) (ty := .int) (C := RX6) (T := TX6) (N := 8) B.1.1 B.1.2.1 B.1.2.2.2.2 inU6 tyX6 tyX6_ok nmX6 B.1.2.2.2.1 B.2.1 w.1 w.2.1 w.2.2 1 rfl rfl 4 (by decide) (B.1.2.2.2.2 _ hlink) (fun _ h9 => h9) rfl (by decide +kernel) rfl rfl (Nat.le_of_ble_eq_true rfl) hdg (fun H1 locs1 hP hD hS => kk H1 locs1 _ rfl ⟨hP, hD, hS⟩)
theorem gfC_1_5 (B : Bd p m c cc nL s args own (EC D ca ak av) A) (w : Wd (EC D ca ak av) A s (wC ad ca fi fl ar) H locs) (hlink : Cond.fieldLink own idx "SaidOfHim$Village" "fresh" "I" ∈ wsU) (hdg : decode cc pc = .ok (.getfield idx, 3)) (kk : W p l e R s m args below meth c H locs 0 0 Q (F0 m (pc + 3) ls (.int (fi 6) :: rest))) : W p l e R s m args below meth c H locs 0 0 Q (F0 m pc ls (.ref (ad 1) :: rest)) := va_get (D := D) (ci := 6) (C := RX6) (T := TX6) (N := 8) B.1.1 B.1.2.1 B.1.2.2.2.2 inU6 B.1.2.2.2.1 B.2.1 w.1 1 rfl rfl 5 (by decide) (B.1.2.2.2.2 _ hlink) (fun _ h9 => h9) rfl hdg kk
theorem pfC_1_5 {v : Int32} (B : Bd p m c cc nL s args own (EC D ca ak av) A) (w : Wd (EC D ca ak av) A s (wC ad ca fi fl ar) H locs) (hlink : Cond.fieldLink own idx "SaidOfHim$Village" "fresh" "I" ∈ wsU) (hdg : decode cc pc = .ok (.putfield idx, 3)) (kk : ∀ (H1 : Heap) (locs1 : List Loc) (fi1 : Nat → Int32), fi1 = upd fi 6 v → Wd (EC D ca ak av) A s (wC ad ca fi1 fl ar) H1 locs1 → W p l e R s m args below meth c H1 locs1 0 0 Q (F0 m (pc + 3) ls rest)) : W p l e R s m args below meth c H locs 0 0 Q (F0 m pc ls (.int v :: .ref (ad 1) :: rest)) := va_put (D := D) (ci := 6) (v := .int v) (ty := .int) (C := RX6) (T := TX6) (N := 8) B.1.1 B.1.2.1 B.1.2.2.2.2 inU6 tyX6 tyX6_ok nmX6 B.1.2.2.2.1 B.2.1 w.1 w.2.1 w.2.2 1 rfl rfl 5 (by decide) (B.1.2.2.2.2 _ hlink) (fun _ h9 => h9) rfl (by decide +kernel) rfl rfl (Nat.le_of_ble_eq_true rfl) hdg (fun H1 locs1 hP hD hS => kk H1 locs1 _ rfl ⟨hP, hD, hS⟩)
theorem gfC_1_6 (B : Bd p m c cc nL s args own (EC D ca ak av) A) (w : Wd (EC D ca ak av) A s (wC ad ca fi fl ar) H locs) (hlink : Cond.fieldLink own idx "SaidOfHim$Village" "way" "I" ∈ wsU) (hdg : decode cc pc = .ok (.getfield idx, 3)) (kk : W p l e R s m args below meth c H locs 0 0 Q (F0 m (pc + 3) ls (.int (fi 7) :: rest))) : W p l e R s m args below meth c H locs 0 0 Q (F0 m pc ls (.ref (ad 1) :: rest)) := va_get (D := D) (ci := 6) (C := RX6) (T := TX6) (N := 8) B.1.1 B.1.2.1 B.1.2.2.2.2 inU6 B.1.2.2.2.1 B.2.1 w.1 1 rfl rfl 6 (by decide) (B.1.2.2.2.2 _ hlink) (fun _ h9 => h9) rfl hdg kk
theorem pfC_1_6 {v : Int32} (B : Bd p m c cc nL s args own (EC D ca ak av) A) (w : Wd (EC D ca ak av) A s (wC ad ca fi fl ar) H locs) (hlink : Cond.fieldLink own idx "SaidOfHim$Village" "way" "I" ∈ wsU) (hdg : decode cc pc = .ok (.putfield idx, 3)) (kk : ∀ (H1 : Heap) (locs1 : List Loc) (fi1 : Nat → Int32), fi1 = upd fi 7 v → Wd (EC D ca ak av) A s (wC ad ca fi1 fl ar) H1 locs1 → W p l e R s m args below meth c H1 locs1 0 0 Q (F0 m (pc + 3) ls rest)) : W p l e R s m args below meth c H locs 0 0 Q (F0 m pc ls (.int v :: .ref (ad 1) :: rest)) := va_put (D := D) (ci := 6) (v := .int v) (ty := .int) (C := RX6) (T := TX6) (N := 8) B.1.1 B.1.2.1 B.1.2.2.2.2 inU6 tyX6 tyX6_ok nmX6 B.1.2.2.2.1 B.2.1 w.1 w.2.1 w.2.2 1 rfl rfl 6 (by decide) (B.1.2.2.2.2 _ hlink) (fun _ h9 => h9) rfl (by decide +kernel) rfl rfl (Nat.le_of_ble_eq_true rfl) hdg (fun H1 locs1 hP hD hS => kk H1 locs1 _ rfl ⟨hP, hD, hS⟩)
theorem gfC_1_7 (B : Bd p m c cc nL s args own (EC D ca ak av) A) (w : Wd (EC D ca ak av) A s (wC ad ca fi fl ar) H locs) (hlink : Cond.fieldLink own idx "SaidOfHim$Village" "naming" "I" ∈ wsU) (hdg : decode cc pc = .ok (.getfield idx, 3)) (kk : W p l e R s m args below meth c H locs 0 0 Q (F0 m (pc + 3) ls (.int (fi 8) :: rest))) : W p l e R s m args below meth c H locs 0 0 Q (F0 m pc ls (.ref (ad 1) :: rest)) := va_get (D := D) (ci := 6) (C := RX6) (T := TX6) (N := 8) B.1.1 B.1.2.1 B.1.2.2.2.2 inU6 B.1.2.2.2.1 B.2.1 w.1 1 rfl rfl 7 (by decide) (B.1.2.2.2.2 _ hlink) (fun _ h9 => h9) rfl hdg kk
theorem pfC_1_7 {v : Int32} (B : Bd p m c cc nL s args own (EC D ca ak av) A) (w : Wd (EC D ca ak av) A s (wC ad ca fi fl ar) H locs) (hlink : Cond.fieldLink own idx "SaidOfHim$Village" "naming" "I" ∈ wsU) (hdg : decode cc pc = .ok (.putfield idx, 3)) (kk : ∀ (H1 : Heap) (locs1 : List Loc) (fi1 : Nat → Int32), fi1 = upd fi 8 v → Wd (EC D ca ak av) A s (wC ad ca fi1 fl ar) H1 locs1 → W p l e R s m args below meth c H1 locs1 0 0 Q (F0 m (pc + 3) ls rest)) : W p l e R s m args below meth c H locs 0 0 Q (F0 m pc ls (.int v :: .ref (ad 1) :: rest)) := va_put (D := D) (ci := 6) (v := .int v) (ty := .int) (C := RX6) (T := TX6) (N := 8) B.1.1 B.1.2.1 B.1.2.2.2.2 inU6 tyX6 tyX6_ok nmX6 B.1.2.2.2.1 B.2.1 w.1 w.2.1 w.2.2 1 rfl rfl 7 (by decide) (B.1.2.2.2.2 _ hlink) (fun _ h9 => h9) rfl (by decide +kernel) rfl rfl (Nat.le_of_ble_eq_true rfl) hdg (fun H1 locs1 hP hD hS => kk H1 locs1 _ rfl ⟨hP, hD, hS⟩)
theorem gfC_2_0 (B : Bd p m c cc nL s args own (EC D ca ak av) A) (w : Wd (EC D ca ak av) A s (wC ad ca fi fl ar) H locs) (hlink : Cond.fieldLink own idx "SaidOfHim$Reader" "bytes" "[I" ∈ wsU) (hdg : decode cc pc = .ok (.getfield idx, 3)) (kk : W p l e R s m args below meth c H locs 0 0 Q (F0 m (pc + 3) ls (.ref (ad 3) :: rest))) : W p l e R s m args below meth c H locs 0 0 Q (F0 m pc ls (.ref (ad 2) :: rest)) := va_get (D := D) (ci := 3) (C := RX3) (T := TX3) (N := 7) B.1.1 B.1.2.1 B.1.2.2.2.2 inU3 B.1.2.2.2.1 B.2.1 w.1 2 rfl rfl 0 (by decide) (B.1.2.2.2.2 _ hlink) (fun _ h9 => h9) rfl hdg kk
theorem gfC_2_1 (B : Bd p m c cc nL s args own (EC D ca ak av) A) (w : Wd (EC D ca ak av) A s (wC ad ca fi fl ar) H locs) (hlink : Cond.fieldLink own idx "SaidOfHim$Reader" "draft" "LSaidOfHim$Village;" ∈ wsU) (hdg : decode cc pc = .ok (.getfield idx, 3)) (kk : W p l e R s m args below meth c H locs 0 0 Q (F0 m (pc + 3) ls (.ref (ad 4) :: rest))) : W p l e R s m args below meth c H locs 0 0 Q (F0 m pc ls (.ref (ad 2) :: rest)) := va_get (D := D) (ci := 3) (C := RX3) (T := TX3) (N := 7) B.1.1 B.1.2.1 B.1.2.2.2.2 inU3 B.1.2.2.2.1 B.2.1 w.1 2 rfl rfl 1 (by decide) (B.1.2.2.2.2 _ hlink) (fun _ h9 => h9) rfl hdg kk
theorem gfC_2_2 (B : Bd p m c cc nL s args own (EC D ca ak av) A) (w : Wd (EC D ca ak av) A s (wC ad ca fi fl ar) H locs) (hlink : Cond.fieldLink own idx "SaidOfHim$Reader" "size" "I" ∈ wsU) (hdg : decode cc pc = .ok (.getfield idx, 3)) (kk : W p l e R s m args below meth c H locs 0 0 Q (F0 m (pc + 3) ls (.int (fi 9) :: rest))) : W p l e R s m args below meth c H locs 0 0 Q (F0 m pc ls (.ref (ad 2) :: rest)) := va_get (D := D) (ci := 3) (C := RX3) (T := TX3) (N := 7) B.1.1 B.1.2.1 B.1.2.2.2.2 inU3 B.1.2.2.2.1 B.2.1 w.1 2 rfl rfl 2 (by decide) (B.1.2.2.2.2 _ hlink) (fun _ h9 => h9) rfl hdg kk
theorem pfC_2_2 {v : Int32} (B : Bd p m c cc nL s args own (EC D ca ak av) A) (w : Wd (EC D ca ak av) A s (wC ad ca fi fl ar) H locs) (hlink : Cond.fieldLink own idx "SaidOfHim$Reader" "size" "I" ∈ wsU) (hdg : decode cc pc = .ok (.putfield idx, 3)) (kk : ∀ (H1 : Heap) (locs1 : List Loc) (fi1 : Nat → Int32), fi1 = upd fi 9 v → Wd (EC D ca ak av) A s (wC ad ca fi1 fl ar) H1 locs1 → W p l e R s m args below meth c H1 locs1 0 0 Q (F0 m (pc + 3) ls rest)) : W p l e R s m args below meth c H locs 0 0 Q (F0 m pc ls (.int v :: .ref (ad 2) :: rest)) := va_put (D := D) (ci := 3) (v := .int v) (ty := .int) (C := RX3) (T := TX3) (N := 7) B.1.1 B.1.2.1 B.1.2.2.2.2 inU3 tyX3 tyX3_ok nmX3 B.1.2.2.2.1 B.2.1 w.1 w.2.1 w.2.2 2 rfl rfl 2 (by decide) (B.1.2.2.2.2 _ hlink) (fun _ h9 => h9) rfl (by decide +kernel) rfl rfl (Nat.le_of_ble_eq_true rfl) hdg (fun H1 locs1 hP hD hS => kk H1 locs1 _ rfl ⟨hP, hD, hS⟩)
theorem gfC_2_3 (B : Bd p m c cc nL s args own (EC D ca ak av) A) (w : Wd (EC D ca ak av) A s (wC ad ca fi fl ar) H locs) (hlink : Cond.fieldLink own idx "SaidOfHim$Reader" "faultAt" "I" ∈ wsU) (hdg : decode cc pc = .ok (.getfield idx, 3)) (kk : W p l e R s m args below meth c H locs 0 0 Q (F0 m (pc + 3) ls (.int (fi 10) :: rest))) : W p l e R s m args below meth c H locs 0 0 Q (F0 m pc ls (.ref (ad 2) :: rest)) := va_get (D := D) (ci := 3) (C := RX3) (T := TX3) (N := 7) B.1.1 B.1.2.1 B.1.2.2.2.2 inU3 B.1.2.2.2.1 B.2.1 w.1 2 rfl rfl 3 (by decide) (B.1.2.2.2.2 _ hlink) (fun _ h9 => h9) rfl hdg kk
theorem pfC_2_3 {v : Int32} (B : Bd p m c cc nL s args own (EC D ca ak av) A) (w : Wd (EC D ca ak av) A s (wC ad ca fi fl ar) H locs) (hlink : Cond.fieldLink own idx "SaidOfHim$Reader" "faultAt" "I" ∈ wsU) (hdg : decode cc pc = .ok (.putfield idx, 3)) (kk : ∀ (H1 : Heap) (locs1 : List Loc) (fi1 : Nat → Int32), fi1 = upd fi 10 v → Wd (EC D ca ak av) A s (wC ad ca fi1 fl ar) H1 locs1 → W p l e R s m args below meth c H1 locs1 0 0 Q (F0 m (pc + 3) ls rest)) : W p l e R s m args below meth c H locs 0 0 Q (F0 m pc ls (.int v :: .ref (ad 2) :: rest)) := va_put (D := D) (ci := 3) (v := .int v) (ty := .int) (C := RX3) (T := TX3) (N := 7) B.1.1 B.1.2.1 B.1.2.2.2.2 inU3 tyX3 tyX3_ok nmX3 B.1.2.2.2.1 B.2.1 w.1 w.2.1 w.2.2 2 rfl rfl 3 (by decide) (B.1.2.2.2.2 _ hlink) (fun _ h9 => h9) rfl (by decide +kernel) rfl rfl (Nat.le_of_ble_eq_true rfl) hdg (fun H1 locs1 hP hD hS => kk H1 locs1 _ rfl ⟨hP, hD, hS⟩)
theorem gfC_2_4 (B : Bd p m c cc nL s args own (EC D ca ak av) A) (w : Wd (EC D ca ak av) A s (wC ad ca fi fl ar) H locs) (hlink : Cond.fieldLink own idx "SaidOfHim$Reader" "flaw" "I" ∈ wsU) (hdg : decode cc pc = .ok (.getfield idx, 3)) (kk : W p l e R s m args below meth c H locs 0 0 Q (F0 m (pc + 3) ls (.int (fi 11) :: rest))) : W p l e R s m args below meth c H locs 0 0 Q (F0 m pc ls (.ref (ad 2) :: rest)) := va_get (D := D) (ci := 3) (C := RX3) (T := TX3) (N := 7) B.1.1 B.1.2.1 B.1.2.2.2.2 inU3 B.1.2.2.2.1 B.2.1 w.1 2 rfl rfl 4 (by decide) (B.1.2.2.2.2 _ hlink) (fun _ h9 => h9) rfl hdg kk
theorem pfC_2_4 {v : Int32} (B : Bd p m c cc nL s args own (EC D ca ak av) A) (w : Wd (EC D ca ak av) A s (wC ad ca fi fl ar) H locs) (hlink : Cond.fieldLink own idx "SaidOfHim$Reader" "flaw" "I" ∈ wsU) (hdg : decode cc pc = .ok (.putfield idx, 3)) (kk : ∀ (H1 : Heap) (locs1 : List Loc) (fi1 : Nat → Int32), fi1 = upd fi 11 v → Wd (EC D ca ak av) A s (wC ad ca fi1 fl ar) H1 locs1 → W p l e R s m args below meth c H1 locs1 0 0 Q (F0 m (pc + 3) ls rest)) : W p l e R s m args below meth c H locs 0 0 Q (F0 m pc ls (.int v :: .ref (ad 2) :: rest)) := va_put (D := D) (ci := 3) (v := .int v) (ty := .int) (C := RX3) (T := TX3) (N := 7) B.1.1 B.1.2.1 B.1.2.2.2.2 inU3 tyX3 tyX3_ok nmX3 B.1.2.2.2.1 B.2.1 w.1 w.2.1 w.2.2 2 rfl rfl 4 (by decide) (B.1.2.2.2.2 _ hlink) (fun _ h9 => h9) rfl (by decide +kernel) rfl rfl (Nat.le_of_ble_eq_true rfl) hdg (fun H1 locs1 hP hD hS => kk H1 locs1 _ rfl ⟨hP, hD, hS⟩)
theorem gfC_2_5 (B : Bd p m c cc nL s args own (EC D ca ak av) A) (w : Wd (EC D ca ak av) A s (wC ad ca fi fl ar) H locs) (hlink : Cond.fieldLink own idx "SaidOfHim$Reader" "place" "I" ∈ wsU) (hdg : decode cc pc = .ok (.getfield idx, 3)) (kk : W p l e R s m args below meth c H locs 0 0 Q (F0 m (pc + 3) ls (.int (fi 12) :: rest))) : W p l e R s m args below meth c H locs 0 0 Q (F0 m pc ls (.ref (ad 2) :: rest)) := va_get (D := D) (ci := 3) (C := RX3) (T := TX3) (N := 7) B.1.1 B.1.2.1 B.1.2.2.2.2 inU3 B.1.2.2.2.1 B.2.1 w.1 2 rfl rfl 5 (by decide) (B.1.2.2.2.2 _ hlink) (fun _ h9 => h9) rfl hdg kk
theorem pfC_2_5 {v : Int32} (B : Bd p m c cc nL s args own (EC D ca ak av) A) (w : Wd (EC D ca ak av) A s (wC ad ca fi fl ar) H locs) (hlink : Cond.fieldLink own idx "SaidOfHim$Reader" "place" "I" ∈ wsU) (hdg : decode cc pc = .ok (.putfield idx, 3)) (kk : ∀ (H1 : Heap) (locs1 : List Loc) (fi1 : Nat → Int32), fi1 = upd fi 12 v → Wd (EC D ca ak av) A s (wC ad ca fi1 fl ar) H1 locs1 → W p l e R s m args below meth c H1 locs1 0 0 Q (F0 m (pc + 3) ls rest)) : W p l e R s m args below meth c H locs 0 0 Q (F0 m pc ls (.int v :: .ref (ad 2) :: rest)) := va_put (D := D) (ci := 3) (v := .int v) (ty := .int) (C := RX3) (T := TX3) (N := 7) B.1.1 B.1.2.1 B.1.2.2.2.2 inU3 tyX3 tyX3_ok nmX3 B.1.2.2.2.1 B.2.1 w.1 w.2.1 w.2.2 2 rfl rfl 5 (by decide) (B.1.2.2.2.2 _ hlink) (fun _ h9 => h9) rfl (by decide +kernel) rfl rfl (Nat.le_of_ble_eq_true rfl) hdg (fun H1 locs1 hP hD hS => kk H1 locs1 _ rfl ⟨hP, hD, hS⟩)
theorem gfC_2_6 (B : Bd p m c cc nL s args own (EC D ca ak av) A) (w : Wd (EC D ca ak av) A s (wC ad ca fi fl ar) H locs) (hlink : Cond.fieldLink own idx "SaidOfHim$Reader" "told" "I" ∈ wsU) (hdg : decode cc pc = .ok (.getfield idx, 3)) (kk : W p l e R s m args below meth c H locs 0 0 Q (F0 m (pc + 3) ls (.int (fi 13) :: rest))) : W p l e R s m args below meth c H locs 0 0 Q (F0 m pc ls (.ref (ad 2) :: rest)) := va_get (D := D) (ci := 3) (C := RX3) (T := TX3) (N := 7) B.1.1 B.1.2.1 B.1.2.2.2.2 inU3 B.1.2.2.2.1 B.2.1 w.1 2 rfl rfl 6 (by decide) (B.1.2.2.2.2 _ hlink) (fun _ h9 => h9) rfl hdg kk
theorem pfC_2_6 {v : Int32} (B : Bd p m c cc nL s args own (EC D ca ak av) A) (w : Wd (EC D ca ak av) A s (wC ad ca fi fl ar) H locs) (hlink : Cond.fieldLink own idx "SaidOfHim$Reader" "told" "I" ∈ wsU) (hdg : decode cc pc = .ok (.putfield idx, 3)) (kk : ∀ (H1 : Heap) (locs1 : List Loc) (fi1 : Nat → Int32), fi1 = upd fi 13 v → Wd (EC D ca ak av) A s (wC ad ca fi1 fl ar) H1 locs1 → W p l e R s m args below meth c H1 locs1 0 0 Q (F0 m (pc + 3) ls rest)) : W p l e R s m args below meth c H locs 0 0 Q (F0 m pc ls (.int v :: .ref (ad 2) :: rest)) := va_put (D := D) (ci := 3) (v := .int v) (ty := .int) (C := RX3) (T := TX3) (N := 7) B.1.1 B.1.2.1 B.1.2.2.2.2 inU3 tyX3 tyX3_ok nmX3 B.1.2.2.2.1 B.2.1 w.1 w.2.1 w.2.2 2 rfl rfl 6 (by decide) (B.1.2.2.2.2 _ hlink) (fun _ h9 => h9) rfl (by decide +kernel) rfl rfl (Nat.le_of_ble_eq_true rfl) hdg (fun H1 locs1 hP hD hS => kk H1 locs1 _ rfl ⟨hP, hD, hS⟩)
theorem alC_3 (B : Bd p m c cc nL s args own (EC D ca ak av) A) (w : Wd (EC D ca ak av) A s (wC ad ca fi fl ar) H locs) {i : Int32} (hin : vp_in i 120) (hdg : decode cc pc = .ok (.iaload, 1)) (kk : W p l e R s m args below meth c H locs 0 0 Q (F0 m (pc + 1) ls (.int (ar 3 i.toNatClampNeg) :: rest))) : W p l e R s m args below meth c H locs 0 0 Q (F0 m pc ls (.int i :: .ref (ad 3) :: rest)) := va_iald B.1.1 B.1.2.1 B.2.1 w.1 3 0 rfl rfl hin hdg kk
theorem asC_3 (B : Bd p m c cc nL s args own (EC D ca ak av) A) (w : Wd (EC D ca ak av) A s (wC ad ca fi fl ar) H locs) {i x : Int32} (hin : vp_in i 120) (hdg : decode cc pc = .ok (.iastore, 1)) (kk : ∀ (H1 : Heap) (locs1 : List Loc) (ar1 : Nat → Nat → Int32), ar1 = updA ar 3 (upd (ar 3) i.toNatClampNeg x) → Wd (EC D ca ak av) A s (wC ad ca fi fl ar1) H1 locs1 → W p l e R s m args below meth c H1 locs1 0 0 Q (F0 m (pc + 1) ls rest)) : W p l e R s m args below meth c H locs 0 0 Q (F0 m pc ls (.int x :: .int i :: .ref (ad 3) :: rest)) := va_iast B.1.1 B.1.2.1 B.2.1 w.1 w.2.1 w.2.2 3 0 rfl rfl hin hdg (fun H1 locs1 hP hD hS => kk H1 locs1 _ rfl ⟨hP, hD, hS⟩)
theorem gfC_4_0 (B : Bd p m c cc nL s args own (EC D ca ak av) A) (w : Wd (EC D ca ak av) A s (wC ad ca fi fl ar) H locs) (hlink : Cond.fieldLink own idx "SaidOfHim$Village" "cost" "I" ∈ wsU) (hdg : decode cc pc = .ok (.getfield idx, 3)) (kk : W p l e R s m args below meth c H locs 0 0 Q (F0 m (pc + 3) ls (.int (fi 14) :: rest))) : W p l e R s m args below meth c H locs 0 0 Q (F0 m pc ls (.ref (ad 4) :: rest)) := va_get (D := D) (ci := 6) (C := RX6) (T := TX6) (N := 8) B.1.1 B.1.2.1 B.1.2.2.2.2 inU6 B.1.2.2.2.1 B.2.1 w.1 4 rfl rfl 0 (by decide) (B.1.2.2.2.2 _ hlink) (fun _ h9 => h9) rfl hdg kk
theorem pfC_4_0 {v : Int32} (B : Bd p m c cc nL s args own (EC D ca ak av) A) (w : Wd (EC D ca ak av) A s (wC ad ca fi fl ar) H locs) (hlink : Cond.fieldLink own idx "SaidOfHim$Village" "cost" "I" ∈ wsU) (hdg : decode cc pc = .ok (.putfield idx, 3)) (kk : ∀ (H1 : Heap) (locs1 : List Loc) (fi1 : Nat → Int32), fi1 = upd fi 14 v → Wd (EC D ca ak av) A s (wC ad ca fi1 fl ar) H1 locs1 → W p l e R s m args below meth c H1 locs1 0 0 Q (F0 m (pc + 3) ls rest)) : W p l e R s m args below meth c H locs 0 0 Q (F0 m pc ls (.int v :: .ref (ad 4) :: rest)) := va_put (D := D) (ci := 6) (v := .int v) (ty := .int) (C := RX6) (T := TX6) (N := 8) B.1.1 B.1.2.1 B.1.2.2.2.2 inU6 tyX6 tyX6_ok nmX6 B.1.2.2.2.1 B.2.1 w.1 w.2.1 w.2.2 4 rfl rfl 0 (by decide) (B.1.2.2.2.2 _ hlink) (fun _ h9 => h9) rfl (by decide +kernel) rfl rfl (Nat.le_of_ble_eq_true rfl) hdg (fun H1 locs1 hP hD hS => kk H1 locs1 _ rfl ⟨hP, hD, hS⟩)
theorem gfC_4_1 (B : Bd p m c cc nL s args own (EC D ca ak av) A) (w : Wd (EC D ca ak av) A s (wC ad ca fi fl ar) H locs) (hlink : Cond.fieldLink own idx "SaidOfHim$Village" "worth" "I" ∈ wsU) (hdg : decode cc pc = .ok (.getfield idx, 3)) (kk : W p l e R s m args below meth c H locs 0 0 Q (F0 m (pc + 3) ls (.int (fi 15) :: rest))) : W p l e R s m args below meth c H locs 0 0 Q (F0 m pc ls (.ref (ad 4) :: rest)) := va_get (D := D) (ci := 6) (C := RX6) (T := TX6) (N := 8) B.1.1 B.1.2.1 B.1.2.2.2.2 inU6 B.1.2.2.2.1 B.2.1 w.1 4 rfl rfl 1 (by decide) (B.1.2.2.2.2 _ hlink) (fun _ h9 => h9) rfl hdg kk
theorem pfC_4_1 {v : Int32} (B : Bd p m c cc nL s args own (EC D ca ak av) A) (w : Wd (EC D ca ak av) A s (wC ad ca fi fl ar) H locs) (hlink : Cond.fieldLink own idx "SaidOfHim$Village" "worth" "I" ∈ wsU) (hdg : decode cc pc = .ok (.putfield idx, 3)) (kk : ∀ (H1 : Heap) (locs1 : List Loc) (fi1 : Nat → Int32), fi1 = upd fi 15 v → Wd (EC D ca ak av) A s (wC ad ca fi1 fl ar) H1 locs1 → W p l e R s m args below meth c H1 locs1 0 0 Q (F0 m (pc + 3) ls rest)) : W p l e R s m args below meth c H locs 0 0 Q (F0 m pc ls (.int v :: .ref (ad 4) :: rest)) := va_put (D := D) (ci := 6) (v := .int v) (ty := .int) (C := RX6) (T := TX6) (N := 8) B.1.1 B.1.2.1 B.1.2.2.2.2 inU6 tyX6 tyX6_ok nmX6 B.1.2.2.2.1 B.2.1 w.1 w.2.1 w.2.2 4 rfl rfl 1 (by decide) (B.1.2.2.2.2 _ hlink) (fun _ h9 => h9) rfl (by decide +kernel) rfl rfl (Nat.le_of_ble_eq_true rfl) hdg (fun H1 locs1 hP hD hS => kk H1 locs1 _ rfl ⟨hP, hD, hS⟩)
theorem gfC_4_2 (B : Bd p m c cc nL s args own (EC D ca ak av) A) (w : Wd (EC D ca ak av) A s (wC ad ca fi fl ar) H locs) (hlink : Cond.fieldLink own idx "SaidOfHim$Village" "hand" "I" ∈ wsU) (hdg : decode cc pc = .ok (.getfield idx, 3)) (kk : W p l e R s m args below meth c H locs 0 0 Q (F0 m (pc + 3) ls (.int (fi 16) :: rest))) : W p l e R s m args below meth c H locs 0 0 Q (F0 m pc ls (.ref (ad 4) :: rest)) := va_get (D := D) (ci := 6) (C := RX6) (T := TX6) (N := 8) B.1.1 B.1.2.1 B.1.2.2.2.2 inU6 B.1.2.2.2.1 B.2.1 w.1 4 rfl rfl 2 (by decide) (B.1.2.2.2.2 _ hlink) (fun _ h9 => h9) rfl hdg kk
theorem pfC_4_2 {v : Int32} (B : Bd p m c cc nL s args own (EC D ca ak av) A) (w : Wd (EC D ca ak av) A s (wC ad ca fi fl ar) H locs) (hlink : Cond.fieldLink own idx "SaidOfHim$Village" "hand" "I" ∈ wsU) (hdg : decode cc pc = .ok (.putfield idx, 3)) (kk : ∀ (H1 : Heap) (locs1 : List Loc) (fi1 : Nat → Int32), fi1 = upd fi 16 v → Wd (EC D ca ak av) A s (wC ad ca fi1 fl ar) H1 locs1 → W p l e R s m args below meth c H1 locs1 0 0 Q (F0 m (pc + 3) ls rest)) : W p l e R s m args below meth c H locs 0 0 Q (F0 m pc ls (.int v :: .ref (ad 4) :: rest)) := va_put (D := D) (ci := 6) (v := .int v) (ty := .int) (C := RX6) (T := TX6) (N := 8) B.1.1 B.1.2.1 B.1.2.2.2.2 inU6 tyX6 tyX6_ok nmX6 B.1.2.2.2.1 B.2.1 w.1 w.2.1 w.2.2 4 rfl rfl 2 (by decide) (B.1.2.2.2.2 _ hlink) (fun _ h9 => h9) rfl (by decide +kernel) rfl rfl (Nat.le_of_ble_eq_true rfl) hdg (fun H1 locs1 hP hD hS => kk H1 locs1 _ rfl ⟨hP, hD, hS⟩)
theorem gfC_4_3 (B : Bd p m c cc nL s args own (EC D ca ak av) A) (w : Wd (EC D ca ak av) A s (wC ad ca fi fl ar) H locs) (hlink : Cond.fieldLink own idx "SaidOfHim$Village" "eye" "I" ∈ wsU) (hdg : decode cc pc = .ok (.getfield idx, 3)) (kk : W p l e R s m args below meth c H locs 0 0 Q (F0 m (pc + 3) ls (.int (fi 17) :: rest))) : W p l e R s m args below meth c H locs 0 0 Q (F0 m pc ls (.ref (ad 4) :: rest)) := va_get (D := D) (ci := 6) (C := RX6) (T := TX6) (N := 8) B.1.1 B.1.2.1 B.1.2.2.2.2 inU6 B.1.2.2.2.1 B.2.1 w.1 4 rfl rfl 3 (by decide) (B.1.2.2.2.2 _ hlink) (fun _ h9 => h9) rfl hdg kk
theorem pfC_4_3 {v : Int32} (B : Bd p m c cc nL s args own (EC D ca ak av) A) (w : Wd (EC D ca ak av) A s (wC ad ca fi fl ar) H locs) (hlink : Cond.fieldLink own idx "SaidOfHim$Village" "eye" "I" ∈ wsU) (hdg : decode cc pc = .ok (.putfield idx, 3)) (kk : ∀ (H1 : Heap) (locs1 : List Loc) (fi1 : Nat → Int32), fi1 = upd fi 17 v → Wd (EC D ca ak av) A s (wC ad ca fi1 fl ar) H1 locs1 → W p l e R s m args below meth c H1 locs1 0 0 Q (F0 m (pc + 3) ls rest)) : W p l e R s m args below meth c H locs 0 0 Q (F0 m pc ls (.int v :: .ref (ad 4) :: rest)) := va_put (D := D) (ci := 6) (v := .int v) (ty := .int) (C := RX6) (T := TX6) (N := 8) B.1.1 B.1.2.1 B.1.2.2.2.2 inU6 tyX6 tyX6_ok nmX6 B.1.2.2.2.1 B.2.1 w.1 w.2.1 w.2.2 4 rfl rfl 3 (by decide) (B.1.2.2.2.2 _ hlink) (fun _ h9 => h9) rfl (by decide +kernel) rfl rfl (Nat.le_of_ble_eq_true rfl) hdg (fun H1 locs1 hP hD hS => kk H1 locs1 _ rfl ⟨hP, hD, hS⟩)
theorem gfC_4_4 (B : Bd p m c cc nL s args own (EC D ca ak av) A) (w : Wd (EC D ca ak av) A s (wC ad ca fi fl ar) H locs) (hlink : Cond.fieldLink own idx "SaidOfHim$Village" "fade" "I" ∈ wsU) (hdg : decode cc pc = .ok (.getfield idx, 3)) (kk : W p l e R s m args below meth c H locs 0 0 Q (F0 m (pc + 3) ls (.int (fi 18) :: rest))) : W p l e R s m args below meth c H locs 0 0 Q (F0 m pc ls (.ref (ad 4) :: rest)) := va_get (D := D) (ci := 6) (C := RX6) (T := TX6) (N := 8) B.1.1 B.1.2.1 B.1.2.2.2.2 inU6 B.1.2.2.2.1 B.2.1 w.1 4 rfl rfl 4 (by decide) (B.1.2.2.2.2 _ hlink) (fun _ h9 => h9) rfl hdg kk
theorem pfC_4_4 {v : Int32} (B : Bd p m c cc nL s args own (EC D ca ak av) A) (w : Wd (EC D ca ak av) A s (wC ad ca fi fl ar) H locs) (hlink : Cond.fieldLink own idx "SaidOfHim$Village" "fade" "I" ∈ wsU) (hdg : decode cc pc = .ok (.putfield idx, 3)) (kk : ∀ (H1 : Heap) (locs1 : List Loc) (fi1 : Nat → Int32), fi1 = upd fi 18 v → Wd (EC D ca ak av) A s (wC ad ca fi1 fl ar) H1 locs1 → W p l e R s m args below meth c H1 locs1 0 0 Q (F0 m (pc + 3) ls rest)) : W p l e R s m args below meth c H locs 0 0 Q (F0 m pc ls (.int v :: .ref (ad 4) :: rest)) := va_put (D := D) (ci := 6) (v := .int v) (ty := .int) (C := RX6) (T := TX6) (N := 8) B.1.1 B.1.2.1 B.1.2.2.2.2 inU6 tyX6 tyX6_ok nmX6 B.1.2.2.2.1 B.2.1 w.1 w.2.1 w.2.2 4 rfl rfl 4 (by decide) (B.1.2.2.2.2 _ hlink) (fun _ h9 => h9) rfl (by decide +kernel) rfl rfl (Nat.le_of_ble_eq_true rfl) hdg (fun H1 locs1 hP hD hS => kk H1 locs1 _ rfl ⟨hP, hD, hS⟩)
theorem gfC_4_5 (B : Bd p m c cc nL s args own (EC D ca ak av) A) (w : Wd (EC D ca ak av) A s (wC ad ca fi fl ar) H locs) (hlink : Cond.fieldLink own idx "SaidOfHim$Village" "fresh" "I" ∈ wsU) (hdg : decode cc pc = .ok (.getfield idx, 3)) (kk : W p l e R s m args below meth c H locs 0 0 Q (F0 m (pc + 3) ls (.int (fi 19) :: rest))) : W p l e R s m args below meth c H locs 0 0 Q (F0 m pc ls (.ref (ad 4) :: rest)) := va_get (D := D) (ci := 6) (C := RX6) (T := TX6) (N := 8) B.1.1 B.1.2.1 B.1.2.2.2.2 inU6 B.1.2.2.2.1 B.2.1 w.1 4 rfl rfl 5 (by decide) (B.1.2.2.2.2 _ hlink) (fun _ h9 => h9) rfl hdg kk
theorem pfC_4_5 {v : Int32} (B : Bd p m c cc nL s args own (EC D ca ak av) A) (w : Wd (EC D ca ak av) A s (wC ad ca fi fl ar) H locs) (hlink : Cond.fieldLink own idx "SaidOfHim$Village" "fresh" "I" ∈ wsU) (hdg : decode cc pc = .ok (.putfield idx, 3)) (kk : ∀ (H1 : Heap) (locs1 : List Loc) (fi1 : Nat → Int32), fi1 = upd fi 19 v → Wd (EC D ca ak av) A s (wC ad ca fi1 fl ar) H1 locs1 → W p l e R s m args below meth c H1 locs1 0 0 Q (F0 m (pc + 3) ls rest)) : W p l e R s m args below meth c H locs 0 0 Q (F0 m pc ls (.int v :: .ref (ad 4) :: rest)) := va_put (D := D) (ci := 6) (v := .int v) (ty := .int) (C := RX6) (T := TX6) (N := 8) B.1.1 B.1.2.1 B.1.2.2.2.2 inU6 tyX6 tyX6_ok nmX6 B.1.2.2.2.1 B.2.1 w.1 w.2.1 w.2.2 4 rfl rfl 5 (by decide) (B.1.2.2.2.2 _ hlink) (fun _ h9 => h9) rfl (by decide +kernel) rfl rfl (Nat.le_of_ble_eq_true rfl) hdg (fun H1 locs1 hP hD hS => kk H1 locs1 _ rfl ⟨hP, hD, hS⟩)
theorem gfC_4_6 (B : Bd p m c cc nL s args own (EC D ca ak av) A) (w : Wd (EC D ca ak av) A s (wC ad ca fi fl ar) H locs) (hlink : Cond.fieldLink own idx "SaidOfHim$Village" "way" "I" ∈ wsU) (hdg : decode cc pc = .ok (.getfield idx, 3)) (kk : W p l e R s m args below meth c H locs 0 0 Q (F0 m (pc + 3) ls (.int (fi 20) :: rest))) : W p l e R s m args below meth c H locs 0 0 Q (F0 m pc ls (.ref (ad 4) :: rest)) := va_get (D := D) (ci := 6) (C := RX6) (T := TX6) (N := 8) B.1.1 B.1.2.1 B.1.2.2.2.2 inU6 B.1.2.2.2.1 B.2.1 w.1 4 rfl rfl 6 (by decide) (B.1.2.2.2.2 _ hlink) (fun _ h9 => h9) rfl hdg kk
theorem pfC_4_6 {v : Int32} (B : Bd p m c cc nL s args own (EC D ca ak av) A) (w : Wd (EC D ca ak av) A s (wC ad ca fi fl ar) H locs) (hlink : Cond.fieldLink own idx "SaidOfHim$Village" "way" "I" ∈ wsU) (hdg : decode cc pc = .ok (.putfield idx, 3)) (kk : ∀ (H1 : Heap) (locs1 : List Loc) (fi1 : Nat → Int32), fi1 = upd fi 20 v → Wd (EC D ca ak av) A s (wC ad ca fi1 fl ar) H1 locs1 → W p l e R s m args below meth c H1 locs1 0 0 Q (F0 m (pc + 3) ls rest)) : W p l e R s m args below meth c H locs 0 0 Q (F0 m pc ls (.int v :: .ref (ad 4) :: rest)) := va_put (D := D) (ci := 6) (v := .int v) (ty := .int) (C := RX6) (T := TX6) (N := 8) B.1.1 B.1.2.1 B.1.2.2.2.2 inU6 tyX6 tyX6_ok nmX6 B.1.2.2.2.1 B.2.1 w.1 w.2.1 w.2.2 4 rfl rfl 6 (by decide) (B.1.2.2.2.2 _ hlink) (fun _ h9 => h9) rfl (by decide +kernel) rfl rfl (Nat.le_of_ble_eq_true rfl) hdg (fun H1 locs1 hP hD hS => kk H1 locs1 _ rfl ⟨hP, hD, hS⟩)
theorem gfC_4_7 (B : Bd p m c cc nL s args own (EC D ca ak av) A) (w : Wd (EC D ca ak av) A s (wC ad ca fi fl ar) H locs) (hlink : Cond.fieldLink own idx "SaidOfHim$Village" "naming" "I" ∈ wsU) (hdg : decode cc pc = .ok (.getfield idx, 3)) (kk : W p l e R s m args below meth c H locs 0 0 Q (F0 m (pc + 3) ls (.int (fi 21) :: rest))) : W p l e R s m args below meth c H locs 0 0 Q (F0 m pc ls (.ref (ad 4) :: rest)) := va_get (D := D) (ci := 6) (C := RX6) (T := TX6) (N := 8) B.1.1 B.1.2.1 B.1.2.2.2.2 inU6 B.1.2.2.2.1 B.2.1 w.1 4 rfl rfl 7 (by decide) (B.1.2.2.2.2 _ hlink) (fun _ h9 => h9) rfl hdg kk
theorem pfC_4_7 {v : Int32} (B : Bd p m c cc nL s args own (EC D ca ak av) A) (w : Wd (EC D ca ak av) A s (wC ad ca fi fl ar) H locs) (hlink : Cond.fieldLink own idx "SaidOfHim$Village" "naming" "I" ∈ wsU) (hdg : decode cc pc = .ok (.putfield idx, 3)) (kk : ∀ (H1 : Heap) (locs1 : List Loc) (fi1 : Nat → Int32), fi1 = upd fi 21 v → Wd (EC D ca ak av) A s (wC ad ca fi1 fl ar) H1 locs1 → W p l e R s m args below meth c H1 locs1 0 0 Q (F0 m (pc + 3) ls rest)) : W p l e R s m args below meth c H locs 0 0 Q (F0 m pc ls (.int v :: .ref (ad 4) :: rest)) := va_put (D := D) (ci := 6) (v := .int v) (ty := .int) (C := RX6) (T := TX6) (N := 8) B.1.1 B.1.2.1 B.1.2.2.2.2 inU6 tyX6 tyX6_ok nmX6 B.1.2.2.2.1 B.2.1 w.1 w.2.1 w.2.2 4 rfl rfl 7 (by decide) (B.1.2.2.2.2 _ hlink) (fun _ h9 => h9) rfl (by decide +kernel) rfl rfl (Nat.le_of_ble_eq_true rfl) hdg (fun H1 locs1 hP hD hS => kk H1 locs1 _ rfl ⟨hP, hD, hS⟩)
theorem gfC_5_0 (B : Bd p m c cc nL s args own (EC D ca ak av) A) (w : Wd (EC D ca ak av) A s (wC ad ca fi fl ar) H locs) (hlink : Cond.fieldLink own idx "SaidOfHim$Custom" "odds" "[I" ∈ wsU) (hdg : decode cc pc = .ok (.getfield idx, 3)) (kk : W p l e R s m args below meth c H locs 0 0 Q (F0 m (pc + 3) ls (.ref (ad 6) :: rest))) : W p l e R s m args below meth c H locs 0 0 Q (F0 m pc ls (.ref (ad 5) :: rest)) := va_get (D := D) (ci := 1) (C := RX1) (T := TX1) (N := 8) B.1.1 B.1.2.1 B.1.2.2.2.2 inU1 B.1.2.2.2.1 B.2.1 w.1 5 rfl rfl 0 (by decide) (B.1.2.2.2.2 _ hlink) (fun _ h9 => h9) rfl hdg kk
theorem gfC_5_1 (B : Bd p m c cc nL s args own (EC D ca ak av) A) (w : Wd (EC D ca ak av) A s (wC ad ca fi fl ar) H locs) (hlink : Cond.fieldLink own idx "SaidOfHim$Custom" "own" "[I" ∈ wsU) (hdg : decode cc pc = .ok (.getfield idx, 3)) (kk : W p l e R s m args below meth c H locs 0 0 Q (F0 m (pc + 3) ls (.ref (ad 7) :: rest))) : W p l e R s m args below meth c H locs 0 0 Q (F0 m pc ls (.ref (ad 5) :: rest)) := va_get (D := D) (ci := 1) (C := RX1) (T := TX1) (N := 8) B.1.1 B.1.2.1 B.1.2.2.2.2 inU1 B.1.2.2.2.1 B.2.1 w.1 5 rfl rfl 1 (by decide) (B.1.2.2.2.2 _ hlink) (fun _ h9 => h9) rfl hdg kk
theorem gfC_5_2 (B : Bd p m c cc nL s args own (EC D ca ak av) A) (w : Wd (EC D ca ak av) A s (wC ad ca fi fl ar) H locs) (hlink : Cond.fieldLink own idx "SaidOfHim$Custom" "way" "I" ∈ wsU) (hdg : decode cc pc = .ok (.getfield idx, 3)) (kk : W p l e R s m args below meth c H locs 0 0 Q (F0 m (pc + 3) ls (.int (fi 22) :: rest))) : W p l e R s m args below meth c H locs 0 0 Q (F0 m pc ls (.ref (ad 5) :: rest)) := va_get (D := D) (ci := 1) (C := RX1) (T := TX1) (N := 8) B.1.1 B.1.2.1 B.1.2.2.2.2 inU1 B.1.2.2.2.1 B.2.1 w.1 5 rfl rfl 2 (by decide) (B.1.2.2.2.2 _ hlink) (fun _ h9 => h9) rfl hdg kk
theorem pfC_5_2 {v : Int32} (B : Bd p m c cc nL s args own (EC D ca ak av) A) (w : Wd (EC D ca ak av) A s (wC ad ca fi fl ar) H locs) (hlink : Cond.fieldLink own idx "SaidOfHim$Custom" "way" "I" ∈ wsU) (hdg : decode cc pc = .ok (.putfield idx, 3)) (kk : ∀ (H1 : Heap) (locs1 : List Loc) (fi1 : Nat → Int32), fi1 = upd fi 22 v → Wd (EC D ca ak av) A s (wC ad ca fi1 fl ar) H1 locs1 → W p l e R s m args below meth c H1 locs1 0 0 Q (F0 m (pc + 3) ls rest)) : W p l e R s m args below meth c H locs 0 0 Q (F0 m pc ls (.int v :: .ref (ad 5) :: rest)) := va_put (D := D) (ci := 1) (v := .int v) (ty := .int) (C := RX1) (T := TX1) (N := 8) B.1.1 B.1.2.1 B.1.2.2.2.2 inU1 tyX1 tyX1_ok nmX1 B.1.2.2.2.1 B.2.1 w.1 w.2.1 w.2.2 5 rfl rfl 2 (by decide) (B.1.2.2.2.2 _ hlink) (fun _ h9 => h9) rfl (by decide +kernel) rfl rfl (Nat.le_of_ble_eq_true rfl) hdg (fun H1 locs1 hP hD hS => kk H1 locs1 _ rfl ⟨hP, hD, hS⟩)
theorem gfC_5_3 (B : Bd p m c cc nL s args own (EC D ca ak av) A) (w : Wd (EC D ca ak av) A s (wC ad ca fi fl ar) H locs) (hlink : Cond.fieldLink own idx "SaidOfHim$Custom" "cost" "I" ∈ wsU) (hdg : decode cc pc = .ok (.getfield idx, 3)) (kk : W p l e R s m args below meth c H locs 0 0 Q (F0 m (pc + 3) ls (.int (fi 23) :: rest))) : W p l e R s m args below meth c H locs 0 0 Q (F0 m pc ls (.ref (ad 5) :: rest)) := va_get (D := D) (ci := 1) (C := RX1) (T := TX1) (N := 8) B.1.1 B.1.2.1 B.1.2.2.2.2 inU1 B.1.2.2.2.1 B.2.1 w.1 5 rfl rfl 3 (by decide) (B.1.2.2.2.2 _ hlink) (fun _ h9 => h9) rfl hdg kk
theorem pfC_5_3 {v : Int32} (B : Bd p m c cc nL s args own (EC D ca ak av) A) (w : Wd (EC D ca ak av) A s (wC ad ca fi fl ar) H locs) (hlink : Cond.fieldLink own idx "SaidOfHim$Custom" "cost" "I" ∈ wsU) (hdg : decode cc pc = .ok (.putfield idx, 3)) (kk : ∀ (H1 : Heap) (locs1 : List Loc) (fi1 : Nat → Int32), fi1 = upd fi 23 v → Wd (EC D ca ak av) A s (wC ad ca fi1 fl ar) H1 locs1 → W p l e R s m args below meth c H1 locs1 0 0 Q (F0 m (pc + 3) ls rest)) : W p l e R s m args below meth c H locs 0 0 Q (F0 m pc ls (.int v :: .ref (ad 5) :: rest)) := va_put (D := D) (ci := 1) (v := .int v) (ty := .int) (C := RX1) (T := TX1) (N := 8) B.1.1 B.1.2.1 B.1.2.2.2.2 inU1 tyX1 tyX1_ok nmX1 B.1.2.2.2.1 B.2.1 w.1 w.2.1 w.2.2 5 rfl rfl 3 (by decide) (B.1.2.2.2.2 _ hlink) (fun _ h9 => h9) rfl (by decide +kernel) rfl rfl (Nat.le_of_ble_eq_true rfl) hdg (fun H1 locs1 hP hD hS => kk H1 locs1 _ rfl ⟨hP, hD, hS⟩)
theorem gfC_5_4 (B : Bd p m c cc nL s args own (EC D ca ak av) A) (w : Wd (EC D ca ak av) A s (wC ad ca fi fl ar) H locs) (hlink : Cond.fieldLink own idx "SaidOfHim$Custom" "worth" "I" ∈ wsU) (hdg : decode cc pc = .ok (.getfield idx, 3)) (kk : W p l e R s m args below meth c H locs 0 0 Q (F0 m (pc + 3) ls (.int (fi 24) :: rest))) : W p l e R s m args below meth c H locs 0 0 Q (F0 m pc ls (.ref (ad 5) :: rest)) := va_get (D := D) (ci := 1) (C := RX1) (T := TX1) (N := 8) B.1.1 B.1.2.1 B.1.2.2.2.2 inU1 B.1.2.2.2.1 B.2.1 w.1 5 rfl rfl 4 (by decide) (B.1.2.2.2.2 _ hlink) (fun _ h9 => h9) rfl hdg kk
theorem pfC_5_4 {v : Int32} (B : Bd p m c cc nL s args own (EC D ca ak av) A) (w : Wd (EC D ca ak av) A s (wC ad ca fi fl ar) H locs) (hlink : Cond.fieldLink own idx "SaidOfHim$Custom" "worth" "I" ∈ wsU) (hdg : decode cc pc = .ok (.putfield idx, 3)) (kk : ∀ (H1 : Heap) (locs1 : List Loc) (fi1 : Nat → Int32), fi1 = upd fi 24 v → Wd (EC D ca ak av) A s (wC ad ca fi1 fl ar) H1 locs1 → W p l e R s m args below meth c H1 locs1 0 0 Q (F0 m (pc + 3) ls rest)) : W p l e R s m args below meth c H locs 0 0 Q (F0 m pc ls (.int v :: .ref (ad 5) :: rest)) := va_put (D := D) (ci := 1) (v := .int v) (ty := .int) (C := RX1) (T := TX1) (N := 8) B.1.1 B.1.2.1 B.1.2.2.2.2 inU1 tyX1 tyX1_ok nmX1 B.1.2.2.2.1 B.2.1 w.1 w.2.1 w.2.2 5 rfl rfl 4 (by decide) (B.1.2.2.2.2 _ hlink) (fun _ h9 => h9) rfl (by decide +kernel) rfl rfl (Nat.le_of_ble_eq_true rfl) hdg (fun H1 locs1 hP hD hS => kk H1 locs1 _ rfl ⟨hP, hD, hS⟩)
theorem gfC_5_5 (B : Bd p m c cc nL s args own (EC D ca ak av) A) (w : Wd (EC D ca ak av) A s (wC ad ca fi fl ar) H locs) (hlink : Cond.fieldLink own idx "SaidOfHim$Custom" "keep" "I" ∈ wsU) (hdg : decode cc pc = .ok (.getfield idx, 3)) (kk : W p l e R s m args below meth c H locs 0 0 Q (F0 m (pc + 3) ls (.int (fi 25) :: rest))) : W p l e R s m args below meth c H locs 0 0 Q (F0 m pc ls (.ref (ad 5) :: rest)) := va_get (D := D) (ci := 1) (C := RX1) (T := TX1) (N := 8) B.1.1 B.1.2.1 B.1.2.2.2.2 inU1 B.1.2.2.2.1 B.2.1 w.1 5 rfl rfl 5 (by decide) (B.1.2.2.2.2 _ hlink) (fun _ h9 => h9) rfl hdg kk
theorem pfC_5_5 {v : Int32} (B : Bd p m c cc nL s args own (EC D ca ak av) A) (w : Wd (EC D ca ak av) A s (wC ad ca fi fl ar) H locs) (hlink : Cond.fieldLink own idx "SaidOfHim$Custom" "keep" "I" ∈ wsU) (hdg : decode cc pc = .ok (.putfield idx, 3)) (kk : ∀ (H1 : Heap) (locs1 : List Loc) (fi1 : Nat → Int32), fi1 = upd fi 25 v → Wd (EC D ca ak av) A s (wC ad ca fi1 fl ar) H1 locs1 → W p l e R s m args below meth c H1 locs1 0 0 Q (F0 m (pc + 3) ls rest)) : W p l e R s m args below meth c H locs 0 0 Q (F0 m pc ls (.int v :: .ref (ad 5) :: rest)) := va_put (D := D) (ci := 1) (v := .int v) (ty := .int) (C := RX1) (T := TX1) (N := 8) B.1.1 B.1.2.1 B.1.2.2.2.2 inU1 tyX1 tyX1_ok nmX1 B.1.2.2.2.1 B.2.1 w.1 w.2.1 w.2.2 5 rfl rfl 5 (by decide) (B.1.2.2.2.2 _ hlink) (fun _ h9 => h9) rfl (by decide +kernel) rfl rfl (Nat.le_of_ble_eq_true rfl) hdg (fun H1 locs1 hP hD hS => kk H1 locs1 _ rfl ⟨hP, hD, hS⟩)
theorem gfC_5_6 (B : Bd p m c cc nL s args own (EC D ca ak av) A) (w : Wd (EC D ca ak av) A s (wC ad ca fi fl ar) H locs) (hlink : Cond.fieldLink own idx "SaidOfHim$Custom" "fade" "I" ∈ wsU) (hdg : decode cc pc = .ok (.getfield idx, 3)) (kk : W p l e R s m args below meth c H locs 0 0 Q (F0 m (pc + 3) ls (.int (fi 26) :: rest))) : W p l e R s m args below meth c H locs 0 0 Q (F0 m pc ls (.ref (ad 5) :: rest)) := va_get (D := D) (ci := 1) (C := RX1) (T := TX1) (N := 8) B.1.1 B.1.2.1 B.1.2.2.2.2 inU1 B.1.2.2.2.1 B.2.1 w.1 5 rfl rfl 6 (by decide) (B.1.2.2.2.2 _ hlink) (fun _ h9 => h9) rfl hdg kk
theorem pfC_5_6 {v : Int32} (B : Bd p m c cc nL s args own (EC D ca ak av) A) (w : Wd (EC D ca ak av) A s (wC ad ca fi fl ar) H locs) (hlink : Cond.fieldLink own idx "SaidOfHim$Custom" "fade" "I" ∈ wsU) (hdg : decode cc pc = .ok (.putfield idx, 3)) (kk : ∀ (H1 : Heap) (locs1 : List Loc) (fi1 : Nat → Int32), fi1 = upd fi 26 v → Wd (EC D ca ak av) A s (wC ad ca fi1 fl ar) H1 locs1 → W p l e R s m args below meth c H1 locs1 0 0 Q (F0 m (pc + 3) ls rest)) : W p l e R s m args below meth c H locs 0 0 Q (F0 m pc ls (.int v :: .ref (ad 5) :: rest)) := va_put (D := D) (ci := 1) (v := .int v) (ty := .int) (C := RX1) (T := TX1) (N := 8) B.1.1 B.1.2.1 B.1.2.2.2.2 inU1 tyX1 tyX1_ok nmX1 B.1.2.2.2.1 B.2.1 w.1 w.2.1 w.2.2 5 rfl rfl 6 (by decide) (B.1.2.2.2.2 _ hlink) (fun _ h9 => h9) rfl (by decide +kernel) rfl rfl (Nat.le_of_ble_eq_true rfl) hdg (fun H1 locs1 hP hD hS => kk H1 locs1 _ rfl ⟨hP, hD, hS⟩)
theorem gfC_5_7 (B : Bd p m c cc nL s args own (EC D ca ak av) A) (w : Wd (EC D ca ak av) A s (wC ad ca fi fl ar) H locs) (hlink : Cond.fieldLink own idx "SaidOfHim$Custom" "fresh" "I" ∈ wsU) (hdg : decode cc pc = .ok (.getfield idx, 3)) (kk : W p l e R s m args below meth c H locs 0 0 Q (F0 m (pc + 3) ls (.int (fi 27) :: rest))) : W p l e R s m args below meth c H locs 0 0 Q (F0 m pc ls (.ref (ad 5) :: rest)) := va_get (D := D) (ci := 1) (C := RX1) (T := TX1) (N := 8) B.1.1 B.1.2.1 B.1.2.2.2.2 inU1 B.1.2.2.2.1 B.2.1 w.1 5 rfl rfl 7 (by decide) (B.1.2.2.2.2 _ hlink) (fun _ h9 => h9) rfl hdg kk
theorem pfC_5_7 {v : Int32} (B : Bd p m c cc nL s args own (EC D ca ak av) A) (w : Wd (EC D ca ak av) A s (wC ad ca fi fl ar) H locs) (hlink : Cond.fieldLink own idx "SaidOfHim$Custom" "fresh" "I" ∈ wsU) (hdg : decode cc pc = .ok (.putfield idx, 3)) (kk : ∀ (H1 : Heap) (locs1 : List Loc) (fi1 : Nat → Int32), fi1 = upd fi 27 v → Wd (EC D ca ak av) A s (wC ad ca fi1 fl ar) H1 locs1 → W p l e R s m args below meth c H1 locs1 0 0 Q (F0 m (pc + 3) ls rest)) : W p l e R s m args below meth c H locs 0 0 Q (F0 m pc ls (.int v :: .ref (ad 5) :: rest)) := va_put (D := D) (ci := 1) (v := .int v) (ty := .int) (C := RX1) (T := TX1) (N := 8) B.1.1 B.1.2.1 B.1.2.2.2.2 inU1 tyX1 tyX1_ok nmX1 B.1.2.2.2.1 B.2.1 w.1 w.2.1 w.2.2 5 rfl rfl 7 (by decide) (B.1.2.2.2.2 _ hlink) (fun _ h9 => h9) rfl (by decide +kernel) rfl rfl (Nat.le_of_ble_eq_true rfl) hdg (fun H1 locs1 hP hD hS => kk H1 locs1 _ rfl ⟨hP, hD, hS⟩)
theorem alC_6 (B : Bd p m c cc nL s args own (EC D ca ak av) A) (w : Wd (EC D ca ak av) A s (wC ad ca fi fl ar) H locs) {i : Int32} (hin : vp_in i 8) (hdg : decode cc pc = .ok (.iaload, 1)) (kk : W p l e R s m args below meth c H locs 0 0 Q (F0 m (pc + 1) ls (.int (ar 6 i.toNatClampNeg) :: rest))) : W p l e R s m args below meth c H locs 0 0 Q (F0 m pc ls (.int i :: .ref (ad 6) :: rest)) := va_iald B.1.1 B.1.2.1 B.2.1 w.1 6 1 rfl rfl hin hdg kk
theorem asC_6 (B : Bd p m c cc nL s args own (EC D ca ak av) A) (w : Wd (EC D ca ak av) A s (wC ad ca fi fl ar) H locs) {i x : Int32} (hin : vp_in i 8) (hdg : decode cc pc = .ok (.iastore, 1)) (kk : ∀ (H1 : Heap) (locs1 : List Loc) (ar1 : Nat → Nat → Int32), ar1 = updA ar 6 (upd (ar 6) i.toNatClampNeg x) → Wd (EC D ca ak av) A s (wC ad ca fi fl ar1) H1 locs1 → W p l e R s m args below meth c H1 locs1 0 0 Q (F0 m (pc + 1) ls rest)) : W p l e R s m args below meth c H locs 0 0 Q (F0 m pc ls (.int x :: .int i :: .ref (ad 6) :: rest)) := va_iast B.1.1 B.1.2.1 B.2.1 w.1 w.2.1 w.2.2 6 1 rfl rfl hin hdg (fun H1 locs1 hP hD hS => kk H1 locs1 _ rfl ⟨hP, hD, hS⟩)
theorem alC_7 (B : Bd p m c cc nL s args own (EC D ca ak av) A) (w : Wd (EC D ca ak av) A s (wC ad ca fi fl ar) H locs) {i : Int32} (hin : vp_in i 4) (hdg : decode cc pc = .ok (.iaload, 1)) (kk : W p l e R s m args below meth c H locs 0 0 Q (F0 m (pc + 1) ls (.int (ar 7 i.toNatClampNeg) :: rest))) : W p l e R s m args below meth c H locs 0 0 Q (F0 m pc ls (.int i :: .ref (ad 7) :: rest)) := va_iald B.1.1 B.1.2.1 B.2.1 w.1 7 2 rfl rfl hin hdg kk
theorem asC_7 (B : Bd p m c cc nL s args own (EC D ca ak av) A) (w : Wd (EC D ca ak av) A s (wC ad ca fi fl ar) H locs) {i x : Int32} (hin : vp_in i 4) (hdg : decode cc pc = .ok (.iastore, 1)) (kk : ∀ (H1 : Heap) (locs1 : List Loc) (ar1 : Nat → Nat → Int32), ar1 = updA ar 7 (upd (ar 7) i.toNatClampNeg x) → Wd (EC D ca ak av) A s (wC ad ca fi fl ar1) H1 locs1 → W p l e R s m args below meth c H1 locs1 0 0 Q (F0 m (pc + 1) ls rest)) : W p l e R s m args below meth c H locs 0 0 Q (F0 m pc ls (.int x :: .int i :: .ref (ad 7) :: rest)) := va_iast B.1.1 B.1.2.1 B.2.1 w.1 w.2.1 w.2.2 7 2 rfl rfl hin hdg (fun H1 locs1 hP hD hS => kk H1 locs1 _ rfl ⟨hP, hD, hS⟩)
theorem gfC_8_0 (B : Bd p m c cc nL s args own (EC D ca ak av) A) (w : Wd (EC D ca ak av) A s (wC ad ca fi fl ar) H locs) (hlink : Cond.fieldLink own idx "SaidOfHim$Walk" "path" "[I" ∈ wsU) (hdg : decode cc pc = .ok (.getfield idx, 3)) (kk : W p l e R s m args below meth c H locs 0 0 Q (F0 m (pc + 3) ls (.ref (ad 9) :: rest))) : W p l e R s m args below meth c H locs 0 0 Q (F0 m pc ls (.ref (ad 8) :: rest)) := va_get (D := D) (ci := 7) (C := RX7) (T := TX7) (N := 5) B.1.1 B.1.2.1 B.1.2.2.2.2 inU7 B.1.2.2.2.1 B.2.1 w.1 8 rfl rfl 0 (by decide) (B.1.2.2.2.2 _ hlink) (fun _ h9 => h9) rfl hdg kk
theorem gfC_8_1 (B : Bd p m c cc nL s args own (EC D ca ak av) A) (w : Wd (EC D ca ak av) A s (wC ad ca fi fl ar) H locs) (hlink : Cond.fieldLink own idx "SaidOfHim$Walk" "came" "[I" ∈ wsU) (hdg : decode cc pc = .ok (.getfield idx, 3)) (kk : W p l e R s m args below meth c H locs 0 0 Q (F0 m (pc + 3) ls (.ref (ad 10) :: rest))) : W p l e R s m args below meth c H locs 0 0 Q (F0 m pc ls (.ref (ad 8) :: rest)) := va_get (D := D) (ci := 7) (C := RX7) (T := TX7) (N := 5) B.1.1 B.1.2.1 B.1.2.2.2.2 inU7 B.1.2.2.2.1 B.2.1 w.1 8 rfl rfl 1 (by decide) (B.1.2.2.2.2 _ hlink) (fun _ h9 => h9) rfl hdg kk
theorem gfC_8_2 (B : Bd p m c cc nL s args own (EC D ca ak av) A) (w : Wd (EC D ca ak av) A s (wC ad ca fi fl ar) H locs) (hlink : Cond.fieldLink own idx "SaidOfHim$Walk" "lead" "I" ∈ wsU) (hdg : decode cc pc = .ok (.getfield idx, 3)) (kk : W p l e R s m args below meth c H locs 0 0 Q (F0 m (pc + 3) ls (.int (fi 28) :: rest))) : W p l e R s m args below meth c H locs 0 0 Q (F0 m pc ls (.ref (ad 8) :: rest)) := va_get (D := D) (ci := 7) (C := RX7) (T := TX7) (N := 5) B.1.1 B.1.2.1 B.1.2.2.2.2 inU7 B.1.2.2.2.1 B.2.1 w.1 8 rfl rfl 2 (by decide) (B.1.2.2.2.2 _ hlink) (fun _ h9 => h9) rfl hdg kk
theorem pfC_8_2 {v : Int32} (B : Bd p m c cc nL s args own (EC D ca ak av) A) (w : Wd (EC D ca ak av) A s (wC ad ca fi fl ar) H locs) (hlink : Cond.fieldLink own idx "SaidOfHim$Walk" "lead" "I" ∈ wsU) (hdg : decode cc pc = .ok (.putfield idx, 3)) (kk : ∀ (H1 : Heap) (locs1 : List Loc) (fi1 : Nat → Int32), fi1 = upd fi 28 v → Wd (EC D ca ak av) A s (wC ad ca fi1 fl ar) H1 locs1 → W p l e R s m args below meth c H1 locs1 0 0 Q (F0 m (pc + 3) ls rest)) : W p l e R s m args below meth c H locs 0 0 Q (F0 m pc ls (.int v :: .ref (ad 8) :: rest)) := va_put (D := D) (ci := 7) (v := .int v) (ty := .int) (C := RX7) (T := TX7) (N := 5) B.1.1 B.1.2.1 B.1.2.2.2.2 inU7 tyX7 tyX7_ok nmX7 B.1.2.2.2.1 B.2.1 w.1 w.2.1 w.2.2 8 rfl rfl 2 (by decide) (B.1.2.2.2.2 _ hlink) (fun _ h9 => h9) rfl (by decide +kernel) rfl rfl (Nat.le_of_ble_eq_true rfl) hdg (fun H1 locs1 hP hD hS => kk H1 locs1 _ rfl ⟨hP, hD, hS⟩)
theorem gfC_8_3 (B : Bd p m c cc nL s args own (EC D ca ak av) A) (w : Wd (EC D ca ak av) A s (wC ad ca fi fl ar) H locs) (hlink : Cond.fieldLink own idx "SaidOfHim$Walk" "ring" "I" ∈ wsU) (hdg : decode cc pc = .ok (.getfield idx, 3)) (kk : W p l e R s m args below meth c H locs 0 0 Q (F0 m (pc + 3) ls (.int (fi 29) :: rest))) : W p l e R s m args below meth c H locs 0 0 Q (F0 m pc ls (.ref (ad 8) :: rest)) := va_get (D := D) (ci := 7) (C := RX7) (T := TX7) (N := 5) B.1.1 B.1.2.1 B.1.2.2.2.2 inU7 B.1.2.2.2.1 B.2.1 w.1 8 rfl rfl 3 (by decide) (B.1.2.2.2.2 _ hlink) (fun _ h9 => h9) rfl hdg kk
theorem pfC_8_3 {v : Int32} (B : Bd p m c cc nL s args own (EC D ca ak av) A) (w : Wd (EC D ca ak av) A s (wC ad ca fi fl ar) H locs) (hlink : Cond.fieldLink own idx "SaidOfHim$Walk" "ring" "I" ∈ wsU) (hdg : decode cc pc = .ok (.putfield idx, 3)) (kk : ∀ (H1 : Heap) (locs1 : List Loc) (fi1 : Nat → Int32), fi1 = upd fi 29 v → Wd (EC D ca ak av) A s (wC ad ca fi1 fl ar) H1 locs1 → W p l e R s m args below meth c H1 locs1 0 0 Q (F0 m (pc + 3) ls rest)) : W p l e R s m args below meth c H locs 0 0 Q (F0 m pc ls (.int v :: .ref (ad 8) :: rest)) := va_put (D := D) (ci := 7) (v := .int v) (ty := .int) (C := RX7) (T := TX7) (N := 5) B.1.1 B.1.2.1 B.1.2.2.2.2 inU7 tyX7 tyX7_ok nmX7 B.1.2.2.2.1 B.2.1 w.1 w.2.1 w.2.2 8 rfl rfl 3 (by decide) (B.1.2.2.2.2 _ hlink) (fun _ h9 => h9) rfl (by decide +kernel) rfl rfl (Nat.le_of_ble_eq_true rfl) hdg (fun H1 locs1 hP hD hS => kk H1 locs1 _ rfl ⟨hP, hD, hS⟩)
theorem gfC_8_4 (B : Bd p m c cc nL s args own (EC D ca ak av) A) (w : Wd (EC D ca ak av) A s (wC ad ca fi fl ar) H locs) (hlink : Cond.fieldLink own idx "SaidOfHim$Walk" "end" "I" ∈ wsU) (hdg : decode cc pc = .ok (.getfield idx, 3)) (kk : W p l e R s m args below meth c H locs 0 0 Q (F0 m (pc + 3) ls (.int (fi 30) :: rest))) : W p l e R s m args below meth c H locs 0 0 Q (F0 m pc ls (.ref (ad 8) :: rest)) := va_get (D := D) (ci := 7) (C := RX7) (T := TX7) (N := 5) B.1.1 B.1.2.1 B.1.2.2.2.2 inU7 B.1.2.2.2.1 B.2.1 w.1 8 rfl rfl 4 (by decide) (B.1.2.2.2.2 _ hlink) (fun _ h9 => h9) rfl hdg kk
theorem pfC_8_4 {v : Int32} (B : Bd p m c cc nL s args own (EC D ca ak av) A) (w : Wd (EC D ca ak av) A s (wC ad ca fi fl ar) H locs) (hlink : Cond.fieldLink own idx "SaidOfHim$Walk" "end" "I" ∈ wsU) (hdg : decode cc pc = .ok (.putfield idx, 3)) (kk : ∀ (H1 : Heap) (locs1 : List Loc) (fi1 : Nat → Int32), fi1 = upd fi 30 v → Wd (EC D ca ak av) A s (wC ad ca fi1 fl ar) H1 locs1 → W p l e R s m args below meth c H1 locs1 0 0 Q (F0 m (pc + 3) ls rest)) : W p l e R s m args below meth c H locs 0 0 Q (F0 m pc ls (.int v :: .ref (ad 8) :: rest)) := va_put (D := D) (ci := 7) (v := .int v) (ty := .int) (C := RX7) (T := TX7) (N := 5) B.1.1 B.1.2.1 B.1.2.2.2.2 inU7 tyX7 tyX7_ok nmX7 B.1.2.2.2.1 B.2.1 w.1 w.2.1 w.2.2 8 rfl rfl 4 (by decide) (B.1.2.2.2.2 _ hlink) (fun _ h9 => h9) rfl (by decide +kernel) rfl rfl (Nat.le_of_ble_eq_true rfl) hdg (fun H1 locs1 hP hD hS => kk H1 locs1 _ rfl ⟨hP, hD, hS⟩)
theorem alC_9 (B : Bd p m c cc nL s args own (EC D ca ak av) A) (w : Wd (EC D ca ak av) A s (wC ad ca fi fl ar) H locs) {i : Int32} (hin : vp_in i 1001) (hdg : decode cc pc = .ok (.iaload, 1)) (kk : W p l e R s m args below meth c H locs 0 0 Q (F0 m (pc + 1) ls (.int (ar 9 i.toNatClampNeg) :: rest))) : W p l e R s m args below meth c H locs 0 0 Q (F0 m pc ls (.int i :: .ref (ad 9) :: rest)) := va_iald B.1.1 B.1.2.1 B.2.1 w.1 9 3 rfl rfl hin hdg kk
theorem asC_9 (B : Bd p m c cc nL s args own (EC D ca ak av) A) (w : Wd (EC D ca ak av) A s (wC ad ca fi fl ar) H locs) {i x : Int32} (hin : vp_in i 1001) (hdg : decode cc pc = .ok (.iastore, 1)) (kk : ∀ (H1 : Heap) (locs1 : List Loc) (ar1 : Nat → Nat → Int32), ar1 = updA ar 9 (upd (ar 9) i.toNatClampNeg x) → Wd (EC D ca ak av) A s (wC ad ca fi fl ar1) H1 locs1 → W p l e R s m args below meth c H1 locs1 0 0 Q (F0 m (pc + 1) ls rest)) : W p l e R s m args below meth c H locs 0 0 Q (F0 m pc ls (.int x :: .int i :: .ref (ad 9) :: rest)) := va_iast B.1.1 B.1.2.1 B.2.1 w.1 w.2.1 w.2.2 9 3 rfl rfl hin hdg (fun H1 locs1 hP hD hS => kk H1 locs1 _ rfl ⟨hP, hD, hS⟩)
theorem alC_10 (B : Bd p m c cc nL s args own (EC D ca ak av) A) (w : Wd (EC D ca ak av) A s (wC ad ca fi fl ar) H locs) {i : Int32} (hin : vp_in i 1001) (hdg : decode cc pc = .ok (.iaload, 1)) (kk : W p l e R s m args below meth c H locs 0 0 Q (F0 m (pc + 1) ls (.int (ar 10 i.toNatClampNeg) :: rest))) : W p l e R s m args below meth c H locs 0 0 Q (F0 m pc ls (.int i :: .ref (ad 10) :: rest)) := va_iald B.1.1 B.1.2.1 B.2.1 w.1 10 4 rfl rfl hin hdg kk
theorem asC_10 (B : Bd p m c cc nL s args own (EC D ca ak av) A) (w : Wd (EC D ca ak av) A s (wC ad ca fi fl ar) H locs) {i x : Int32} (hin : vp_in i 1001) (hdg : decode cc pc = .ok (.iastore, 1)) (kk : ∀ (H1 : Heap) (locs1 : List Loc) (ar1 : Nat → Nat → Int32), ar1 = updA ar 10 (upd (ar 10) i.toNatClampNeg x) → Wd (EC D ca ak av) A s (wC ad ca fi fl ar1) H1 locs1 → W p l e R s m args below meth c H1 locs1 0 0 Q (F0 m (pc + 1) ls rest)) : W p l e R s m args below meth c H locs 0 0 Q (F0 m pc ls (.int x :: .int i :: .ref (ad 10) :: rest)) := va_iast B.1.1 B.1.2.1 B.2.1 w.1 w.2.1 w.2.2 10 4 rfl rfl hin hdg (fun H1 locs1 hP hD hS => kk H1 locs1 _ rfl ⟨hP, hD, hS⟩)
theorem gfC_11_0 (B : Bd p m c cc nL s args own (EC D ca ak av) A) (w : Wd (EC D ca ak av) A s (wC ad ca fi fl ar) H locs) (hlink : Cond.fieldLink own idx "SaidOfHim$Another" "good" "J" ∈ wsU) (hdg : decode cc pc = .ok (.getfield idx, 3)) (kk : W p l e R s m args below meth c H locs 0 0 Q (F0 m (pc + 3) ls (.long (fl 0) :: rest))) : W p l e R s m args below meth c H locs 0 0 Q (F0 m pc ls (.ref (ad 11) :: rest)) := va_get (D := D) (ci := 0) (C := RX0) (T := TX0) (N := 5) B.1.1 B.1.2.1 B.1.2.2.2.2 inU0 B.1.2.2.2.1 B.2.1 w.1 11 rfl rfl 0 (by decide) (B.1.2.2.2.2 _ hlink) (fun _ h9 => h9) rfl hdg kk
theorem pfC_11_0 {v : Int64} (B : Bd p m c cc nL s args own (EC D ca ak av) A) (w : Wd (EC D ca ak av) A s (wC ad ca fi fl ar) H locs) (hlink : Cond.fieldLink own idx "SaidOfHim$Another" "good" "J" ∈ wsU) (hdg : decode cc pc = .ok (.putfield idx, 3)) (kk : ∀ (H1 : Heap) (locs1 : List Loc) (fl1 : Nat → Int64), fl1 = vp_updL fl 0 v → Wd (EC D ca ak av) A s (wC ad ca fi fl1 ar) H1 locs1 → W p l e R s m args below meth c H1 locs1 0 0 Q (F0 m (pc + 3) ls rest)) : W p l e R s m args below meth c H locs 0 0 Q (F0 m pc ls (.long v :: .ref (ad 11) :: rest)) := va_put (D := D) (ci := 0) (v := .long v) (ty := .long) (C := RX0) (T := TX0) (N := 5) B.1.1 B.1.2.1 B.1.2.2.2.2 inU0 tyX0 tyX0_ok nmX0 B.1.2.2.2.1 B.2.1 w.1 w.2.1 w.2.2 11 rfl rfl 0 (by decide) (B.1.2.2.2.2 _ hlink) (fun _ h9 => h9) rfl (by decide +kernel) rfl rfl (Nat.le_of_ble_eq_true rfl) hdg (fun H1 locs1 hP hD hS => kk H1 locs1 _ rfl ⟨hP, hD, hS⟩)
theorem gfC_11_1 (B : Bd p m c cc nL s args own (EC D ca ak av) A) (w : Wd (EC D ca ak av) A s (wC ad ca fi fl ar) H locs) (hlink : Cond.fieldLink own idx "SaidOfHim$Another" "times" "J" ∈ wsU) (hdg : decode cc pc = .ok (.getfield idx, 3)) (kk : W p l e R s m args below meth c H locs 0 0 Q (F0 m (pc + 3) ls (.long (fl 1) :: rest))) : W p l e R s m args below meth c H locs 0 0 Q (F0 m pc ls (.ref (ad 11) :: rest)) := va_get (D := D) (ci := 0) (C := RX0) (T := TX0) (N := 5) B.1.1 B.1.2.1 B.1.2.2.2.2 inU0 B.1.2.2.2.1 B.2.1 w.1 11 rfl rfl 1 (by decide) (B.1.2.2.2.2 _ hlink) (fun _ h9 => h9) rfl hdg kk
theorem pfC_11_1 {v : Int64} (B : Bd p m c cc nL s args own (EC D ca ak av) A) (w : Wd (EC D ca ak av) A s (wC ad ca fi fl ar) H locs) (hlink : Cond.fieldLink own idx "SaidOfHim$Another" "times" "J" ∈ wsU) (hdg : decode cc pc = .ok (.putfield idx, 3)) (kk : ∀ (H1 : Heap) (locs1 : List Loc) (fl1 : Nat → Int64), fl1 = vp_updL fl 1 v → Wd (EC D ca ak av) A s (wC ad ca fi fl1 ar) H1 locs1 → W p l e R s m args below meth c H1 locs1 0 0 Q (F0 m (pc + 3) ls rest)) : W p l e R s m args below meth c H locs 0 0 Q (F0 m pc ls (.long v :: .ref (ad 11) :: rest)) := va_put (D := D) (ci := 0) (v := .long v) (ty := .long) (C := RX0) (T := TX0) (N := 5) B.1.1 B.1.2.1 B.1.2.2.2.2 inU0 tyX0 tyX0_ok nmX0 B.1.2.2.2.1 B.2.1 w.1 w.2.1 w.2.2 11 rfl rfl 1 (by decide) (B.1.2.2.2.2 _ hlink) (fun _ h9 => h9) rfl (by decide +kernel) rfl rfl (Nat.le_of_ble_eq_true rfl) hdg (fun H1 locs1 hP hD hS => kk H1 locs1 _ rfl ⟨hP, hD, hS⟩)
theorem gfC_11_2 (B : Bd p m c cc nL s args own (EC D ca ak av) A) (w : Wd (EC D ca ak av) A s (wC ad ca fi fl ar) H locs) (hlink : Cond.fieldLink own idx "SaidOfHim$Another" "whole" "J" ∈ wsU) (hdg : decode cc pc = .ok (.getfield idx, 3)) (kk : W p l e R s m args below meth c H locs 0 0 Q (F0 m (pc + 3) ls (.long (fl 2) :: rest))) : W p l e R s m args below meth c H locs 0 0 Q (F0 m pc ls (.ref (ad 11) :: rest)) := va_get (D := D) (ci := 0) (C := RX0) (T := TX0) (N := 5) B.1.1 B.1.2.1 B.1.2.2.2.2 inU0 B.1.2.2.2.1 B.2.1 w.1 11 rfl rfl 2 (by decide) (B.1.2.2.2.2 _ hlink) (fun _ h9 => h9) rfl hdg kk
theorem pfC_11_2 {v : Int64} (B : Bd p m c cc nL s args own (EC D ca ak av) A) (w : Wd (EC D ca ak av) A s (wC ad ca fi fl ar) H locs) (hlink : Cond.fieldLink own idx "SaidOfHim$Another" "whole" "J" ∈ wsU) (hdg : decode cc pc = .ok (.putfield idx, 3)) (kk : ∀ (H1 : Heap) (locs1 : List Loc) (fl1 : Nat → Int64), fl1 = vp_updL fl 2 v → Wd (EC D ca ak av) A s (wC ad ca fi fl1 ar) H1 locs1 → W p l e R s m args below meth c H1 locs1 0 0 Q (F0 m (pc + 3) ls rest)) : W p l e R s m args below meth c H locs 0 0 Q (F0 m pc ls (.long v :: .ref (ad 11) :: rest)) := va_put (D := D) (ci := 0) (v := .long v) (ty := .long) (C := RX0) (T := TX0) (N := 5) B.1.1 B.1.2.1 B.1.2.2.2.2 inU0 tyX0 tyX0_ok nmX0 B.1.2.2.2.1 B.2.1 w.1 w.2.1 w.2.2 11 rfl rfl 2 (by decide) (B.1.2.2.2.2 _ hlink) (fun _ h9 => h9) rfl (by decide +kernel) rfl rfl (Nat.le_of_ble_eq_true rfl) hdg (fun H1 locs1 hP hD hS => kk H1 locs1 _ rfl ⟨hP, hD, hS⟩)
theorem gfC_11_3 (B : Bd p m c cc nL s args own (EC D ca ak av) A) (w : Wd (EC D ca ak av) A s (wC ad ca fi fl ar) H locs) (hlink : Cond.fieldLink own idx "SaidOfHim$Another" "part" "J" ∈ wsU) (hdg : decode cc pc = .ok (.getfield idx, 3)) (kk : W p l e R s m args below meth c H locs 0 0 Q (F0 m (pc + 3) ls (.long (fl 3) :: rest))) : W p l e R s m args below meth c H locs 0 0 Q (F0 m pc ls (.ref (ad 11) :: rest)) := va_get (D := D) (ci := 0) (C := RX0) (T := TX0) (N := 5) B.1.1 B.1.2.1 B.1.2.2.2.2 inU0 B.1.2.2.2.1 B.2.1 w.1 11 rfl rfl 3 (by decide) (B.1.2.2.2.2 _ hlink) (fun _ h9 => h9) rfl hdg kk
theorem pfC_11_3 {v : Int64} (B : Bd p m c cc nL s args own (EC D ca ak av) A) (w : Wd (EC D ca ak av) A s (wC ad ca fi fl ar) H locs) (hlink : Cond.fieldLink own idx "SaidOfHim$Another" "part" "J" ∈ wsU) (hdg : decode cc pc = .ok (.putfield idx, 3)) (kk : ∀ (H1 : Heap) (locs1 : List Loc) (fl1 : Nat → Int64), fl1 = vp_updL fl 3 v → Wd (EC D ca ak av) A s (wC ad ca fi fl1 ar) H1 locs1 → W p l e R s m args below meth c H1 locs1 0 0 Q (F0 m (pc + 3) ls rest)) : W p l e R s m args below meth c H locs 0 0 Q (F0 m pc ls (.long v :: .ref (ad 11) :: rest)) := va_put (D := D) (ci := 0) (v := .long v) (ty := .long) (C := RX0) (T := TX0) (N := 5) B.1.1 B.1.2.1 B.1.2.2.2.2 inU0 tyX0 tyX0_ok nmX0 B.1.2.2.2.1 B.2.1 w.1 w.2.1 w.2.2 11 rfl rfl 3 (by decide) (B.1.2.2.2.2 _ hlink) (fun _ h9 => h9) rfl (by decide +kernel) rfl rfl (Nat.le_of_ble_eq_true rfl) hdg (fun H1 locs1 hP hD hS => kk H1 locs1 _ rfl ⟨hP, hD, hS⟩)
theorem gfC_11_4 (B : Bd p m c cc nL s args own (EC D ca ak av) A) (w : Wd (EC D ca ak av) A s (wC ad ca fi fl ar) H locs) (hlink : Cond.fieldLink own idx "SaidOfHim$Another" "has" "J" ∈ wsU) (hdg : decode cc pc = .ok (.getfield idx, 3)) (kk : W p l e R s m args below meth c H locs 0 0 Q (F0 m (pc + 3) ls (.long (fl 4) :: rest))) : W p l e R s m args below meth c H locs 0 0 Q (F0 m pc ls (.ref (ad 11) :: rest)) := va_get (D := D) (ci := 0) (C := RX0) (T := TX0) (N := 5) B.1.1 B.1.2.1 B.1.2.2.2.2 inU0 B.1.2.2.2.1 B.2.1 w.1 11 rfl rfl 4 (by decide) (B.1.2.2.2.2 _ hlink) (fun _ h9 => h9) rfl hdg kk
theorem pfC_11_4 {v : Int64} (B : Bd p m c cc nL s args own (EC D ca ak av) A) (w : Wd (EC D ca ak av) A s (wC ad ca fi fl ar) H locs) (hlink : Cond.fieldLink own idx "SaidOfHim$Another" "has" "J" ∈ wsU) (hdg : decode cc pc = .ok (.putfield idx, 3)) (kk : ∀ (H1 : Heap) (locs1 : List Loc) (fl1 : Nat → Int64), fl1 = vp_updL fl 4 v → Wd (EC D ca ak av) A s (wC ad ca fi fl1 ar) H1 locs1 → W p l e R s m args below meth c H1 locs1 0 0 Q (F0 m (pc + 3) ls rest)) : W p l e R s m args below meth c H locs 0 0 Q (F0 m pc ls (.long v :: .ref (ad 11) :: rest)) := va_put (D := D) (ci := 0) (v := .long v) (ty := .long) (C := RX0) (T := TX0) (N := 5) B.1.1 B.1.2.1 B.1.2.2.2.2 inU0 tyX0 tyX0_ok nmX0 B.1.2.2.2.1 B.2.1 w.1 w.2.1 w.2.2 11 rfl rfl 4 (by decide) (B.1.2.2.2.2 _ hlink) (fun _ h9 => h9) rfl (by decide +kernel) rfl rfl (Nat.le_of_ble_eq_true rfl) hdg (fun H1 locs1 hP hD hS => kk H1 locs1 _ rfl ⟨hP, hD, hS⟩)
theorem gfC_12_0 (B : Bd p m c cc nL s args own (EC D ca ak av) A) (w : Wd (EC D ca ak av) A s (wC ad ca fi fl ar) H locs) (hlink : Cond.fieldLink own idx "SaidOfHim$Judge" "village" "LSaidOfHim$Village;" ∈ wsU) (hdg : decode cc pc = .ok (.getfield idx, 3)) (kk : W p l e R s m args below meth c H locs 0 0 Q (F0 m (pc + 3) ls (.ref (ad 1) :: rest))) : W p l e R s m args below meth c H locs 0 0 Q (F0 m pc ls (.ref (ad 12) :: rest)) := va_get (D := D) (ci := 2) (C := RX2) (T := TX2) (N := 7) B.1.1 B.1.2.1 B.1.2.2.2.2 inU2 B.1.2.2.2.1 B.2.1 w.1 12 rfl rfl 0 (by decide) (B.1.2.2.2.2 _ hlink) (fun _ h9 => h9) rfl hdg kk
theorem gfC_12_1 (B : Bd p m c cc nL s args own (EC D ca ak av) A) (w : Wd (EC D ca ak av) A s (wC ad ca fi fl ar) H locs) (hlink : Cond.fieldLink own idx "SaidOfHim$Judge" "custom" "LSaidOfHim$Custom;" ∈ wsU) (hdg : decode cc pc = .ok (.getfield idx, 3)) (kk : W p l e R s m args below meth c H locs 0 0 Q (F0 m (pc + 3) ls (.ref (ad 5) :: rest))) : W p l e R s m args below meth c H locs 0 0 Q (F0 m pc ls (.ref (ad 12) :: rest)) := va_get (D := D) (ci := 2) (C := RX2) (T := TX2) (N := 7) B.1.1 B.1.2.1 B.1.2.2.2.2 inU2 B.1.2.2.2.1 B.2.1 w.1 12 rfl rfl 1 (by decide) (B.1.2.2.2.2 _ hlink) (fun _ h9 => h9) rfl hdg kk
theorem gfC_12_2 (B : Bd p m c cc nL s args own (EC D ca ak av) A) (w : Wd (EC D ca ak av) A s (wC ad ca fi fl ar) H locs) (hlink : Cond.fieldLink own idx "SaidOfHim$Judge" "walk" "LSaidOfHim$Walk;" ∈ wsU) (hdg : decode cc pc = .ok (.getfield idx, 3)) (kk : W p l e R s m args below meth c H locs 0 0 Q (F0 m (pc + 3) ls (.ref (ad 8) :: rest))) : W p l e R s m args below meth c H locs 0 0 Q (F0 m pc ls (.ref (ad 12) :: rest)) := va_get (D := D) (ci := 2) (C := RX2) (T := TX2) (N := 7) B.1.1 B.1.2.1 B.1.2.2.2.2 inU2 B.1.2.2.2.1 B.2.1 w.1 12 rfl rfl 2 (by decide) (B.1.2.2.2.2 _ hlink) (fun _ h9 => h9) rfl hdg kk
theorem gfC_12_3 (B : Bd p m c cc nL s args own (EC D ca ak av) A) (w : Wd (EC D ca ak av) A s (wC ad ca fi fl ar) H locs) (hlink : Cond.fieldLink own idx "SaidOfHim$Judge" "another" "LSaidOfHim$Another;" ∈ wsU) (hdg : decode cc pc = .ok (.getfield idx, 3)) (kk : W p l e R s m args below meth c H locs 0 0 Q (F0 m (pc + 3) ls (.ref (ad 11) :: rest))) : W p l e R s m args below meth c H locs 0 0 Q (F0 m pc ls (.ref (ad 12) :: rest)) := va_get (D := D) (ci := 2) (C := RX2) (T := TX2) (N := 7) B.1.1 B.1.2.1 B.1.2.2.2.2 inU2 B.1.2.2.2.1 B.2.1 w.1 12 rfl rfl 3 (by decide) (B.1.2.2.2.2 _ hlink) (fun _ h9 => h9) rfl hdg kk
theorem gfC_12_4 (B : Bd p m c cc nL s args own (EC D ca ak av) A) (w : Wd (EC D ca ak av) A s (wC ad ca fi fl ar) H locs) (hlink : Cond.fieldLink own idx "SaidOfHim$Judge" "whole" "J" ∈ wsU) (hdg : decode cc pc = .ok (.getfield idx, 3)) (kk : W p l e R s m args below meth c H locs 0 0 Q (F0 m (pc + 3) ls (.long (fl 5) :: rest))) : W p l e R s m args below meth c H locs 0 0 Q (F0 m pc ls (.ref (ad 12) :: rest)) := va_get (D := D) (ci := 2) (C := RX2) (T := TX2) (N := 7) B.1.1 B.1.2.1 B.1.2.2.2.2 inU2 B.1.2.2.2.1 B.2.1 w.1 12 rfl rfl 4 (by decide) (B.1.2.2.2.2 _ hlink) (fun _ h9 => h9) rfl hdg kk
theorem pfC_12_4 {v : Int64} (B : Bd p m c cc nL s args own (EC D ca ak av) A) (w : Wd (EC D ca ak av) A s (wC ad ca fi fl ar) H locs) (hlink : Cond.fieldLink own idx "SaidOfHim$Judge" "whole" "J" ∈ wsU) (hdg : decode cc pc = .ok (.putfield idx, 3)) (kk : ∀ (H1 : Heap) (locs1 : List Loc) (fl1 : Nat → Int64), fl1 = vp_updL fl 5 v → Wd (EC D ca ak av) A s (wC ad ca fi fl1 ar) H1 locs1 → W p l e R s m args below meth c H1 locs1 0 0 Q (F0 m (pc + 3) ls rest)) : W p l e R s m args below meth c H locs 0 0 Q (F0 m pc ls (.long v :: .ref (ad 12) :: rest)) := va_put (D := D) (ci := 2) (v := .long v) (ty := .long) (C := RX2) (T := TX2) (N := 7) B.1.1 B.1.2.1 B.1.2.2.2.2 inU2 tyX2 tyX2_ok nmX2 B.1.2.2.2.1 B.2.1 w.1 w.2.1 w.2.2 12 rfl rfl 4 (by decide) (B.1.2.2.2.2 _ hlink) (fun _ h9 => h9) rfl (by decide +kernel) rfl rfl (Nat.le_of_ble_eq_true rfl) hdg (fun H1 locs1 hP hD hS => kk H1 locs1 _ rfl ⟨hP, hD, hS⟩)
theorem gfC_12_5 (B : Bd p m c cc nL s args own (EC D ca ak av) A) (w : Wd (EC D ca ak av) A s (wC ad ca fi fl ar) H locs) (hlink : Cond.fieldLink own idx "SaidOfHim$Judge" "part" "J" ∈ wsU) (hdg : decode cc pc = .ok (.getfield idx, 3)) (kk : W p l e R s m args below meth c H locs 0 0 Q (F0 m (pc + 3) ls (.long (fl 6) :: rest))) : W p l e R s m args below meth c H locs 0 0 Q (F0 m pc ls (.ref (ad 12) :: rest)) := va_get (D := D) (ci := 2) (C := RX2) (T := TX2) (N := 7) B.1.1 B.1.2.1 B.1.2.2.2.2 inU2 B.1.2.2.2.1 B.2.1 w.1 12 rfl rfl 5 (by decide) (B.1.2.2.2.2 _ hlink) (fun _ h9 => h9) rfl hdg kk
theorem pfC_12_5 {v : Int64} (B : Bd p m c cc nL s args own (EC D ca ak av) A) (w : Wd (EC D ca ak av) A s (wC ad ca fi fl ar) H locs) (hlink : Cond.fieldLink own idx "SaidOfHim$Judge" "part" "J" ∈ wsU) (hdg : decode cc pc = .ok (.putfield idx, 3)) (kk : ∀ (H1 : Heap) (locs1 : List Loc) (fl1 : Nat → Int64), fl1 = vp_updL fl 6 v → Wd (EC D ca ak av) A s (wC ad ca fi fl1 ar) H1 locs1 → W p l e R s m args below meth c H1 locs1 0 0 Q (F0 m (pc + 3) ls rest)) : W p l e R s m args below meth c H locs 0 0 Q (F0 m pc ls (.long v :: .ref (ad 12) :: rest)) := va_put (D := D) (ci := 2) (v := .long v) (ty := .long) (C := RX2) (T := TX2) (N := 7) B.1.1 B.1.2.1 B.1.2.2.2.2 inU2 tyX2 tyX2_ok nmX2 B.1.2.2.2.1 B.2.1 w.1 w.2.1 w.2.2 12 rfl rfl 5 (by decide) (B.1.2.2.2.2 _ hlink) (fun _ h9 => h9) rfl (by decide +kernel) rfl rfl (Nat.le_of_ble_eq_true rfl) hdg (fun H1 locs1 hP hD hS => kk H1 locs1 _ rfl ⟨hP, hD, hS⟩)
theorem gfC_12_6 (B : Bd p m c cc nL s args own (EC D ca ak av) A) (w : Wd (EC D ca ak av) A s (wC ad ca fi fl ar) H locs) (hlink : Cond.fieldLink own idx "SaidOfHim$Judge" "times" "J" ∈ wsU) (hdg : decode cc pc = .ok (.getfield idx, 3)) (kk : W p l e R s m args below meth c H locs 0 0 Q (F0 m (pc + 3) ls (.long (fl 7) :: rest))) : W p l e R s m args below meth c H locs 0 0 Q (F0 m pc ls (.ref (ad 12) :: rest)) := va_get (D := D) (ci := 2) (C := RX2) (T := TX2) (N := 7) B.1.1 B.1.2.1 B.1.2.2.2.2 inU2 B.1.2.2.2.1 B.2.1 w.1 12 rfl rfl 6 (by decide) (B.1.2.2.2.2 _ hlink) (fun _ h9 => h9) rfl hdg kk
theorem pfC_12_6 {v : Int64} (B : Bd p m c cc nL s args own (EC D ca ak av) A) (w : Wd (EC D ca ak av) A s (wC ad ca fi fl ar) H locs) (hlink : Cond.fieldLink own idx "SaidOfHim$Judge" "times" "J" ∈ wsU) (hdg : decode cc pc = .ok (.putfield idx, 3)) (kk : ∀ (H1 : Heap) (locs1 : List Loc) (fl1 : Nat → Int64), fl1 = vp_updL fl 7 v → Wd (EC D ca ak av) A s (wC ad ca fi fl1 ar) H1 locs1 → W p l e R s m args below meth c H1 locs1 0 0 Q (F0 m (pc + 3) ls rest)) : W p l e R s m args below meth c H locs 0 0 Q (F0 m pc ls (.long v :: .ref (ad 12) :: rest)) := va_put (D := D) (ci := 2) (v := .long v) (ty := .long) (C := RX2) (T := TX2) (N := 7) B.1.1 B.1.2.1 B.1.2.2.2.2 inU2 tyX2 tyX2_ok nmX2 B.1.2.2.2.1 B.2.1 w.1 w.2.1 w.2.2 12 rfl rfl 6 (by decide) (B.1.2.2.2.2 _ hlink) (fun _ h9 => h9) rfl (by decide +kernel) rfl rfl (Nat.le_of_ble_eq_true rfl) hdg (fun H1 locs1 hP hD hS => kk H1 locs1 _ rfl ⟨hP, hD, hS⟩)
theorem gfC_13_0 (B : Bd p m c cc nL s args own (EC D ca ak av) A) (w : Wd (EC D ca ak av) A s (wC ad ca fi fl ar) H locs) (hlink : Cond.fieldLink own idx "SaidOfHim$Survey" "judge" "LSaidOfHim$Judge;" ∈ wsU) (hdg : decode cc pc = .ok (.getfield idx, 3)) (kk : W p l e R s m args below meth c H locs 0 0 Q (F0 m (pc + 3) ls (.ref (ad 12) :: rest))) : W p l e R s m args below meth c H locs 0 0 Q (F0 m pc ls (.ref (ad 13) :: rest)) := va_get (D := D) (ci := 4) (C := RX4) (T := TX4) (N := 5) B.1.1 B.1.2.1 B.1.2.2.2.2 inU4 B.1.2.2.2.1 B.2.1 w.1 13 rfl rfl 0 (by decide) (B.1.2.2.2.2 _ hlink) (fun _ h9 => h9) rfl hdg kk
theorem gfC_13_1 (B : Bd p m c cc nL s args own (EC D ca ak av) A) (w : Wd (EC D ca ak av) A s (wC ad ca fi fl ar) H locs) (hlink : Cond.fieldLink own idx "SaidOfHim$Survey" "aids" "[I" ∈ wsU) (hdg : decode cc pc = .ok (.getfield idx, 3)) (kk : W p l e R s m args below meth c H locs 0 0 Q (F0 m (pc + 3) ls (.ref (ad 14) :: rest))) : W p l e R s m args below meth c H locs 0 0 Q (F0 m pc ls (.ref (ad 13) :: rest)) := va_get (D := D) (ci := 4) (C := RX4) (T := TX4) (N := 5) B.1.1 B.1.2.1 B.1.2.2.2.2 inU4 B.1.2.2.2.1 B.2.1 w.1 13 rfl rfl 1 (by decide) (B.1.2.2.2.2 _ hlink) (fun _ h9 => h9) rfl hdg kk
theorem gfC_13_2 (B : Bd p m c cc nL s args own (EC D ca ak av) A) (w : Wd (EC D ca ak av) A s (wC ad ca fi fl ar) H locs) (hlink : Cond.fieldLink own idx "SaidOfHim$Survey" "made" "Z" ∈ wsU) (hdg : decode cc pc = .ok (.getfield idx, 3)) (kk : W p l e R s m args below meth c H locs 0 0 Q (F0 m (pc + 3) ls (.int (fi 31) :: rest))) : W p l e R s m args below meth c H locs 0 0 Q (F0 m pc ls (.ref (ad 13) :: rest)) := va_get (D := D) (ci := 4) (C := RX4) (T := TX4) (N := 5) B.1.1 B.1.2.1 B.1.2.2.2.2 inU4 B.1.2.2.2.1 B.2.1 w.1 13 rfl rfl 2 (by decide) (B.1.2.2.2.2 _ hlink) (fun _ h9 => h9) rfl hdg kk
theorem pfC_13_2 {v : Int32} (B : Bd p m c cc nL s args own (EC D ca ak av) A) (w : Wd (EC D ca ak av) A s (wC ad ca fi fl ar) H locs) (hlink : Cond.fieldLink own idx "SaidOfHim$Survey" "made" "Z" ∈ wsU) (hz : narrow .boolean (.int v) = .int v) (hf : fits .boolean (.int v) = true) (hdg : decode cc pc = .ok (.putfield idx, 3)) (kk : ∀ (H1 : Heap) (locs1 : List Loc) (fi1 : Nat → Int32), fi1 = upd fi 31 v → Wd (EC D ca ak av) A s (wC ad ca fi1 fl ar) H1 locs1 → W p l e R s m args below meth c H1 locs1 0 0 Q (F0 m (pc + 3) ls rest)) : W p l e R s m args below meth c H locs 0 0 Q (F0 m pc ls (.int v :: .ref (ad 13) :: rest)) := va_put (D := D) (ci := 4) (v := .int v) (ty := .boolean) (C := RX4) (T := TX4) (N := 5) B.1.1 B.1.2.1 B.1.2.2.2.2 inU4 tyX4 tyX4_ok nmX4 B.1.2.2.2.1 B.2.1 w.1 w.2.1 w.2.2 13 rfl rfl 2 (by decide) (B.1.2.2.2.2 _ hlink) (fun _ h9 => h9) rfl (by decide +kernel) hz hf (Nat.le_of_ble_eq_true rfl) hdg (fun H1 locs1 hP hD hS => kk H1 locs1 _ rfl ⟨hP, hD, hS⟩)
theorem gfC_13_3 (B : Bd p m c cc nL s args own (EC D ca ak av) A) (w : Wd (EC D ca ak av) A s (wC ad ca fi fl ar) H locs) (hlink : Cond.fieldLink own idx "SaidOfHim$Survey" "top" "I" ∈ wsU) (hdg : decode cc pc = .ok (.getfield idx, 3)) (kk : W p l e R s m args below meth c H locs 0 0 Q (F0 m (pc + 3) ls (.int (fi 32) :: rest))) : W p l e R s m args below meth c H locs 0 0 Q (F0 m pc ls (.ref (ad 13) :: rest)) := va_get (D := D) (ci := 4) (C := RX4) (T := TX4) (N := 5) B.1.1 B.1.2.1 B.1.2.2.2.2 inU4 B.1.2.2.2.1 B.2.1 w.1 13 rfl rfl 3 (by decide) (B.1.2.2.2.2 _ hlink) (fun _ h9 => h9) rfl hdg kk
theorem pfC_13_3 {v : Int32} (B : Bd p m c cc nL s args own (EC D ca ak av) A) (w : Wd (EC D ca ak av) A s (wC ad ca fi fl ar) H locs) (hlink : Cond.fieldLink own idx "SaidOfHim$Survey" "top" "I" ∈ wsU) (hdg : decode cc pc = .ok (.putfield idx, 3)) (kk : ∀ (H1 : Heap) (locs1 : List Loc) (fi1 : Nat → Int32), fi1 = upd fi 32 v → Wd (EC D ca ak av) A s (wC ad ca fi1 fl ar) H1 locs1 → W p l e R s m args below meth c H1 locs1 0 0 Q (F0 m (pc + 3) ls rest)) : W p l e R s m args below meth c H locs 0 0 Q (F0 m pc ls (.int v :: .ref (ad 13) :: rest)) := va_put (D := D) (ci := 4) (v := .int v) (ty := .int) (C := RX4) (T := TX4) (N := 5) B.1.1 B.1.2.1 B.1.2.2.2.2 inU4 tyX4 tyX4_ok nmX4 B.1.2.2.2.1 B.2.1 w.1 w.2.1 w.2.2 13 rfl rfl 3 (by decide) (B.1.2.2.2.2 _ hlink) (fun _ h9 => h9) rfl (by decide +kernel) rfl rfl (Nat.le_of_ble_eq_true rfl) hdg (fun H1 locs1 hP hD hS => kk H1 locs1 _ rfl ⟨hP, hD, hS⟩)
theorem gfC_13_4 (B : Bd p m c cc nL s args own (EC D ca ak av) A) (w : Wd (EC D ca ak av) A s (wC ad ca fi fl ar) H locs) (hlink : Cond.fieldLink own idx "SaidOfHim$Survey" "firm" "I" ∈ wsU) (hdg : decode cc pc = .ok (.getfield idx, 3)) (kk : W p l e R s m args below meth c H locs 0 0 Q (F0 m (pc + 3) ls (.int (fi 33) :: rest))) : W p l e R s m args below meth c H locs 0 0 Q (F0 m pc ls (.ref (ad 13) :: rest)) := va_get (D := D) (ci := 4) (C := RX4) (T := TX4) (N := 5) B.1.1 B.1.2.1 B.1.2.2.2.2 inU4 B.1.2.2.2.1 B.2.1 w.1 13 rfl rfl 4 (by decide) (B.1.2.2.2.2 _ hlink) (fun _ h9 => h9) rfl hdg kk
theorem pfC_13_4 {v : Int32} (B : Bd p m c cc nL s args own (EC D ca ak av) A) (w : Wd (EC D ca ak av) A s (wC ad ca fi fl ar) H locs) (hlink : Cond.fieldLink own idx "SaidOfHim$Survey" "firm" "I" ∈ wsU) (hdg : decode cc pc = .ok (.putfield idx, 3)) (kk : ∀ (H1 : Heap) (locs1 : List Loc) (fi1 : Nat → Int32), fi1 = upd fi 33 v → Wd (EC D ca ak av) A s (wC ad ca fi1 fl ar) H1 locs1 → W p l e R s m args below meth c H1 locs1 0 0 Q (F0 m (pc + 3) ls rest)) : W p l e R s m args below meth c H locs 0 0 Q (F0 m pc ls (.int v :: .ref (ad 13) :: rest)) := va_put (D := D) (ci := 4) (v := .int v) (ty := .int) (C := RX4) (T := TX4) (N := 5) B.1.1 B.1.2.1 B.1.2.2.2.2 inU4 tyX4 tyX4_ok nmX4 B.1.2.2.2.1 B.2.1 w.1 w.2.1 w.2.2 13 rfl rfl 4 (by decide) (B.1.2.2.2.2 _ hlink) (fun _ h9 => h9) rfl (by decide +kernel) rfl rfl (Nat.le_of_ble_eq_true rfl) hdg (fun H1 locs1 hP hD hS => kk H1 locs1 _ rfl ⟨hP, hD, hS⟩)
theorem alC_14 (B : Bd p m c cc nL s args own (EC D ca ak av) A) (w : Wd (EC D ca ak av) A s (wC ad ca fi fl ar) H locs) {i : Int32} (hin : vp_in i 4096) (hdg : decode cc pc = .ok (.iaload, 1)) (kk : W p l e R s m args below meth c H locs 0 0 Q (F0 m (pc + 1) ls (.int (ar 14 i.toNatClampNeg) :: rest))) : W p l e R s m args below meth c H locs 0 0 Q (F0 m pc ls (.int i :: .ref (ad 14) :: rest)) := va_iald B.1.1 B.1.2.1 B.2.1 w.1 14 5 rfl rfl hin hdg kk
theorem asC_14 (B : Bd p m c cc nL s args own (EC D ca ak av) A) (w : Wd (EC D ca ak av) A s (wC ad ca fi fl ar) H locs) {i x : Int32} (hin : vp_in i 4096) (hdg : decode cc pc = .ok (.iastore, 1)) (kk : ∀ (H1 : Heap) (locs1 : List Loc) (ar1 : Nat → Nat → Int32), ar1 = updA ar 14 (upd (ar 14) i.toNatClampNeg x) → Wd (EC D ca ak av) A s (wC ad ca fi fl ar1) H1 locs1 → W p l e R s m args below meth c H1 locs1 0 0 Q (F0 m (pc + 1) ls rest)) : W p l e R s m args below meth c H locs 0 0 Q (F0 m pc ls (.int x :: .int i :: .ref (ad 14) :: rest)) := va_iast B.1.1 B.1.2.1 B.2.1 w.1 w.2.1 w.2.2 14 5 rfl rfl hin hdg (fun H1 locs1 hP hD hS => kk H1 locs1 _ rfl ⟨hP, hD, hS⟩)
theorem gfC_15_0 (B : Bd p m c cc nL s args own (EC D ca ak av) A) (w : Wd (EC D ca ak av) A s (wC ad ca fi fl ar) H locs) (hlink : Cond.fieldLink own idx "SaidOfHim$Views" "good" "[I" ∈ wsU) (hdg : decode cc pc = .ok (.getfield idx, 3)) (kk : W p l e R s m args below meth c H locs 0 0 Q (F0 m (pc + 3) ls (.ref (ad 16) :: rest))) : W p l e R s m args below meth c H locs 0 0 Q (F0 m pc ls (.ref (ad 15) :: rest)) := va_get (D := D) (ci := 5) (C := RX5) (T := TX5) (N := 2) B.1.1 B.1.2.1 B.1.2.2.2.2 inU5 B.1.2.2.2.1 B.2.1 w.1 15 rfl rfl 0 (by decide) (B.1.2.2.2.2 _ hlink) (fun _ h9 => h9) rfl hdg kk
theorem gfC_15_1 (B : Bd p m c cc nL s args own (EC D ca ak av) A) (w : Wd (EC D ca ak av) A s (wC ad ca fi fl ar) H locs) (hlink : Cond.fieldLink own idx "SaidOfHim$Views" "kindred" "[I" ∈ wsU) (hdg : decode cc pc = .ok (.getfield idx, 3)) (kk : W p l e R s m args below meth c H locs 0 0 Q (F0 m (pc + 3) ls (.ref (ad 17) :: rest))) : W p l e R s m args below meth c H locs 0 0 Q (F0 m pc ls (.ref (ad 15) :: rest)) := va_get (D := D) (ci := 5) (C := RX5) (T := TX5) (N := 2) B.1.1 B.1.2.1 B.1.2.2.2.2 inU5 B.1.2.2.2.1 B.2.1 w.1 15 rfl rfl 1 (by decide) (B.1.2.2.2.2 _ hlink) (fun _ h9 => h9) rfl hdg kk
theorem alC_16 (B : Bd p m c cc nL s args own (EC D ca ak av) A) (w : Wd (EC D ca ak av) A s (wC ad ca fi fl ar) H locs) {i : Int32} (hin : vp_in i 6) (hdg : decode cc pc = .ok (.iaload, 1)) (kk : W p l e R s m args below meth c H locs 0 0 Q (F0 m (pc + 1) ls (.int (ar 16 i.toNatClampNeg) :: rest))) : W p l e R s m args below meth c H locs 0 0 Q (F0 m pc ls (.int i :: .ref (ad 16) :: rest)) := va_iald B.1.1 B.1.2.1 B.2.1 w.1 16 6 rfl rfl hin hdg kk
theorem asC_16 (B : Bd p m c cc nL s args own (EC D ca ak av) A) (w : Wd (EC D ca ak av) A s (wC ad ca fi fl ar) H locs) {i x : Int32} (hin : vp_in i 6) (hdg : decode cc pc = .ok (.iastore, 1)) (kk : ∀ (H1 : Heap) (locs1 : List Loc) (ar1 : Nat → Nat → Int32), ar1 = updA ar 16 (upd (ar 16) i.toNatClampNeg x) → Wd (EC D ca ak av) A s (wC ad ca fi fl ar1) H1 locs1 → W p l e R s m args below meth c H1 locs1 0 0 Q (F0 m (pc + 1) ls rest)) : W p l e R s m args below meth c H locs 0 0 Q (F0 m pc ls (.int x :: .int i :: .ref (ad 16) :: rest)) := va_iast B.1.1 B.1.2.1 B.2.1 w.1 w.2.1 w.2.2 16 6 rfl rfl hin hdg (fun H1 locs1 hP hD hS => kk H1 locs1 _ rfl ⟨hP, hD, hS⟩)
theorem alC_17 (B : Bd p m c cc nL s args own (EC D ca ak av) A) (w : Wd (EC D ca ak av) A s (wC ad ca fi fl ar) H locs) {i : Int32} (hin : vp_in i 6) (hdg : decode cc pc = .ok (.iaload, 1)) (kk : W p l e R s m args below meth c H locs 0 0 Q (F0 m (pc + 1) ls (.int (ar 17 i.toNatClampNeg) :: rest))) : W p l e R s m args below meth c H locs 0 0 Q (F0 m pc ls (.int i :: .ref (ad 17) :: rest)) := va_iald B.1.1 B.1.2.1 B.2.1 w.1 17 7 rfl rfl hin hdg kk
theorem asC_17 (B : Bd p m c cc nL s args own (EC D ca ak av) A) (w : Wd (EC D ca ak av) A s (wC ad ca fi fl ar) H locs) {i x : Int32} (hin : vp_in i 6) (hdg : decode cc pc = .ok (.iastore, 1)) (kk : ∀ (H1 : Heap) (locs1 : List Loc) (ar1 : Nat → Nat → Int32), ar1 = updA ar 17 (upd (ar 17) i.toNatClampNeg x) → Wd (EC D ca ak av) A s (wC ad ca fi fl ar1) H1 locs1 → W p l e R s m args below meth c H1 locs1 0 0 Q (F0 m (pc + 1) ls rest)) : W p l e R s m args below meth c H locs 0 0 Q (F0 m pc ls (.int x :: .int i :: .ref (ad 17) :: rest)) := va_iast B.1.1 B.1.2.1 B.2.1 w.1 w.2.1 w.2.2 17 7 rfl rfl hin hdg (fun H1 locs1 hP hD hS => kk H1 locs1 _ rfl ⟨hP, hD, hS⟩)
theorem gfM_0_0 (B : Bd p m c cc nL s args own (EM D ca ak av) A) (w : Wd (EM D ca ak av) A s (wM ad ca fi fl ar) H locs) (hlink : Cond.fieldLink own idx "SaidOfHimModel" "village" "[I" ∈ wsU) (hdg : decode cc pc = .ok (.getfield idx, 3)) (kk : W p l e R s m args below meth c H locs 0 0 Q (F0 m (pc + 3) ls (.ref (ad 1) :: rest))) : W p l e R s m args below meth c H locs 0 0 Q (F0 m pc ls (.ref (ad 0) :: rest)) := va_get (D := D) (ci := 9) (C := RX9) (T := TX9) (N := 21) B.1.1 B.1.2.1 B.1.2.2.2.2 inU9 B.1.2.2.2.1 B.2.1 w.1 0 rfl rfl 0 (by decide) (B.1.2.2.2.2 _ hlink) (fun _ h9 => h9) rfl hdg kk
theorem gfM_0_1 (B : Bd p m c cc nL s args own (EM D ca ak av) A) (w : Wd (EM D ca ak av) A s (wM ad ca fi fl ar) H locs) (hlink : Cond.fieldLink own idx "SaidOfHimModel" "newVillage" "[I" ∈ wsU) (hdg : decode cc pc = .ok (.getfield idx, 3)) (kk : W p l e R s m args below meth c H locs 0 0 Q (F0 m (pc + 3) ls (.ref (ad 2) :: rest))) : W p l e R s m args below meth c H locs 0 0 Q (F0 m pc ls (.ref (ad 0) :: rest)) := va_get (D := D) (ci := 9) (C := RX9) (T := TX9) (N := 21) B.1.1 B.1.2.1 B.1.2.2.2.2 inU9 B.1.2.2.2.1 B.2.1 w.1 0 rfl rfl 1 (by decide) (B.1.2.2.2.2 _ hlink) (fun _ h9 => h9) rfl hdg kk
theorem gfM_0_2 (B : Bd p m c cc nL s args own (EM D ca ak av) A) (w : Wd (EM D ca ak av) A s (wM ad ca fi fl ar) H locs) (hlink : Cond.fieldLink own idx "SaidOfHimModel" "least" "I" ∈ wsU) (hdg : decode cc pc = .ok (.getfield idx, 3)) (kk : W p l e R s m args below meth c H locs 0 0 Q (F0 m (pc + 3) ls (.int (fi 0) :: rest))) : W p l e R s m args below meth c H locs 0 0 Q (F0 m pc ls (.ref (ad 0) :: rest)) := va_get (D := D) (ci := 9) (C := RX9) (T := TX9) (N := 21) B.1.1 B.1.2.1 B.1.2.2.2.2 inU9 B.1.2.2.2.1 B.2.1 w.1 0 rfl rfl 2 (by decide) (B.1.2.2.2.2 _ hlink) (fun _ h9 => h9) rfl hdg kk
theorem pfM_0_2 {v : Int32} (B : Bd p m c cc nL s args own (EM D ca ak av) A) (w : Wd (EM D ca ak av) A s (wM ad ca fi fl ar) H locs) (hlink : Cond.fieldLink own idx "SaidOfHimModel" "least" "I" ∈ wsU) (hdg : decode cc pc = .ok (.putfield idx, 3)) (kk : ∀ (H1 : Heap) (locs1 : List Loc) (fi1 : Nat → Int32), fi1 = upd fi 0 v → Wd (EM D ca ak av) A s (wM ad ca fi1 fl ar) H1 locs1 → W p l e R s m args below meth c H1 locs1 0 0 Q (F0 m (pc + 3) ls rest)) : W p l e R s m args below meth c H locs 0 0 Q (F0 m pc ls (.int v :: .ref (ad 0) :: rest)) := va_put (D := D) (ci := 9) (v := .int v) (ty := .int) (C := RX9) (T := TX9) (N := 21) B.1.1 B.1.2.1 B.1.2.2.2.2 inU9 tyX9 tyX9_ok nmX9 B.1.2.2.2.1 B.2.1 w.1 w.2.1 w.2.2 0 rfl rfl 2 (by decide) (B.1.2.2.2.2 _ hlink) (fun _ h9 => h9) rfl (by decide +kernel) rfl rfl (Nat.le_of_ble_eq_true rfl) hdg (fun H1 locs1 hP hD hS => kk H1 locs1 _ rfl ⟨hP, hD, hS⟩)
theorem gfM_0_3 (B : Bd p m c cc nL s args own (EM D ca ak av) A) (w : Wd (EM D ca ak av) A s (wM ad ca fi fl ar) H locs) (hlink : Cond.fieldLink own idx "SaidOfHimModel" "text" "[I" ∈ wsU) (hdg : decode cc pc = .ok (.getfield idx, 3)) (kk : W p l e R s m args below meth c H locs 0 0 Q (F0 m (pc + 3) ls (.ref (ad 3) :: rest))) : W p l e R s m args below meth c H locs 0 0 Q (F0 m pc ls (.ref (ad 0) :: rest)) := va_get (D := D) (ci := 9) (C := RX9) (T := TX9) (N := 21) B.1.1 B.1.2.1 B.1.2.2.2.2 inU9 B.1.2.2.2.1 B.2.1 w.1 0 rfl rfl 3 (by decide) (B.1.2.2.2.2 _ hlink) (fun _ h9 => h9) rfl hdg kk
theorem gfM_0_4 (B : Bd p m c cc nL s args own (EM D ca ak av) A) (w : Wd (EM D ca ak av) A s (wM ad ca fi fl ar) H locs) (hlink : Cond.fieldLink own idx "SaidOfHimModel" "textSize" "I" ∈ wsU) (hdg : decode cc pc = .ok (.getfield idx, 3)) (kk : W p l e R s m args below meth c H locs 0 0 Q (F0 m (pc + 3) ls (.int (fi 1) :: rest))) : W p l e R s m args below meth c H locs 0 0 Q (F0 m pc ls (.ref (ad 0) :: rest)) := va_get (D := D) (ci := 9) (C := RX9) (T := TX9) (N := 21) B.1.1 B.1.2.1 B.1.2.2.2.2 inU9 B.1.2.2.2.1 B.2.1 w.1 0 rfl rfl 4 (by decide) (B.1.2.2.2.2 _ hlink) (fun _ h9 => h9) rfl hdg kk
theorem pfM_0_4 {v : Int32} (B : Bd p m c cc nL s args own (EM D ca ak av) A) (w : Wd (EM D ca ak av) A s (wM ad ca fi fl ar) H locs) (hlink : Cond.fieldLink own idx "SaidOfHimModel" "textSize" "I" ∈ wsU) (hdg : decode cc pc = .ok (.putfield idx, 3)) (kk : ∀ (H1 : Heap) (locs1 : List Loc) (fi1 : Nat → Int32), fi1 = upd fi 1 v → Wd (EM D ca ak av) A s (wM ad ca fi1 fl ar) H1 locs1 → W p l e R s m args below meth c H1 locs1 0 0 Q (F0 m (pc + 3) ls rest)) : W p l e R s m args below meth c H locs 0 0 Q (F0 m pc ls (.int v :: .ref (ad 0) :: rest)) := va_put (D := D) (ci := 9) (v := .int v) (ty := .int) (C := RX9) (T := TX9) (N := 21) B.1.1 B.1.2.1 B.1.2.2.2.2 inU9 tyX9 tyX9_ok nmX9 B.1.2.2.2.1 B.2.1 w.1 w.2.1 w.2.2 0 rfl rfl 4 (by decide) (B.1.2.2.2.2 _ hlink) (fun _ h9 => h9) rfl (by decide +kernel) rfl rfl (Nat.le_of_ble_eq_true rfl) hdg (fun H1 locs1 hP hD hS => kk H1 locs1 _ rfl ⟨hP, hD, hS⟩)
theorem gfM_0_5 (B : Bd p m c cc nL s args own (EM D ca ak av) A) (w : Wd (EM D ca ak av) A s (wM ad ca fi fl ar) H locs) (hlink : Cond.fieldLink own idx "SaidOfHimModel" "at" "I" ∈ wsU) (hdg : decode cc pc = .ok (.getfield idx, 3)) (kk : W p l e R s m args below meth c H locs 0 0 Q (F0 m (pc + 3) ls (.int (fi 2) :: rest))) : W p l e R s m args below meth c H locs 0 0 Q (F0 m pc ls (.ref (ad 0) :: rest)) := va_get (D := D) (ci := 9) (C := RX9) (T := TX9) (N := 21) B.1.1 B.1.2.1 B.1.2.2.2.2 inU9 B.1.2.2.2.1 B.2.1 w.1 0 rfl rfl 5 (by decide) (B.1.2.2.2.2 _ hlink) (fun _ h9 => h9) rfl hdg kk
theorem pfM_0_5 {v : Int32} (B : Bd p m c cc nL s args own (EM D ca ak av) A) (w : Wd (EM D ca ak av) A s (wM ad ca fi fl ar) H locs) (hlink : Cond.fieldLink own idx "SaidOfHimModel" "at" "I" ∈ wsU) (hdg : decode cc pc = .ok (.putfield idx, 3)) (kk : ∀ (H1 : Heap) (locs1 : List Loc) (fi1 : Nat → Int32), fi1 = upd fi 2 v → Wd (EM D ca ak av) A s (wM ad ca fi1 fl ar) H1 locs1 → W p l e R s m args below meth c H1 locs1 0 0 Q (F0 m (pc + 3) ls rest)) : W p l e R s m args below meth c H locs 0 0 Q (F0 m pc ls (.int v :: .ref (ad 0) :: rest)) := va_put (D := D) (ci := 9) (v := .int v) (ty := .int) (C := RX9) (T := TX9) (N := 21) B.1.1 B.1.2.1 B.1.2.2.2.2 inU9 tyX9 tyX9_ok nmX9 B.1.2.2.2.1 B.2.1 w.1 w.2.1 w.2.2 0 rfl rfl 5 (by decide) (B.1.2.2.2.2 _ hlink) (fun _ h9 => h9) rfl (by decide +kernel) rfl rfl (Nat.le_of_ble_eq_true rfl) hdg (fun H1 locs1 hP hD hS => kk H1 locs1 _ rfl ⟨hP, hD, hS⟩)
theorem gfM_0_6 (B : Bd p m c cc nL s args own (EM D ca ak av) A) (w : Wd (EM D ca ak av) A s (wM ad ca fi fl ar) H locs) (hlink : Cond.fieldLink own idx "SaidOfHimModel" "from" "I" ∈ wsU) (hdg : decode cc pc = .ok (.getfield idx, 3)) (kk : W p l e R s m args below meth c H locs 0 0 Q (F0 m (pc + 3) ls (.int (fi 3) :: rest))) : W p l e R s m args below meth c H locs 0 0 Q (F0 m pc ls (.ref (ad 0) :: rest)) := va_get (D := D) (ci := 9) (C := RX9) (T := TX9) (N := 21) B.1.1 B.1.2.1 B.1.2.2.2.2 inU9 B.1.2.2.2.1 B.2.1 w.1 0 rfl rfl 6 (by decide) (B.1.2.2.2.2 _ hlink) (fun _ h9 => h9) rfl hdg kk
theorem pfM_0_6 {v : Int32} (B : Bd p m c cc nL s args own (EM D ca ak av) A) (w : Wd (EM D ca ak av) A s (wM ad ca fi fl ar) H locs) (hlink : Cond.fieldLink own idx "SaidOfHimModel" "from" "I" ∈ wsU) (hdg : decode cc pc = .ok (.putfield idx, 3)) (kk : ∀ (H1 : Heap) (locs1 : List Loc) (fi1 : Nat → Int32), fi1 = upd fi 3 v → Wd (EM D ca ak av) A s (wM ad ca fi1 fl ar) H1 locs1 → W p l e R s m args below meth c H1 locs1 0 0 Q (F0 m (pc + 3) ls rest)) : W p l e R s m args below meth c H locs 0 0 Q (F0 m pc ls (.int v :: .ref (ad 0) :: rest)) := va_put (D := D) (ci := 9) (v := .int v) (ty := .int) (C := RX9) (T := TX9) (N := 21) B.1.1 B.1.2.1 B.1.2.2.2.2 inU9 tyX9 tyX9_ok nmX9 B.1.2.2.2.1 B.2.1 w.1 w.2.1 w.2.2 0 rfl rfl 6 (by decide) (B.1.2.2.2.2 _ hlink) (fun _ h9 => h9) rfl (by decide +kernel) rfl rfl (Nat.le_of_ble_eq_true rfl) hdg (fun H1 locs1 hP hD hS => kk H1 locs1 _ rfl ⟨hP, hD, hS⟩)
theorem gfM_0_7 (B : Bd p m c cc nL s args own (EM D ca ak av) A) (w : Wd (EM D ca ak av) A s (wM ad ca fi fl ar) H locs) (hlink : Cond.fieldLink own idx "SaidOfHimModel" "letters" "I" ∈ wsU) (hdg : decode cc pc = .ok (.getfield idx, 3)) (kk : W p l e R s m args below meth c H locs 0 0 Q (F0 m (pc + 3) ls (.int (fi 4) :: rest))) : W p l e R s m args below meth c H locs 0 0 Q (F0 m pc ls (.ref (ad 0) :: rest)) := va_get (D := D) (ci := 9) (C := RX9) (T := TX9) (N := 21) B.1.1 B.1.2.1 B.1.2.2.2.2 inU9 B.1.2.2.2.1 B.2.1 w.1 0 rfl rfl 7 (by decide) (B.1.2.2.2.2 _ hlink) (fun _ h9 => h9) rfl hdg kk
theorem pfM_0_7 {v : Int32} (B : Bd p m c cc nL s args own (EM D ca ak av) A) (w : Wd (EM D ca ak av) A s (wM ad ca fi fl ar) H locs) (hlink : Cond.fieldLink own idx "SaidOfHimModel" "letters" "I" ∈ wsU) (hdg : decode cc pc = .ok (.putfield idx, 3)) (kk : ∀ (H1 : Heap) (locs1 : List Loc) (fi1 : Nat → Int32), fi1 = upd fi 4 v → Wd (EM D ca ak av) A s (wM ad ca fi1 fl ar) H1 locs1 → W p l e R s m args below meth c H1 locs1 0 0 Q (F0 m (pc + 3) ls rest)) : W p l e R s m args below meth c H locs 0 0 Q (F0 m pc ls (.int v :: .ref (ad 0) :: rest)) := va_put (D := D) (ci := 9) (v := .int v) (ty := .int) (C := RX9) (T := TX9) (N := 21) B.1.1 B.1.2.1 B.1.2.2.2.2 inU9 tyX9 tyX9_ok nmX9 B.1.2.2.2.1 B.2.1 w.1 w.2.1 w.2.2 0 rfl rfl 7 (by decide) (B.1.2.2.2.2 _ hlink) (fun _ h9 => h9) rfl (by decide +kernel) rfl rfl (Nat.le_of_ble_eq_true rfl) hdg (fun H1 locs1 hP hD hS => kk H1 locs1 _ rfl ⟨hP, hD, hS⟩)
theorem gfM_0_8 (B : Bd p m c cc nL s args own (EM D ca ak av) A) (w : Wd (EM D ca ak av) A s (wM ad ca fi fl ar) H locs) (hlink : Cond.fieldLink own idx "SaidOfHimModel" "faultOf" "I" ∈ wsU) (hdg : decode cc pc = .ok (.getfield idx, 3)) (kk : W p l e R s m args below meth c H locs 0 0 Q (F0 m (pc + 3) ls (.int (fi 5) :: rest))) : W p l e R s m args below meth c H locs 0 0 Q (F0 m pc ls (.ref (ad 0) :: rest)) := va_get (D := D) (ci := 9) (C := RX9) (T := TX9) (N := 21) B.1.1 B.1.2.1 B.1.2.2.2.2 inU9 B.1.2.2.2.1 B.2.1 w.1 0 rfl rfl 8 (by decide) (B.1.2.2.2.2 _ hlink) (fun _ h9 => h9) rfl hdg kk
theorem pfM_0_8 {v : Int32} (B : Bd p m c cc nL s args own (EM D ca ak av) A) (w : Wd (EM D ca ak av) A s (wM ad ca fi fl ar) H locs) (hlink : Cond.fieldLink own idx "SaidOfHimModel" "faultOf" "I" ∈ wsU) (hdg : decode cc pc = .ok (.putfield idx, 3)) (kk : ∀ (H1 : Heap) (locs1 : List Loc) (fi1 : Nat → Int32), fi1 = upd fi 5 v → Wd (EM D ca ak av) A s (wM ad ca fi1 fl ar) H1 locs1 → W p l e R s m args below meth c H1 locs1 0 0 Q (F0 m (pc + 3) ls rest)) : W p l e R s m args below meth c H locs 0 0 Q (F0 m pc ls (.int v :: .ref (ad 0) :: rest)) := va_put (D := D) (ci := 9) (v := .int v) (ty := .int) (C := RX9) (T := TX9) (N := 21) B.1.1 B.1.2.1 B.1.2.2.2.2 inU9 tyX9 tyX9_ok nmX9 B.1.2.2.2.1 B.2.1 w.1 w.2.1 w.2.2 0 rfl rfl 8 (by decide) (B.1.2.2.2.2 _ hlink) (fun _ h9 => h9) rfl (by decide +kernel) rfl rfl (Nat.le_of_ble_eq_true rfl) hdg (fun H1 locs1 hP hD hS => kk H1 locs1 _ rfl ⟨hP, hD, hS⟩)
theorem gfM_0_9 (B : Bd p m c cc nL s args own (EM D ca ak av) A) (w : Wd (EM D ca ak av) A s (wM ad ca fi fl ar) H locs) (hlink : Cond.fieldLink own idx "SaidOfHimModel" "place" "I" ∈ wsU) (hdg : decode cc pc = .ok (.getfield idx, 3)) (kk : W p l e R s m args below meth c H locs 0 0 Q (F0 m (pc + 3) ls (.int (fi 6) :: rest))) : W p l e R s m args below meth c H locs 0 0 Q (F0 m pc ls (.ref (ad 0) :: rest)) := va_get (D := D) (ci := 9) (C := RX9) (T := TX9) (N := 21) B.1.1 B.1.2.1 B.1.2.2.2.2 inU9 B.1.2.2.2.1 B.2.1 w.1 0 rfl rfl 9 (by decide) (B.1.2.2.2.2 _ hlink) (fun _ h9 => h9) rfl hdg kk
theorem pfM_0_9 {v : Int32} (B : Bd p m c cc nL s args own (EM D ca ak av) A) (w : Wd (EM D ca ak av) A s (wM ad ca fi fl ar) H locs) (hlink : Cond.fieldLink own idx "SaidOfHimModel" "place" "I" ∈ wsU) (hdg : decode cc pc = .ok (.putfield idx, 3)) (kk : ∀ (H1 : Heap) (locs1 : List Loc) (fi1 : Nat → Int32), fi1 = upd fi 6 v → Wd (EM D ca ak av) A s (wM ad ca fi1 fl ar) H1 locs1 → W p l e R s m args below meth c H1 locs1 0 0 Q (F0 m (pc + 3) ls rest)) : W p l e R s m args below meth c H locs 0 0 Q (F0 m pc ls (.int v :: .ref (ad 0) :: rest)) := va_put (D := D) (ci := 9) (v := .int v) (ty := .int) (C := RX9) (T := TX9) (N := 21) B.1.1 B.1.2.1 B.1.2.2.2.2 inU9 tyX9 tyX9_ok nmX9 B.1.2.2.2.1 B.2.1 w.1 w.2.1 w.2.2 0 rfl rfl 9 (by decide) (B.1.2.2.2.2 _ hlink) (fun _ h9 => h9) rfl (by decide +kernel) rfl rfl (Nat.le_of_ble_eq_true rfl) hdg (fun H1 locs1 hP hD hS => kk H1 locs1 _ rfl ⟨hP, hD, hS⟩)
theorem gfM_0_10 (B : Bd p m c cc nL s args own (EM D ca ak av) A) (w : Wd (EM D ca ak av) A s (wM ad ca fi fl ar) H locs) (hlink : Cond.fieldLink own idx "SaidOfHimModel" "told" "I" ∈ wsU) (hdg : decode cc pc = .ok (.getfield idx, 3)) (kk : W p l e R s m args below meth c H locs 0 0 Q (F0 m (pc + 3) ls (.int (fi 7) :: rest))) : W p l e R s m args below meth c H locs 0 0 Q (F0 m pc ls (.ref (ad 0) :: rest)) := va_get (D := D) (ci := 9) (C := RX9) (T := TX9) (N := 21) B.1.1 B.1.2.1 B.1.2.2.2.2 inU9 B.1.2.2.2.1 B.2.1 w.1 0 rfl rfl 10 (by decide) (B.1.2.2.2.2 _ hlink) (fun _ h9 => h9) rfl hdg kk
theorem pfM_0_10 {v : Int32} (B : Bd p m c cc nL s args own (EM D ca ak av) A) (w : Wd (EM D ca ak av) A s (wM ad ca fi fl ar) H locs) (hlink : Cond.fieldLink own idx "SaidOfHimModel" "told" "I" ∈ wsU) (hdg : decode cc pc = .ok (.putfield idx, 3)) (kk : ∀ (H1 : Heap) (locs1 : List Loc) (fi1 : Nat → Int32), fi1 = upd fi 7 v → Wd (EM D ca ak av) A s (wM ad ca fi1 fl ar) H1 locs1 → W p l e R s m args below meth c H1 locs1 0 0 Q (F0 m (pc + 3) ls rest)) : W p l e R s m args below meth c H locs 0 0 Q (F0 m pc ls (.int v :: .ref (ad 0) :: rest)) := va_put (D := D) (ci := 9) (v := .int v) (ty := .int) (C := RX9) (T := TX9) (N := 21) B.1.1 B.1.2.1 B.1.2.2.2.2 inU9 tyX9 tyX9_ok nmX9 B.1.2.2.2.1 B.2.1 w.1 w.2.1 w.2.2 0 rfl rfl 10 (by decide) (B.1.2.2.2.2 _ hlink) (fun _ h9 => h9) rfl (by decide +kernel) rfl rfl (Nat.le_of_ble_eq_true rfl) hdg (fun H1 locs1 hP hD hS => kk H1 locs1 _ rfl ⟨hP, hD, hS⟩)
theorem gfM_0_11 (B : Bd p m c cc nL s args own (EM D ca ak av) A) (w : Wd (EM D ca ak av) A s (wM ad ca fi fl ar) H locs) (hlink : Cond.fieldLink own idx "SaidOfHimModel" "met" "[I" ∈ wsU) (hdg : decode cc pc = .ok (.getfield idx, 3)) (kk : W p l e R s m args below meth c H locs 0 0 Q (F0 m (pc + 3) ls (.ref (ad 4) :: rest))) : W p l e R s m args below meth c H locs 0 0 Q (F0 m pc ls (.ref (ad 0) :: rest)) := va_get (D := D) (ci := 9) (C := RX9) (T := TX9) (N := 21) B.1.1 B.1.2.1 B.1.2.2.2.2 inU9 B.1.2.2.2.1 B.2.1 w.1 0 rfl rfl 11 (by decide) (B.1.2.2.2.2 _ hlink) (fun _ h9 => h9) rfl hdg kk
theorem gfM_0_12 (B : Bd p m c cc nL s args own (EM D ca ak av) A) (w : Wd (EM D ca ak av) A s (wM ad ca fi fl ar) H locs) (hlink : Cond.fieldLink own idx "SaidOfHimModel" "rest" "I" ∈ wsU) (hdg : decode cc pc = .ok (.getfield idx, 3)) (kk : W p l e R s m args below meth c H locs 0 0 Q (F0 m (pc + 3) ls (.int (fi 8) :: rest))) : W p l e R s m args below meth c H locs 0 0 Q (F0 m pc ls (.ref (ad 0) :: rest)) := va_get (D := D) (ci := 9) (C := RX9) (T := TX9) (N := 21) B.1.1 B.1.2.1 B.1.2.2.2.2 inU9 B.1.2.2.2.1 B.2.1 w.1 0 rfl rfl 12 (by decide) (B.1.2.2.2.2 _ hlink) (fun _ h9 => h9) rfl hdg kk
theorem pfM_0_12 {v : Int32} (B : Bd p m c cc nL s args own (EM D ca ak av) A) (w : Wd (EM D ca ak av) A s (wM ad ca fi fl ar) H locs) (hlink : Cond.fieldLink own idx "SaidOfHimModel" "rest" "I" ∈ wsU) (hdg : decode cc pc = .ok (.putfield idx, 3)) (kk : ∀ (H1 : Heap) (locs1 : List Loc) (fi1 : Nat → Int32), fi1 = upd fi 8 v → Wd (EM D ca ak av) A s (wM ad ca fi1 fl ar) H1 locs1 → W p l e R s m args below meth c H1 locs1 0 0 Q (F0 m (pc + 3) ls rest)) : W p l e R s m args below meth c H locs 0 0 Q (F0 m pc ls (.int v :: .ref (ad 0) :: rest)) := va_put (D := D) (ci := 9) (v := .int v) (ty := .int) (C := RX9) (T := TX9) (N := 21) B.1.1 B.1.2.1 B.1.2.2.2.2 inU9 tyX9 tyX9_ok nmX9 B.1.2.2.2.1 B.2.1 w.1 w.2.1 w.2.2 0 rfl rfl 12 (by decide) (B.1.2.2.2.2 _ hlink) (fun _ h9 => h9) rfl (by decide +kernel) rfl rfl (Nat.le_of_ble_eq_true rfl) hdg (fun H1 locs1 hP hD hS => kk H1 locs1 _ rfl ⟨hP, hD, hS⟩)
theorem gfM_0_13 (B : Bd p m c cc nL s args own (EM D ca ak av) A) (w : Wd (EM D ca ak av) A s (wM ad ca fi fl ar) H locs) (hlink : Cond.fieldLink own idx "SaidOfHimModel" "tail" "I" ∈ wsU) (hdg : decode cc pc = .ok (.getfield idx, 3)) (kk : W p l e R s m args below meth c H locs 0 0 Q (F0 m (pc + 3) ls (.int (fi 9) :: rest))) : W p l e R s m args below meth c H locs 0 0 Q (F0 m pc ls (.ref (ad 0) :: rest)) := va_get (D := D) (ci := 9) (C := RX9) (T := TX9) (N := 21) B.1.1 B.1.2.1 B.1.2.2.2.2 inU9 B.1.2.2.2.1 B.2.1 w.1 0 rfl rfl 13 (by decide) (B.1.2.2.2.2 _ hlink) (fun _ h9 => h9) rfl hdg kk
theorem pfM_0_13 {v : Int32} (B : Bd p m c cc nL s args own (EM D ca ak av) A) (w : Wd (EM D ca ak av) A s (wM ad ca fi fl ar) H locs) (hlink : Cond.fieldLink own idx "SaidOfHimModel" "tail" "I" ∈ wsU) (hdg : decode cc pc = .ok (.putfield idx, 3)) (kk : ∀ (H1 : Heap) (locs1 : List Loc) (fi1 : Nat → Int32), fi1 = upd fi 9 v → Wd (EM D ca ak av) A s (wM ad ca fi1 fl ar) H1 locs1 → W p l e R s m args below meth c H1 locs1 0 0 Q (F0 m (pc + 3) ls rest)) : W p l e R s m args below meth c H locs 0 0 Q (F0 m pc ls (.int v :: .ref (ad 0) :: rest)) := va_put (D := D) (ci := 9) (v := .int v) (ty := .int) (C := RX9) (T := TX9) (N := 21) B.1.1 B.1.2.1 B.1.2.2.2.2 inU9 tyX9 tyX9_ok nmX9 B.1.2.2.2.1 B.2.1 w.1 w.2.1 w.2.2 0 rfl rfl 13 (by decide) (B.1.2.2.2.2 _ hlink) (fun _ h9 => h9) rfl (by decide +kernel) rfl rfl (Nat.le_of_ble_eq_true rfl) hdg (fun H1 locs1 hP hD hS => kk H1 locs1 _ rfl ⟨hP, hD, hS⟩)
theorem gfM_0_14 (B : Bd p m c cc nL s args own (EM D ca ak av) A) (w : Wd (EM D ca ak av) A s (wM ad ca fi fl ar) H locs) (hlink : Cond.fieldLink own idx "SaidOfHimModel" "ring" "I" ∈ wsU) (hdg : decode cc pc = .ok (.getfield idx, 3)) (kk : W p l e R s m args below meth c H locs 0 0 Q (F0 m (pc + 3) ls (.int (fi 10) :: rest))) : W p l e R s m args below meth c H locs 0 0 Q (F0 m pc ls (.ref (ad 0) :: rest)) := va_get (D := D) (ci := 9) (C := RX9) (T := TX9) (N := 21) B.1.1 B.1.2.1 B.1.2.2.2.2 inU9 B.1.2.2.2.1 B.2.1 w.1 0 rfl rfl 14 (by decide) (B.1.2.2.2.2 _ hlink) (fun _ h9 => h9) rfl hdg kk
theorem pfM_0_14 {v : Int32} (B : Bd p m c cc nL s args own (EM D ca ak av) A) (w : Wd (EM D ca ak av) A s (wM ad ca fi fl ar) H locs) (hlink : Cond.fieldLink own idx "SaidOfHimModel" "ring" "I" ∈ wsU) (hdg : decode cc pc = .ok (.putfield idx, 3)) (kk : ∀ (H1 : Heap) (locs1 : List Loc) (fi1 : Nat → Int32), fi1 = upd fi 10 v → Wd (EM D ca ak av) A s (wM ad ca fi1 fl ar) H1 locs1 → W p l e R s m args below meth c H1 locs1 0 0 Q (F0 m (pc + 3) ls rest)) : W p l e R s m args below meth c H locs 0 0 Q (F0 m pc ls (.int v :: .ref (ad 0) :: rest)) := va_put (D := D) (ci := 9) (v := .int v) (ty := .int) (C := RX9) (T := TX9) (N := 21) B.1.1 B.1.2.1 B.1.2.2.2.2 inU9 tyX9 tyX9_ok nmX9 B.1.2.2.2.1 B.2.1 w.1 w.2.1 w.2.2 0 rfl rfl 14 (by decide) (B.1.2.2.2.2 _ hlink) (fun _ h9 => h9) rfl (by decide +kernel) rfl rfl (Nat.le_of_ble_eq_true rfl) hdg (fun H1 locs1 hP hD hS => kk H1 locs1 _ rfl ⟨hP, hD, hS⟩)
theorem gfM_0_15 (B : Bd p m c cc nL s args own (EM D ca ak av) A) (w : Wd (EM D ca ak av) A s (wM ad ca fi fl ar) H locs) (hlink : Cond.fieldLink own idx "SaidOfHimModel" "goodUpper" "J" ∈ wsU) (hdg : decode cc pc = .ok (.getfield idx, 3)) (kk : W p l e R s m args below meth c H locs 0 0 Q (F0 m (pc + 3) ls (.long (fl 0) :: rest))) : W p l e R s m args below meth c H locs 0 0 Q (F0 m pc ls (.ref (ad 0) :: rest)) := va_get (D := D) (ci := 9) (C := RX9) (T := TX9) (N := 21) B.1.1 B.1.2.1 B.1.2.2.2.2 inU9 B.1.2.2.2.1 B.2.1 w.1 0 rfl rfl 15 (by decide) (B.1.2.2.2.2 _ hlink) (fun _ h9 => h9) rfl hdg kk
theorem pfM_0_15 {v : Int64} (B : Bd p m c cc nL s args own (EM D ca ak av) A) (w : Wd (EM D ca ak av) A s (wM ad ca fi fl ar) H locs) (hlink : Cond.fieldLink own idx "SaidOfHimModel" "goodUpper" "J" ∈ wsU) (hdg : decode cc pc = .ok (.putfield idx, 3)) (kk : ∀ (H1 : Heap) (locs1 : List Loc) (fl1 : Nat → Int64), fl1 = vp_updL fl 0 v → Wd (EM D ca ak av) A s (wM ad ca fi fl1 ar) H1 locs1 → W p l e R s m args below meth c H1 locs1 0 0 Q (F0 m (pc + 3) ls rest)) : W p l e R s m args below meth c H locs 0 0 Q (F0 m pc ls (.long v :: .ref (ad 0) :: rest)) := va_put (D := D) (ci := 9) (v := .long v) (ty := .long) (C := RX9) (T := TX9) (N := 21) B.1.1 B.1.2.1 B.1.2.2.2.2 inU9 tyX9 tyX9_ok nmX9 B.1.2.2.2.1 B.2.1 w.1 w.2.1 w.2.2 0 rfl rfl 15 (by decide) (B.1.2.2.2.2 _ hlink) (fun _ h9 => h9) rfl (by decide +kernel) rfl rfl (Nat.le_of_ble_eq_true rfl) hdg (fun H1 locs1 hP hD hS => kk H1 locs1 _ rfl ⟨hP, hD, hS⟩)
theorem gfM_0_16 (B : Bd p m c cc nL s args own (EM D ca ak av) A) (w : Wd (EM D ca ak av) A s (wM ad ca fi fl ar) H locs) (hlink : Cond.fieldLink own idx "SaidOfHimModel" "goodLower" "J" ∈ wsU) (hdg : decode cc pc = .ok (.getfield idx, 3)) (kk : W p l e R s m args below meth c H locs 0 0 Q (F0 m (pc + 3) ls (.long (fl 1) :: rest))) : W p l e R s m args below meth c H locs 0 0 Q (F0 m pc ls (.ref (ad 0) :: rest)) := va_get (D := D) (ci := 9) (C := RX9) (T := TX9) (N := 21) B.1.1 B.1.2.1 B.1.2.2.2.2 inU9 B.1.2.2.2.1 B.2.1 w.1 0 rfl rfl 16 (by decide) (B.1.2.2.2.2 _ hlink) (fun _ h9 => h9) rfl hdg kk
theorem pfM_0_16 {v : Int64} (B : Bd p m c cc nL s args own (EM D ca ak av) A) (w : Wd (EM D ca ak av) A s (wM ad ca fi fl ar) H locs) (hlink : Cond.fieldLink own idx "SaidOfHimModel" "goodLower" "J" ∈ wsU) (hdg : decode cc pc = .ok (.putfield idx, 3)) (kk : ∀ (H1 : Heap) (locs1 : List Loc) (fl1 : Nat → Int64), fl1 = vp_updL fl 1 v → Wd (EM D ca ak av) A s (wM ad ca fi fl1 ar) H1 locs1 → W p l e R s m args below meth c H1 locs1 0 0 Q (F0 m (pc + 3) ls rest)) : W p l e R s m args below meth c H locs 0 0 Q (F0 m pc ls (.long v :: .ref (ad 0) :: rest)) := va_put (D := D) (ci := 9) (v := .long v) (ty := .long) (C := RX9) (T := TX9) (N := 21) B.1.1 B.1.2.1 B.1.2.2.2.2 inU9 tyX9 tyX9_ok nmX9 B.1.2.2.2.1 B.2.1 w.1 w.2.1 w.2.2 0 rfl rfl 16 (by decide) (B.1.2.2.2.2 _ hlink) (fun _ h9 => h9) rfl (by decide +kernel) rfl rfl (Nat.le_of_ble_eq_true rfl) hdg (fun H1 locs1 hP hD hS => kk H1 locs1 _ rfl ⟨hP, hD, hS⟩)
theorem gfM_0_17 (B : Bd p m c cc nL s args own (EM D ca ak av) A) (w : Wd (EM D ca ak av) A s (wM ad ca fi fl ar) H locs) (hlink : Cond.fieldLink own idx "SaidOfHimModel" "hasUpper" "J" ∈ wsU) (hdg : decode cc pc = .ok (.getfield idx, 3)) (kk : W p l e R s m args below meth c H locs 0 0 Q (F0 m (pc + 3) ls (.long (fl 2) :: rest))) : W p l e R s m args below meth c H locs 0 0 Q (F0 m pc ls (.ref (ad 0) :: rest)) := va_get (D := D) (ci := 9) (C := RX9) (T := TX9) (N := 21) B.1.1 B.1.2.1 B.1.2.2.2.2 inU9 B.1.2.2.2.1 B.2.1 w.1 0 rfl rfl 17 (by decide) (B.1.2.2.2.2 _ hlink) (fun _ h9 => h9) rfl hdg kk
theorem pfM_0_17 {v : Int64} (B : Bd p m c cc nL s args own (EM D ca ak av) A) (w : Wd (EM D ca ak av) A s (wM ad ca fi fl ar) H locs) (hlink : Cond.fieldLink own idx "SaidOfHimModel" "hasUpper" "J" ∈ wsU) (hdg : decode cc pc = .ok (.putfield idx, 3)) (kk : ∀ (H1 : Heap) (locs1 : List Loc) (fl1 : Nat → Int64), fl1 = vp_updL fl 2 v → Wd (EM D ca ak av) A s (wM ad ca fi fl1 ar) H1 locs1 → W p l e R s m args below meth c H1 locs1 0 0 Q (F0 m (pc + 3) ls rest)) : W p l e R s m args below meth c H locs 0 0 Q (F0 m pc ls (.long v :: .ref (ad 0) :: rest)) := va_put (D := D) (ci := 9) (v := .long v) (ty := .long) (C := RX9) (T := TX9) (N := 21) B.1.1 B.1.2.1 B.1.2.2.2.2 inU9 tyX9 tyX9_ok nmX9 B.1.2.2.2.1 B.2.1 w.1 w.2.1 w.2.2 0 rfl rfl 17 (by decide) (B.1.2.2.2.2 _ hlink) (fun _ h9 => h9) rfl (by decide +kernel) rfl rfl (Nat.le_of_ble_eq_true rfl) hdg (fun H1 locs1 hP hD hS => kk H1 locs1 _ rfl ⟨hP, hD, hS⟩)
theorem gfM_0_18 (B : Bd p m c cc nL s args own (EM D ca ak av) A) (w : Wd (EM D ca ak av) A s (wM ad ca fi fl ar) H locs) (hlink : Cond.fieldLink own idx "SaidOfHimModel" "hasLower" "J" ∈ wsU) (hdg : decode cc pc = .ok (.getfield idx, 3)) (kk : W p l e R s m args below meth c H locs 0 0 Q (F0 m (pc + 3) ls (.long (fl 3) :: rest))) : W p l e R s m args below meth c H locs 0 0 Q (F0 m pc ls (.ref (ad 0) :: rest)) := va_get (D := D) (ci := 9) (C := RX9) (T := TX9) (N := 21) B.1.1 B.1.2.1 B.1.2.2.2.2 inU9 B.1.2.2.2.1 B.2.1 w.1 0 rfl rfl 18 (by decide) (B.1.2.2.2.2 _ hlink) (fun _ h9 => h9) rfl hdg kk
theorem pfM_0_18 {v : Int64} (B : Bd p m c cc nL s args own (EM D ca ak av) A) (w : Wd (EM D ca ak av) A s (wM ad ca fi fl ar) H locs) (hlink : Cond.fieldLink own idx "SaidOfHimModel" "hasLower" "J" ∈ wsU) (hdg : decode cc pc = .ok (.putfield idx, 3)) (kk : ∀ (H1 : Heap) (locs1 : List Loc) (fl1 : Nat → Int64), fl1 = vp_updL fl 3 v → Wd (EM D ca ak av) A s (wM ad ca fi fl1 ar) H1 locs1 → W p l e R s m args below meth c H1 locs1 0 0 Q (F0 m (pc + 3) ls rest)) : W p l e R s m args below meth c H locs 0 0 Q (F0 m pc ls (.long v :: .ref (ad 0) :: rest)) := va_put (D := D) (ci := 9) (v := .long v) (ty := .long) (C := RX9) (T := TX9) (N := 21) B.1.1 B.1.2.1 B.1.2.2.2.2 inU9 tyX9 tyX9_ok nmX9 B.1.2.2.2.1 B.2.1 w.1 w.2.1 w.2.2 0 rfl rfl 18 (by decide) (B.1.2.2.2.2 _ hlink) (fun _ h9 => h9) rfl (by decide +kernel) rfl rfl (Nat.le_of_ble_eq_true rfl) hdg (fun H1 locs1 hP hD hS => kk H1 locs1 _ rfl ⟨hP, hD, hS⟩)
theorem gfM_0_19 (B : Bd p m c cc nL s args own (EM D ca ak av) A) (w : Wd (EM D ca ak av) A s (wM ad ca fi fl ar) H locs) (hlink : Cond.fieldLink own idx "SaidOfHimModel" "isGood" "[Z" ∈ wsU) (hdg : decode cc pc = .ok (.getfield idx, 3)) (kk : W p l e R s m args below meth c H locs 0 0 Q (F0 m (pc + 3) ls (.ref (ad 5) :: rest))) : W p l e R s m args below meth c H locs 0 0 Q (F0 m pc ls (.ref (ad 0) :: rest)) := va_get (D := D) (ci := 9) (C := RX9) (T := TX9) (N := 21) B.1.1 B.1.2.1 B.1.2.2.2.2 inU9 B.1.2.2.2.1 B.2.1 w.1 0 rfl rfl 19 (by decide) (B.1.2.2.2.2 _ hlink) (fun _ h9 => h9) rfl hdg kk
theorem gfM_0_20 (B : Bd p m c cc nL s args own (EM D ca ak av) A) (w : Wd (EM D ca ak av) A s (wM ad ca fi fl ar) H locs) (hlink : Cond.fieldLink own idx "SaidOfHimModel" "kin" "[I" ∈ wsU) (hdg : decode cc pc = .ok (.getfield idx, 3)) (kk : W p l e R s m args below meth c H locs 0 0 Q (F0 m (pc + 3) ls (.ref (ad 6) :: rest))) : W p l e R s m args below meth c H locs 0 0 Q (F0 m pc ls (.ref (ad 0) :: rest)) := va_get (D := D) (ci := 9) (C := RX9) (T := TX9) (N := 21) B.1.1 B.1.2.1 B.1.2.2.2.2 inU9 B.1.2.2.2.1 B.2.1 w.1 0 rfl rfl 20 (by decide) (B.1.2.2.2.2 _ hlink) (fun _ h9 => h9) rfl hdg kk
theorem alM_1 (B : Bd p m c cc nL s args own (EM D ca ak av) A) (w : Wd (EM D ca ak av) A s (wM ad ca fi fl ar) H locs) {i : Int32} (hin : vp_in i 8) (hdg : decode cc pc = .ok (.iaload, 1)) (kk : W p l e R s m args below meth c H locs 0 0 Q (F0 m (pc + 1) ls (.int (ar 1 i.toNatClampNeg) :: rest))) : W p l e R s m args below meth c H locs 0 0 Q (F0 m pc ls (.int i :: .ref (ad 1) :: rest)) := va_iald B.1.1 B.1.2.1 B.2.1 w.1 1 0 rfl rfl hin hdg kk
theorem asM_1 (B : Bd p m c cc nL s args own (EM D ca ak av) A) (w : Wd (EM D ca ak av) A s (wM ad ca fi fl ar) H locs) {i x : Int32} (hin : vp_in i 8) (hdg : decode cc pc = .ok (.iastore, 1)) (kk : ∀ (H1 : Heap) (locs1 : List Loc) (ar1 : Nat → Nat → Int32), ar1 = updA ar 1 (upd (ar 1) i.toNatClampNeg x) → Wd (EM D ca ak av) A s (wM ad ca fi fl ar1) H1 locs1 → W p l e R s m args below meth c H1 locs1 0 0 Q (F0 m (pc + 1) ls rest)) : W p l e R s m args below meth c H locs 0 0 Q (F0 m pc ls (.int x :: .int i :: .ref (ad 1) :: rest)) := va_iast B.1.1 B.1.2.1 B.2.1 w.1 w.2.1 w.2.2 1 0 rfl rfl hin hdg (fun H1 locs1 hP hD hS => kk H1 locs1 _ rfl ⟨hP, hD, hS⟩)
theorem alM_2 (B : Bd p m c cc nL s args own (EM D ca ak av) A) (w : Wd (EM D ca ak av) A s (wM ad ca fi fl ar) H locs) {i : Int32} (hin : vp_in i 8) (hdg : decode cc pc = .ok (.iaload, 1)) (kk : W p l e R s m args below meth c H locs 0 0 Q (F0 m (pc + 1) ls (.int (ar 2 i.toNatClampNeg) :: rest))) : W p l e R s m args below meth c H locs 0 0 Q (F0 m pc ls (.int i :: .ref (ad 2) :: rest)) := va_iald B.1.1 B.1.2.1 B.2.1 w.1 2 1 rfl rfl hin hdg kk
theorem asM_2 (B : Bd p m c cc nL s args own (EM D ca ak av) A) (w : Wd (EM D ca ak av) A s (wM ad ca fi fl ar) H locs) {i x : Int32} (hin : vp_in i 8) (hdg : decode cc pc = .ok (.iastore, 1)) (kk : ∀ (H1 : Heap) (locs1 : List Loc) (ar1 : Nat → Nat → Int32), ar1 = updA ar 2 (upd (ar 2) i.toNatClampNeg x) → Wd (EM D ca ak av) A s (wM ad ca fi fl ar1) H1 locs1 → W p l e R s m args below meth c H1 locs1 0 0 Q (F0 m (pc + 1) ls rest)) : W p l e R s m args below meth c H locs 0 0 Q (F0 m pc ls (.int x :: .int i :: .ref (ad 2) :: rest)) := va_iast B.1.1 B.1.2.1 B.2.1 w.1 w.2.1 w.2.2 2 1 rfl rfl hin hdg (fun H1 locs1 hP hD hS => kk H1 locs1 _ rfl ⟨hP, hD, hS⟩)
theorem alM_3 (B : Bd p m c cc nL s args own (EM D ca ak av) A) (w : Wd (EM D ca ak av) A s (wM ad ca fi fl ar) H locs) {i : Int32} (hin : vp_in i 120) (hdg : decode cc pc = .ok (.iaload, 1)) (kk : W p l e R s m args below meth c H locs 0 0 Q (F0 m (pc + 1) ls (.int (ar 3 i.toNatClampNeg) :: rest))) : W p l e R s m args below meth c H locs 0 0 Q (F0 m pc ls (.int i :: .ref (ad 3) :: rest)) := va_iald B.1.1 B.1.2.1 B.2.1 w.1 3 2 rfl rfl hin hdg kk
theorem asM_3 (B : Bd p m c cc nL s args own (EM D ca ak av) A) (w : Wd (EM D ca ak av) A s (wM ad ca fi fl ar) H locs) {i x : Int32} (hin : vp_in i 120) (hdg : decode cc pc = .ok (.iastore, 1)) (kk : ∀ (H1 : Heap) (locs1 : List Loc) (ar1 : Nat → Nat → Int32), ar1 = updA ar 3 (upd (ar 3) i.toNatClampNeg x) → Wd (EM D ca ak av) A s (wM ad ca fi fl ar1) H1 locs1 → W p l e R s m args below meth c H1 locs1 0 0 Q (F0 m (pc + 1) ls rest)) : W p l e R s m args below meth c H locs 0 0 Q (F0 m pc ls (.int x :: .int i :: .ref (ad 3) :: rest)) := va_iast B.1.1 B.1.2.1 B.2.1 w.1 w.2.1 w.2.2 3 2 rfl rfl hin hdg (fun H1 locs1 hP hD hS => kk H1 locs1 _ rfl ⟨hP, hD, hS⟩)
theorem alM_4 (B : Bd p m c cc nL s args own (EM D ca ak av) A) (w : Wd (EM D ca ak av) A s (wM ad ca fi fl ar) H locs) {i : Int32} (hin : vp_in i 1001) (hdg : decode cc pc = .ok (.iaload, 1)) (kk : W p l e R s m args below meth c H locs 0 0 Q (F0 m (pc + 1) ls (.int (ar 4 i.toNatClampNeg) :: rest))) : W p l e R s m args below meth c H locs 0 0 Q (F0 m pc ls (.int i :: .ref (ad 4) :: rest)) := va_iald B.1.1 B.1.2.1 B.2.1 w.1 4 3 rfl rfl hin hdg kk
theorem asM_4 (B : Bd p m c cc nL s args own (EM D ca ak av) A) (w : Wd (EM D ca ak av) A s (wM ad ca fi fl ar) H locs) {i x : Int32} (hin : vp_in i 1001) (hdg : decode cc pc = .ok (.iastore, 1)) (kk : ∀ (H1 : Heap) (locs1 : List Loc) (ar1 : Nat → Nat → Int32), ar1 = updA ar 4 (upd (ar 4) i.toNatClampNeg x) → Wd (EM D ca ak av) A s (wM ad ca fi fl ar1) H1 locs1 → W p l e R s m args below meth c H1 locs1 0 0 Q (F0 m (pc + 1) ls rest)) : W p l e R s m args below meth c H locs 0 0 Q (F0 m pc ls (.int x :: .int i :: .ref (ad 4) :: rest)) := va_iast B.1.1 B.1.2.1 B.2.1 w.1 w.2.1 w.2.2 4 3 rfl rfl hin hdg (fun H1 locs1 hP hD hS => kk H1 locs1 _ rfl ⟨hP, hD, hS⟩)
theorem alM_5 (B : Bd p m c cc nL s args own (EM D ca ak av) A) (w : Wd (EM D ca ak av) A s (wM ad ca fi fl ar) H locs) {i : Int32} (hin : vp_in i 36) (hdg : decode cc pc = .ok (.baload, 1)) (kk : W p l e R s m args below meth c H locs 0 0 Q (F0 m (pc + 1) ls (.int (ar 5 i.toNatClampNeg) :: rest))) : W p l e R s m args below meth c H locs 0 0 Q (F0 m pc ls (.int i :: .ref (ad 5) :: rest)) := va_zald B.1.1 B.1.2.1 B.2.1 w.1 5 4 rfl rfl hin hdg kk
theorem asM_5 (B : Bd p m c cc nL s args own (EM D ca ak av) A) (w : Wd (EM D ca ak av) A s (wM ad ca fi fl ar) H locs) {i x : Int32} (hin : vp_in i 36) (hdg : decode cc pc = .ok (.bastore, 1)) (kk : ∀ (H1 : Heap) (locs1 : List Loc) (ar1 : Nat → Nat → Int32), ar1 = updA ar 5 (upd (ar 5) i.toNatClampNeg (vp_nar .boolean x)) → Wd (EM D ca ak av) A s (wM ad ca fi fl ar1) H1 locs1 → W p l e R s m args below meth c H1 locs1 0 0 Q (F0 m (pc + 1) ls rest)) : W p l e R s m args below meth c H locs 0 0 Q (F0 m pc ls (.int x :: .int i :: .ref (ad 5) :: rest)) := va_zast B.1.1 B.1.2.1 B.2.1 w.1 w.2.1 w.2.2 5 4 rfl rfl hin hdg (fun H1 locs1 hP hD hS => kk H1 locs1 _ rfl ⟨hP, hD, hS⟩)
theorem alM_6 (B : Bd p m c cc nL s args own (EM D ca ak av) A) (w : Wd (EM D ca ak av) A s (wM ad ca fi fl ar) H locs) {i : Int32} (hin : vp_in i 6) (hdg : decode cc pc = .ok (.iaload, 1)) (kk : W p l e R s m args below meth c H locs 0 0 Q (F0 m (pc + 1) ls (.int (ar 6 i.toNatClampNeg) :: rest))) : W p l e R s m args below meth c H locs 0 0 Q (F0 m pc ls (.int i :: .ref (ad 6) :: rest)) := va_iald B.1.1 B.1.2.1 B.2.1 w.1 6 5 rfl rfl hin hdg kk
theorem asM_6 (B : Bd p m c cc nL s args own (EM D ca ak av) A) (w : Wd (EM D ca ak av) A s (wM ad ca fi fl ar) H locs) {i x : Int32} (hin : vp_in i 6) (hdg : decode cc pc = .ok (.iastore, 1)) (kk : ∀ (H1 : Heap) (locs1 : List Loc) (ar1 : Nat → Nat → Int32), ar1 = updA ar 6 (upd (ar 6) i.toNatClampNeg x) → Wd (EM D ca ak av) A s (wM ad ca fi fl ar1) H1 locs1 → W p l e R s m args below meth c H1 locs1 0 0 Q (F0 m (pc + 1) ls rest)) : W p l e R s m args below meth c H locs 0 0 Q (F0 m pc ls (.int x :: .int i :: .ref (ad 6) :: rest)) := va_iast B.1.1 B.1.2.1 B.2.1 w.1 w.2.1 w.2.2 6 5 rfl rfl hin hdg (fun H1 locs1 hP hD hS => kk H1 locs1 _ rfl ⟨hP, hD, hS⟩)
end WLD
end
section
theorem kp2_3 : Cond.selects RX9 yX9_stepOf yX9_stepOf ∈ wsU := in_p2 (List.mem_of_getElem? (i := 3) rfl) (by decide)
theorem kp2_4 : Cond.selects RX9 yX9_calledGood yX9_calledGood ∈ wsU := in_p2 (List.mem_of_getElem? (i := 4) rfl) (by decide)
theorem kt1_1 : Cond.initialized RX8 ∈ wsU := in_t1 (List.mem_of_getElem? (i := 1) (by decide +kernel)) (by decide)
theorem kt1_11 : Cond.initialized RX9 ∈ wsU := in_t1 (List.mem_of_getElem? (i := 11) (by decide +kernel)) (by decide)
theorem kt1_126 : Cond.fieldLink RX1 15 "SaidOfHim$Custom" "own" "[I" ∈ wsU := in_t1 (List.mem_of_getElem? (i := 126) (by decide +kernel)) (by decide)
theorem kt1_136 : Cond.fieldLink RX1 45 "SaidOfHim$Custom" "fade" "I" ∈ wsU := in_t1 (List.mem_of_getElem? (i := 136) (by decide +kernel)) (by decide)
theorem kt1_137 : Cond.fieldLink RX1 49 "SaidOfHim$Custom" "fresh" "I" ∈ wsU := in_t1 (List.mem_of_getElem? (i := 137) (by decide +kernel)) (by decide)
theorem kt2_165 : Cond.static yX8_bit ∈ wsU := in_t2 (List.mem_of_getElem? (i := 165) (by decide +kernel)) (by decide)
theorem kt2_166 : Cond.code yX8_bit cX8_bit 2 (some .int) ∈ wsU := in_t2 (List.mem_of_getElem? (i := 166) (by decide +kernel)) (by decide)
theorem kt2_221 : Cond.methodLink RX8 134 yX8_bit ∈ wsU := in_t2 (List.mem_of_getElem? (i := 221) (by decide +kernel)) (by decide)
theorem kt2_72 : Cond.methodLink RX8 73 yX8_within ∈ wsU := in_t2 (List.mem_of_getElem? (i := 72) (by decide +kernel)) (by decide)
theorem kt2_73 : Cond.static yX8_within ∈ wsU := in_t2 (List.mem_of_getElem? (i := 73) (by decide +kernel)) (by decide)
theorem kt2_74 : Cond.code yX8_within cX8_within 3 (some .boolean) ∈ wsU := in_t2 (List.mem_of_getElem? (i := 74) (by decide +kernel)) (by decide)
theorem kt3_3 : Cond.constantLong RX1 57 10000000 ∈ wsU := in_t3 (List.mem_of_getElem? (i := 3) (by decide +kernel)) (by decide)
theorem kt4_172 : Cond.methodLink RX9 127 yX9_means ∈ wsU := in_t4 (List.mem_of_getElem? (i := 172) (by decide +kernel)) (by decide)
theorem kt4_173 : Cond.static yX9_means ∈ wsU := in_t4 (List.mem_of_getElem? (i := 173) (by decide +kernel)) (by decide)
theorem kt4_174 : Cond.code yX9_means cX9_means 3 (some .int) ∈ wsU := in_t4 (List.mem_of_getElem? (i := 174) (by decide +kernel)) (by decide)
theorem kt4_175 : Cond.methodLink RX9 131 yX9_calls ∈ wsU := in_t4 (List.mem_of_getElem? (i := 175) (by decide +kernel)) (by decide)
theorem kt4_176 : Cond.static yX9_calls ∈ wsU := in_t4 (List.mem_of_getElem? (i := 176) (by decide +kernel)) (by decide)
theorem kt4_177 : Cond.code yX9_calls cX9_calls 4 (some .int) ∈ wsU := in_t4 (List.mem_of_getElem? (i := 177) (by decide +kernel)) (by decide)
theorem kt4_186 : Cond.methodLink RX9 146 yX9_stepOf ∈ wsU := in_t4 (List.mem_of_getElem? (i := 186) (by decide +kernel)) (by decide)
theorem kt4_188 : Cond.instanceMethod yX9_stepOf ∈ wsU := in_t4 (List.mem_of_getElem? (i := 188) (by decide +kernel)) (by decide)
theorem kt4_189 : Cond.code yX9_stepOf cX9_stepOf 7 (some .int) ∈ wsU := in_t4 (List.mem_of_getElem? (i := 189) (by decide +kernel)) (by decide)
theorem kt4_190 : Cond.methodLink RX9 135 yX9_shareOf ∈ wsU := in_t4 (List.mem_of_getElem? (i := 190) (by decide +kernel)) (by decide)
theorem kt4_191 : Cond.static yX9_shareOf ∈ wsU := in_t4 (List.mem_of_getElem? (i := 191) (by decide +kernel)) (by decide)
theorem kt4_192 : Cond.code yX9_shareOf cX9_shareOf 2 (some .int) ∈ wsU := in_t4 (List.mem_of_getElem? (i := 192) (by decide +kernel)) (by decide)
theorem kt4_193 : Cond.methodLink RX9 138 yX9_calledGood ∈ wsU := in_t4 (List.mem_of_getElem? (i := 193) (by decide +kernel)) (by decide)
theorem kt4_195 : Cond.instanceMethod yX9_calledGood ∈ wsU := in_t4 (List.mem_of_getElem? (i := 195) (by decide +kernel)) (by decide)
theorem kt4_196 : Cond.code yX9_calledGood cX9_calledGood 9 (some .int) ∈ wsU := in_t4 (List.mem_of_getElem? (i := 196) (by decide +kernel)) (by decide)
theorem kt4_197 : Cond.constantLong RX9 141 10000000 ∈ wsU := in_t4 (List.mem_of_getElem? (i := 197) (by decide +kernel)) (by decide)
theorem kt4_25 : Cond.fieldLink RX9 7 "SaidOfHimModel" "village" "[I" ∈ wsU := in_t4 (List.mem_of_getElem? (i := 25) (by decide +kernel)) (by decide)
theorem kt4_36 : Cond.fieldLink RX9 23 "SaidOfHimModel" "met" "[I" ∈ wsU := in_t4 (List.mem_of_getElem? (i := 36) (by decide +kernel)) (by decide)
theorem kt4_37 : Cond.fieldLink RX9 155 "SaidOfHimModel" "rest" "I" ∈ wsU := in_t4 (List.mem_of_getElem? (i := 37) (by decide +kernel)) (by decide)
theorem kt4_38 : Cond.fieldLink RX9 149 "SaidOfHimModel" "tail" "I" ∈ wsU := in_t4 (List.mem_of_getElem? (i := 38) (by decide +kernel)) (by decide)
theorem kt4_39 : Cond.fieldLink RX9 152 "SaidOfHimModel" "ring" "I" ∈ wsU := in_t4 (List.mem_of_getElem? (i := 39) (by decide +kernel)) (by decide)
theorem hdV_X9_calledGood : yX9_calledGood.cls = RX9 ∧ yX9_calledGood.cls ≠ "java/lang/invoke/MethodHandle" ∧ yX9_calledGood.cls ≠ "java/lang/invoke/VarHandle" ∧ (parseMethodDescriptor yX9_calledGood.desc).map (fun d => d.parameters.length) = some 4 := by decide +kernel
theorem hdV_X9_stepOf : yX9_stepOf.cls = RX9 ∧ yX9_stepOf.cls ≠ "java/lang/invoke/MethodHandle" ∧ yX9_stepOf.cls ≠ "java/lang/invoke/VarHandle" ∧ (parseMethodDescriptor yX9_stepOf.desc).map (fun d => d.parameters.length) = some 2 := by decide +kernel
theorem hdS_X8_bit : yX8_bit.cls ≠ "java/lang/invoke/MethodHandle" ∧ yX8_bit.cls ≠ "java/lang/invoke/VarHandle" ∧ (parseMethodDescriptor yX8_bit.desc).map (fun d => d.parameters.length) = some 2 := by decide +kernel
theorem hdS_X8_within : yX8_within.cls ≠ "java/lang/invoke/MethodHandle" ∧ yX8_within.cls ≠ "java/lang/invoke/VarHandle" ∧ (parseMethodDescriptor yX8_within.desc).map (fun d => d.parameters.length) = some 3 := by decide +kernel
theorem hdS_X9_calls : yX9_calls.cls ≠ "java/lang/invoke/MethodHandle" ∧ yX9_calls.cls ≠ "java/lang/invoke/VarHandle" ∧ (parseMethodDescriptor yX9_calls.desc).map (fun d => d.parameters.length) = some 4 := by decide +kernel
theorem hdS_X9_means : yX9_means.cls ≠ "java/lang/invoke/MethodHandle" ∧ yX9_means.cls ≠ "java/lang/invoke/VarHandle" ∧ (parseMethodDescriptor yX9_means.desc).map (fun d => d.parameters.length) = some 3 := by decide +kernel
theorem hdS_X9_shareOf : yX9_shareOf.cls ≠ "java/lang/invoke/MethodHandle" ∧ yX9_shareOf.cls ≠ "java/lang/invoke/VarHandle" ∧ (parseMethodDescriptor yX9_shareOf.desc).map (fun d => d.parameters.length) = some 2 := by decide +kernel
end
section
theorem dX1_next_0 : decode cX1_next 0 = .ok (.sipush 1000, 3) := by decide +kernel
theorem dX1_next_3 : decode cX1_next 3 = .ok (.iload_n 1, 1) := by decide +kernel
theorem dX1_next_4 : decode cX1_next 4 = .ok (.isub, 1) := by decide +kernel
theorem dX1_next_5 : decode cX1_next 5 = .ok (.i2l, 1) := by decide +kernel
theorem dX1_next_6 : decode cX1_next 6 = .ok (.lstore_n 2, 1) := by decide +kernel
theorem dX1_next_7 : decode cX1_next 7 = .ok (.lload_n 2, 1) := by decide +kernel
theorem dX1_next_8 : decode cX1_next 8 = .ok (.lload_n 2, 1) := by decide +kernel
theorem dX1_next_9 : decode cX1_next 9 = .ok (.lmul, 1) := by decide +kernel
theorem dX1_next_10 : decode cX1_next 10 = .ok (.aload_n 0, 1) := by decide +kernel
theorem dX1_next_11 : decode cX1_next 11 = .ok (.getfield 15, 3) := by decide +kernel
theorem dX1_next_14 : decode cX1_next 14 = .ok (.iconst 0, 1) := by decide +kernel
theorem dX1_next_15 : decode cX1_next 15 = .ok (.iaload, 1) := by decide +kernel
theorem dX1_next_16 : decode cX1_next 16 = .ok (.i2l, 1) := by decide +kernel
theorem dX1_next_17 : decode cX1_next 17 = .ok (.lmul, 1) := by decide +kernel
theorem dX1_next_18 : decode cX1_next 18 = .ok (.lload_n 2, 1) := by decide +kernel
theorem dX1_next_19 : decode cX1_next 19 = .ok (.iload_n 1, 1) := by decide +kernel
theorem dX1_next_20 : decode cX1_next 20 = .ok (.i2l, 1) := by decide +kernel
theorem dX1_next_21 : decode cX1_next 21 = .ok (.lmul, 1) := by decide +kernel
theorem dX1_next_22 : decode cX1_next 22 = .ok (.aload_n 0, 1) := by decide +kernel
theorem dX1_next_23 : decode cX1_next 23 = .ok (.getfield 15, 3) := by decide +kernel
theorem dX1_next_26 : decode cX1_next 26 = .ok (.iconst 1, 1) := by decide +kernel
theorem dX1_next_27 : decode cX1_next 27 = .ok (.iaload, 1) := by decide +kernel
theorem dX1_next_28 : decode cX1_next 28 = .ok (.aload_n 0, 1) := by decide +kernel
theorem dX1_next_29 : decode cX1_next 29 = .ok (.getfield 15, 3) := by decide +kernel
theorem dX1_next_32 : decode cX1_next 32 = .ok (.iconst 2, 1) := by decide +kernel
theorem dX1_next_33 : decode cX1_next 33 = .ok (.iaload, 1) := by decide +kernel
theorem dX1_next_34 : decode cX1_next 34 = .ok (.iadd, 1) := by decide +kernel
theorem dX1_next_35 : decode cX1_next 35 = .ok (.i2l, 1) := by decide +kernel
theorem dX1_next_36 : decode cX1_next 36 = .ok (.lmul, 1) := by decide +kernel
theorem dX1_next_37 : decode cX1_next 37 = .ok (.ladd, 1) := by decide +kernel
theorem dX1_next_38 : decode cX1_next 38 = .ok (.iload_n 1, 1) := by decide +kernel
theorem dX1_next_39 : decode cX1_next 39 = .ok (.i2l, 1) := by decide +kernel
theorem dX1_next_40 : decode cX1_next 40 = .ok (.iload_n 1, 1) := by decide +kernel
theorem dX1_next_41 : decode cX1_next 41 = .ok (.i2l, 1) := by decide +kernel
theorem dX1_next_42 : decode cX1_next 42 = .ok (.lmul, 1) := by decide +kernel
theorem dX1_next_43 : decode cX1_next 43 = .ok (.aload_n 0, 1) := by decide +kernel
theorem dX1_next_44 : decode cX1_next 44 = .ok (.getfield 15, 3) := by decide +kernel
theorem dX1_next_47 : decode cX1_next 47 = .ok (.iconst 3, 1) := by decide +kernel
theorem dX1_next_48 : decode cX1_next 48 = .ok (.iaload, 1) := by decide +kernel
theorem dX1_next_49 : decode cX1_next 49 = .ok (.i2l, 1) := by decide +kernel
theorem dX1_next_50 : decode cX1_next 50 = .ok (.lmul, 1) := by decide +kernel
theorem dX1_next_51 : decode cX1_next 51 = .ok (.ladd, 1) := by decide +kernel
theorem dX1_next_52 : decode cX1_next 52 = .ok (.lstore 4, 2) := by decide +kernel
theorem dX1_next_54 : decode cX1_next 54 = .ok (.lload 4, 2) := by decide +kernel
theorem dX1_next_56 : decode cX1_next 56 = .ok (.ldc2_w 57, 3) := by decide +kernel
theorem dX1_next_59 : decode cX1_next 59 = .ok (.ldiv, 1) := by decide +kernel
theorem dX1_next_60 : decode cX1_next 60 = .ok (.l2i, 1) := by decide +kernel
theorem dX1_next_61 : decode cX1_next 61 = .ok (.istore 6, 2) := by decide +kernel
theorem dX1_next_63 : decode cX1_next 63 = .ok (.bipush 100, 2) := by decide +kernel
theorem dX1_next_65 : decode cX1_next 65 = .ok (.aload_n 0, 1) := by decide +kernel
theorem dX1_next_66 : decode cX1_next 66 = .ok (.getfield 45, 3) := by decide +kernel
theorem dX1_next_69 : decode cX1_next 69 = .ok (.isub, 1) := by decide +kernel
theorem dX1_next_70 : decode cX1_next 70 = .ok (.iload 6, 2) := by decide +kernel
theorem dX1_next_72 : decode cX1_next 72 = .ok (.imul, 1) := by decide +kernel
theorem dX1_next_73 : decode cX1_next 73 = .ok (.aload_n 0, 1) := by decide +kernel
theorem dX1_next_74 : decode cX1_next 74 = .ok (.getfield 45, 3) := by decide +kernel
theorem dX1_next_77 : decode cX1_next 77 = .ok (.sipush 1000, 3) := by decide +kernel
theorem dX1_next_80 : decode cX1_next 80 = .ok (.imul, 1) := by decide +kernel
theorem dX1_next_81 : decode cX1_next 81 = .ok (.aload_n 0, 1) := by decide +kernel
theorem dX1_next_82 : decode cX1_next 82 = .ok (.getfield 49, 3) := by decide +kernel
theorem dX1_next_85 : decode cX1_next 85 = .ok (.imul, 1) := by decide +kernel
theorem dX1_next_86 : decode cX1_next 86 = .ok (.iadd, 1) := by decide +kernel
theorem dX1_next_87 : decode cX1_next 87 = .ok (.bipush 100, 2) := by decide +kernel
theorem dX1_next_89 : decode cX1_next 89 = .ok (.idiv, 1) := by decide +kernel
theorem dX1_next_90 : decode cX1_next 90 = .ok (.ireturn, 1) := by decide +kernel
theorem dX8_within_0 : decode cX8_within 0 = .ok (.iload_n 0, 1) := by decide +kernel
theorem dX8_within_1 : decode cX8_within 1 = .ok (.iload_n 1, 1) := by decide +kernel
theorem dX8_within_2 : decode cX8_within 2 = .ok (.if_icmp .lt 12, 3) := by decide +kernel
theorem dX8_within_5 : decode cX8_within 5 = .ok (.iload_n 0, 1) := by decide +kernel
theorem dX8_within_6 : decode cX8_within 6 = .ok (.iload_n 2, 1) := by decide +kernel
theorem dX8_within_7 : decode cX8_within 7 = .ok (.if_icmp .gt 7, 3) := by decide +kernel
theorem dX8_within_10 : decode cX8_within 10 = .ok (.iconst 1, 1) := by decide +kernel
theorem dX8_within_11 : decode cX8_within 11 = .ok (.goto 4, 3) := by decide +kernel
theorem dX8_within_14 : decode cX8_within 14 = .ok (.iconst 0, 1) := by decide +kernel
theorem dX8_within_15 : decode cX8_within 15 = .ok (.ireturn, 1) := by decide +kernel
theorem dX8_isShare_0 : decode cX8_isShare 0 = .ok (.iload_n 0, 1) := by decide +kernel
theorem dX8_isShare_1 : decode cX8_isShare 1 = .ok (.iconst 0, 1) := by decide +kernel
theorem dX8_isShare_2 : decode cX8_isShare 2 = .ok (.sipush 1000, 3) := by decide +kernel
theorem dX8_isShare_5 : decode cX8_isShare 5 = .ok (.invokestatic 73, 3) := by decide +kernel
theorem dX8_isShare_8 : decode cX8_isShare 8 = .ok (.ireturn, 1) := by decide +kernel
theorem dX8_bit_0 : decode cX8_bit 0 = .ok (.iload_n 0, 1) := by decide +kernel
theorem dX8_bit_1 : decode cX8_bit 1 = .ok (.iload_n 1, 1) := by decide +kernel
theorem dX8_bit_2 : decode cX8_bit 2 = .ok (.ishr, 1) := by decide +kernel
theorem dX8_bit_3 : decode cX8_bit 3 = .ok (.iconst 1, 1) := by decide +kernel
theorem dX8_bit_4 : decode cX8_bit 4 = .ok (.iand, 1) := by decide +kernel
theorem dX8_bit_5 : decode cX8_bit 5 = .ok (.ireturn, 1) := by decide +kernel
theorem dX8_hangs_0 : decode cX8_hangs 0 = .ok (.iconst 0, 1) := by decide +kernel
theorem dX8_hangs_1 : decode cX8_hangs 1 = .ok (.istore_n 3, 1) := by decide +kernel
theorem dX8_hangs_2 : decode cX8_hangs 2 = .ok (.iload_n 3, 1) := by decide +kernel
theorem dX8_hangs_3 : decode cX8_hangs 3 = .ok (.iload_n 1, 1) := by decide +kernel
theorem dX8_hangs_4 : decode cX8_hangs 4 = .ok (.if_icmp .ge 26, 3) := by decide +kernel
theorem dX8_hangs_7 : decode cX8_hangs 7 = .ok (.iload_n 0, 1) := by decide +kernel
theorem dX8_hangs_8 : decode cX8_hangs 8 = .ok (.iload_n 3, 1) := by decide +kernel
theorem dX8_hangs_9 : decode cX8_hangs 9 = .ok (.invokestatic 134, 3) := by decide +kernel
theorem dX8_hangs_12 : decode cX8_hangs 12 = .ok (.iload_n 0, 1) := by decide +kernel
theorem dX8_hangs_13 : decode cX8_hangs 13 = .ok (.iload_n 3, 1) := by decide +kernel
theorem dX8_hangs_14 : decode cX8_hangs 14 = .ok (.iload_n 2, 1) := by decide +kernel
theorem dX8_hangs_15 : decode cX8_hangs 15 = .ok (.ixor, 1) := by decide +kernel
theorem dX8_hangs_16 : decode cX8_hangs 16 = .ok (.invokestatic 134, 3) := by decide +kernel
theorem dX8_hangs_19 : decode cX8_hangs 19 = .ok (.if_icmp .eq 5, 3) := by decide +kernel
theorem dX8_hangs_22 : decode cX8_hangs 22 = .ok (.iconst 1, 1) := by decide +kernel
theorem dX8_hangs_23 : decode cX8_hangs 23 = .ok (.ireturn, 1) := by decide +kernel
theorem dX8_hangs_24 : decode cX8_hangs 24 = .ok (.iinc 3 1, 3) := by decide +kernel
theorem dX8_hangs_27 : decode cX8_hangs 27 = .ok (.goto (-25), 3) := by decide +kernel
theorem dX8_hangs_30 : decode cX8_hangs 30 = .ok (.iconst 0, 1) := by decide +kernel
theorem dX8_hangs_31 : decode cX8_hangs 31 = .ok (.ireturn, 1) := by decide +kernel
theorem dX9_means_0 : decode cX9_means 0 = .ok (.iload_n 0, 1) := by decide +kernel
theorem dX9_means_1 : decode cX9_means 1 = .ok (.iconst 2, 1) := by decide +kernel
theorem dX9_means_2 : decode cX9_means 2 = .ok (.iload_n 1, 1) := by decide +kernel
theorem dX9_means_3 : decode cX9_means 3 = .ok (.imul, 1) := by decide +kernel
theorem dX9_means_4 : decode cX9_means 4 = .ok (.iload_n 2, 1) := by decide +kernel
theorem dX9_means_5 : decode cX9_means 5 = .ok (.iadd, 1) := by decide +kernel
theorem dX9_means_6 : decode cX9_means 6 = .ok (.ishr, 1) := by decide +kernel
theorem dX9_means_7 : decode cX9_means 7 = .ok (.iconst 1, 1) := by decide +kernel
theorem dX9_means_8 : decode cX9_means 8 = .ok (.iand, 1) := by decide +kernel
theorem dX9_means_9 : decode cX9_means 9 = .ok (.ireturn, 1) := by decide +kernel
theorem dX9_calls_0 : decode cX9_calls 0 = .ok (.iload_n 0, 1) := by decide +kernel
theorem dX9_calls_1 : decode cX9_calls 1 = .ok (.iconst 4, 1) := by decide +kernel
theorem dX9_calls_2 : decode cX9_calls 2 = .ok (.iload_n 1, 1) := by decide +kernel
theorem dX9_calls_3 : decode cX9_calls 3 = .ok (.imul, 1) := by decide +kernel
theorem dX9_calls_4 : decode cX9_calls 4 = .ok (.iconst 2, 1) := by decide +kernel
theorem dX9_calls_5 : decode cX9_calls 5 = .ok (.iload_n 2, 1) := by decide +kernel
theorem dX9_calls_6 : decode cX9_calls 6 = .ok (.imul, 1) := by decide +kernel
theorem dX9_calls_7 : decode cX9_calls 7 = .ok (.iadd, 1) := by decide +kernel
theorem dX9_calls_8 : decode cX9_calls 8 = .ok (.iload_n 3, 1) := by decide +kernel
theorem dX9_calls_9 : decode cX9_calls 9 = .ok (.iadd, 1) := by decide +kernel
theorem dX9_calls_10 : decode cX9_calls 10 = .ok (.ishr, 1) := by decide +kernel
theorem dX9_calls_11 : decode cX9_calls 11 = .ok (.iconst 1, 1) := by decide +kernel
theorem dX9_calls_12 : decode cX9_calls 12 = .ok (.iand, 1) := by decide +kernel
theorem dX9_calls_13 : decode cX9_calls 13 = .ok (.ireturn, 1) := by decide +kernel
theorem dX9_shareOf_0 : decode cX9_shareOf 0 = .ok (.iload_n 0, 1) := by decide +kernel
theorem dX9_shareOf_1 : decode cX9_shareOf 1 = .ok (.iconst 1, 1) := by decide +kernel
theorem dX9_shareOf_2 : decode cX9_shareOf 2 = .ok (.if_icmp .ne 7, 3) := by decide +kernel
theorem dX9_shareOf_5 : decode cX9_shareOf 5 = .ok (.iload_n 1, 1) := by decide +kernel
theorem dX9_shareOf_6 : decode cX9_shareOf 6 = .ok (.goto 8, 3) := by decide +kernel
theorem dX9_shareOf_9 : decode cX9_shareOf 9 = .ok (.sipush 1000, 3) := by decide +kernel
theorem dX9_shareOf_12 : decode cX9_shareOf 12 = .ok (.iload_n 1, 1) := by decide +kernel
theorem dX9_shareOf_13 : decode cX9_shareOf 13 = .ok (.isub, 1) := by decide +kernel
theorem dX9_shareOf_14 : decode cX9_shareOf 14 = .ok (.ireturn, 1) := by decide +kernel
theorem dX9_calledGood_0 : decode cX9_calledGood 0 = .ok (.iload_n 1, 1) := by decide +kernel
theorem dX9_calledGood_1 : decode cX9_calledGood 1 = .ok (.iload_n 3, 1) := by decide +kernel
theorem dX9_calledGood_2 : decode cX9_calledGood 2 = .ok (.iload 4, 2) := by decide +kernel
theorem dX9_calledGood_4 : decode cX9_calledGood 4 = .ok (.invokestatic 127, 3) := by decide +kernel
theorem dX9_calledGood_7 : decode cX9_calledGood 7 = .ok (.iconst 1, 1) := by decide +kernel
theorem dX9_calledGood_8 : decode cX9_calledGood 8 = .ok (.if_icmp .ne 15, 3) := by decide +kernel
theorem dX9_calledGood_11 : decode cX9_calledGood 11 = .ok (.bipush 100, 2) := by decide +kernel
theorem dX9_calledGood_13 : decode cX9_calledGood 13 = .ok (.aload_n 0, 1) := by decide +kernel
theorem dX9_calledGood_14 : decode cX9_calledGood 14 = .ok (.getfield 7, 3) := by decide +kernel
theorem dX9_calledGood_17 : decode cX9_calledGood 17 = .ok (.iconst 2, 1) := by decide +kernel
theorem dX9_calledGood_18 : decode cX9_calledGood 18 = .ok (.iaload, 1) := by decide +kernel
theorem dX9_calledGood_19 : decode cX9_calledGood 19 = .ok (.isub, 1) := by decide +kernel
theorem dX9_calledGood_20 : decode cX9_calledGood 20 = .ok (.goto 4, 3) := by decide +kernel
theorem dX9_calledGood_23 : decode cX9_calledGood 23 = .ok (.iconst 0, 1) := by decide +kernel
theorem dX9_calledGood_24 : decode cX9_calledGood 24 = .ok (.istore 5, 2) := by decide +kernel
theorem dX9_calledGood_26 : decode cX9_calledGood 26 = .ok (.iconst 0, 1) := by decide +kernel
theorem dX9_calledGood_27 : decode cX9_calledGood 27 = .ok (.istore 6, 2) := by decide +kernel
theorem dX9_calledGood_29 : decode cX9_calledGood 29 = .ok (.iconst 0, 1) := by decide +kernel
theorem dX9_calledGood_30 : decode cX9_calledGood 30 = .ok (.istore 7, 2) := by decide +kernel
theorem dX9_calledGood_32 : decode cX9_calledGood 32 = .ok (.iload 7, 2) := by decide +kernel
theorem dX9_calledGood_34 : decode cX9_calledGood 34 = .ok (.iconst 2, 1) := by decide +kernel
theorem dX9_calledGood_35 : decode cX9_calledGood 35 = .ok (.if_icmp .ge 66, 3) := by decide +kernel
theorem dX9_calledGood_38 : decode cX9_calledGood 38 = .ok (.iload 7, 2) := by decide +kernel
theorem dX9_calledGood_40 : decode cX9_calledGood 40 = .ok (.iconst 1, 1) := by decide +kernel
theorem dX9_calledGood_41 : decode cX9_calledGood 41 = .ok (.if_icmp .ne 8, 3) := by decide +kernel
theorem dX9_calledGood_44 : decode cX9_calledGood 44 = .ok (.iload 5, 2) := by decide +kernel
theorem dX9_calledGood_46 : decode cX9_calledGood 46 = .ok (.goto 8, 3) := by decide +kernel
theorem dX9_calledGood_49 : decode cX9_calledGood 49 = .ok (.bipush 100, 2) := by decide +kernel
theorem dX9_calledGood_51 : decode cX9_calledGood 51 = .ok (.iload 5, 2) := by decide +kernel
theorem dX9_calledGood_53 : decode cX9_calledGood 53 = .ok (.isub, 1) := by decide +kernel
theorem dX9_calledGood_54 : decode cX9_calledGood 54 = .ok (.istore 8, 2) := by decide +kernel
theorem dX9_calledGood_56 : decode cX9_calledGood 56 = .ok (.iload 6, 2) := by decide +kernel
theorem dX9_calledGood_58 : decode cX9_calledGood 58 = .ok (.iload 8, 2) := by decide +kernel
theorem dX9_calledGood_60 : decode cX9_calledGood 60 = .ok (.iload_n 2, 1) := by decide +kernel
theorem dX9_calledGood_61 : decode cX9_calledGood 61 = .ok (.iload_n 3, 1) := by decide +kernel
theorem dX9_calledGood_62 : decode cX9_calledGood 62 = .ok (.iload 4, 2) := by decide +kernel
theorem dX9_calledGood_64 : decode cX9_calledGood 64 = .ok (.iload 7, 2) := by decide +kernel
theorem dX9_calledGood_66 : decode cX9_calledGood 66 = .ok (.invokestatic 131, 3) := by decide +kernel
theorem dX9_calledGood_69 : decode cX9_calledGood 69 = .ok (.iconst 1, 1) := by decide +kernel
theorem dX9_calledGood_70 : decode cX9_calledGood 70 = .ok (.if_icmp .ne 15, 3) := by decide +kernel
theorem dX9_calledGood_73 : decode cX9_calledGood 73 = .ok (.bipush 100, 2) := by decide +kernel
theorem dX9_calledGood_75 : decode cX9_calledGood 75 = .ok (.aload_n 0, 1) := by decide +kernel
theorem dX9_calledGood_76 : decode cX9_calledGood 76 = .ok (.getfield 7, 3) := by decide +kernel
theorem dX9_calledGood_79 : decode cX9_calledGood 79 = .ok (.iconst 3, 1) := by decide +kernel
theorem dX9_calledGood_80 : decode cX9_calledGood 80 = .ok (.iaload, 1) := by decide +kernel
theorem dX9_calledGood_81 : decode cX9_calledGood 81 = .ok (.isub, 1) := by decide +kernel
theorem dX9_calledGood_82 : decode cX9_calledGood 82 = .ok (.goto 9, 3) := by decide +kernel
theorem dX9_calledGood_85 : decode cX9_calledGood 85 = .ok (.aload_n 0, 1) := by decide +kernel
theorem dX9_calledGood_86 : decode cX9_calledGood 86 = .ok (.getfield 7, 3) := by decide +kernel
theorem dX9_calledGood_89 : decode cX9_calledGood 89 = .ok (.iconst 3, 1) := by decide +kernel
theorem dX9_calledGood_90 : decode cX9_calledGood 90 = .ok (.iaload, 1) := by decide +kernel
theorem dX9_calledGood_91 : decode cX9_calledGood 91 = .ok (.imul, 1) := by decide +kernel
theorem dX9_calledGood_92 : decode cX9_calledGood 92 = .ok (.iadd, 1) := by decide +kernel
theorem dX9_calledGood_93 : decode cX9_calledGood 93 = .ok (.istore 6, 2) := by decide +kernel
theorem dX9_calledGood_95 : decode cX9_calledGood 95 = .ok (.iinc 7 1, 3) := by decide +kernel
theorem dX9_calledGood_98 : decode cX9_calledGood 98 = .ok (.goto (-66), 3) := by decide +kernel
theorem dX9_calledGood_101 : decode cX9_calledGood 101 = .ok (.iload 6, 2) := by decide +kernel
theorem dX9_calledGood_103 : decode cX9_calledGood 103 = .ok (.ireturn, 1) := by decide +kernel
theorem dX9_stepOf_0 : decode cX9_stepOf 0 = .ok (.lconst 0, 1) := by decide +kernel
theorem dX9_stepOf_1 : decode cX9_stepOf 1 = .ok (.lstore_n 3, 1) := by decide +kernel
theorem dX9_stepOf_2 : decode cX9_stepOf 2 = .ok (.iconst 0, 1) := by decide +kernel
theorem dX9_stepOf_3 : decode cX9_stepOf 3 = .ok (.istore 5, 2) := by decide +kernel
theorem dX9_stepOf_5 : decode cX9_stepOf 5 = .ok (.iload 5, 2) := by decide +kernel
theorem dX9_stepOf_7 : decode cX9_stepOf 7 = .ok (.iconst 2, 1) := by decide +kernel
theorem dX9_stepOf_8 : decode cX9_stepOf 8 = .ok (.if_icmp .ge 60, 3) := by decide +kernel
theorem dX9_stepOf_11 : decode cX9_stepOf 11 = .ok (.iconst 0, 1) := by decide +kernel
theorem dX9_stepOf_12 : decode cX9_stepOf 12 = .ok (.istore 6, 2) := by decide +kernel
theorem dX9_stepOf_14 : decode cX9_stepOf 14 = .ok (.iload 6, 2) := by decide +kernel
theorem dX9_stepOf_16 : decode cX9_stepOf 16 = .ok (.iconst 2, 1) := by decide +kernel
theorem dX9_stepOf_17 : decode cX9_stepOf 17 = .ok (.if_icmp .ge 45, 3) := by decide +kernel
theorem dX9_stepOf_20 : decode cX9_stepOf 20 = .ok (.lload_n 3, 1) := by decide +kernel
theorem dX9_stepOf_21 : decode cX9_stepOf 21 = .ok (.iload 5, 2) := by decide +kernel
theorem dX9_stepOf_23 : decode cX9_stepOf 23 = .ok (.iload_n 2, 1) := by decide +kernel
theorem dX9_stepOf_24 : decode cX9_stepOf 24 = .ok (.invokestatic 135, 3) := by decide +kernel
theorem dX9_stepOf_27 : decode cX9_stepOf 27 = .ok (.i2l, 1) := by decide +kernel
theorem dX9_stepOf_28 : decode cX9_stepOf 28 = .ok (.iload 6, 2) := by decide +kernel
theorem dX9_stepOf_30 : decode cX9_stepOf 30 = .ok (.iload_n 2, 1) := by decide +kernel
theorem dX9_stepOf_31 : decode cX9_stepOf 31 = .ok (.invokestatic 135, 3) := by decide +kernel
theorem dX9_stepOf_34 : decode cX9_stepOf 34 = .ok (.i2l, 1) := by decide +kernel
theorem dX9_stepOf_35 : decode cX9_stepOf 35 = .ok (.lmul, 1) := by decide +kernel
theorem dX9_stepOf_36 : decode cX9_stepOf 36 = .ok (.aload_n 0, 1) := by decide +kernel
theorem dX9_stepOf_37 : decode cX9_stepOf 37 = .ok (.iload_n 1, 1) := by decide +kernel
theorem dX9_stepOf_38 : decode cX9_stepOf 38 = .ok (.bipush 16, 2) := by decide +kernel
theorem dX9_stepOf_40 : decode cX9_stepOf 40 = .ok (.irem, 1) := by decide +kernel
theorem dX9_stepOf_41 : decode cX9_stepOf 41 = .ok (.iload_n 1, 1) := by decide +kernel
theorem dX9_stepOf_42 : decode cX9_stepOf 42 = .ok (.bipush 16, 2) := by decide +kernel
theorem dX9_stepOf_44 : decode cX9_stepOf 44 = .ok (.idiv, 1) := by decide +kernel
theorem dX9_stepOf_45 : decode cX9_stepOf 45 = .ok (.iload 5, 2) := by decide +kernel
theorem dX9_stepOf_47 : decode cX9_stepOf 47 = .ok (.iload 6, 2) := by decide +kernel
theorem dX9_stepOf_49 : decode cX9_stepOf 49 = .ok (.invokevirtual 138, 3) := by decide +kernel
theorem dX9_stepOf_52 : decode cX9_stepOf 52 = .ok (.i2l, 1) := by decide +kernel
theorem dX9_stepOf_53 : decode cX9_stepOf 53 = .ok (.lmul, 1) := by decide +kernel
theorem dX9_stepOf_54 : decode cX9_stepOf 54 = .ok (.ladd, 1) := by decide +kernel
theorem dX9_stepOf_55 : decode cX9_stepOf 55 = .ok (.lstore_n 3, 1) := by decide +kernel
theorem dX9_stepOf_56 : decode cX9_stepOf 56 = .ok (.iinc 6 1, 3) := by decide +kernel
theorem dX9_stepOf_59 : decode cX9_stepOf 59 = .ok (.goto (-45), 3) := by decide +kernel
theorem dX9_stepOf_62 : decode cX9_stepOf 62 = .ok (.iinc 5 1, 3) := by decide +kernel
theorem dX9_stepOf_65 : decode cX9_stepOf 65 = .ok (.goto (-60), 3) := by decide +kernel
theorem dX9_stepOf_68 : decode cX9_stepOf 68 = .ok (.lload_n 3, 1) := by decide +kernel
theorem dX9_stepOf_69 : decode cX9_stepOf 69 = .ok (.ldc2_w 141, 3) := by decide +kernel
theorem dX9_stepOf_72 : decode cX9_stepOf 72 = .ok (.ldiv, 1) := by decide +kernel
theorem dX9_stepOf_73 : decode cX9_stepOf 73 = .ok (.l2i, 1) := by decide +kernel
theorem dX9_stepOf_74 : decode cX9_stepOf 74 = .ok (.istore 5, 2) := by decide +kernel
theorem dX9_stepOf_76 : decode cX9_stepOf 76 = .ok (.bipush 100, 2) := by decide +kernel
theorem dX9_stepOf_78 : decode cX9_stepOf 78 = .ok (.aload_n 0, 1) := by decide +kernel
theorem dX9_stepOf_79 : decode cX9_stepOf 79 = .ok (.getfield 7, 3) := by decide +kernel
theorem dX9_stepOf_82 : decode cX9_stepOf 82 = .ok (.iconst 4, 1) := by decide +kernel
theorem dX9_stepOf_83 : decode cX9_stepOf 83 = .ok (.iaload, 1) := by decide +kernel
theorem dX9_stepOf_84 : decode cX9_stepOf 84 = .ok (.isub, 1) := by decide +kernel
theorem dX9_stepOf_85 : decode cX9_stepOf 85 = .ok (.iload 5, 2) := by decide +kernel
theorem dX9_stepOf_87 : decode cX9_stepOf 87 = .ok (.imul, 1) := by decide +kernel
theorem dX9_stepOf_88 : decode cX9_stepOf 88 = .ok (.aload_n 0, 1) := by decide +kernel
theorem dX9_stepOf_89 : decode cX9_stepOf 89 = .ok (.getfield 7, 3) := by decide +kernel
theorem dX9_stepOf_92 : decode cX9_stepOf 92 = .ok (.iconst 4, 1) := by decide +kernel
theorem dX9_stepOf_93 : decode cX9_stepOf 93 = .ok (.iaload, 1) := by decide +kernel
theorem dX9_stepOf_94 : decode cX9_stepOf 94 = .ok (.sipush 1000, 3) := by decide +kernel
theorem dX9_stepOf_97 : decode cX9_stepOf 97 = .ok (.imul, 1) := by decide +kernel
theorem dX9_stepOf_98 : decode cX9_stepOf 98 = .ok (.aload_n 0, 1) := by decide +kernel
theorem dX9_stepOf_99 : decode cX9_stepOf 99 = .ok (.getfield 7, 3) := by decide +kernel
theorem dX9_stepOf_102 : decode cX9_stepOf 102 = .ok (.iconst 5, 1) := by decide +kernel
theorem dX9_stepOf_103 : decode cX9_stepOf 103 = .ok (.iaload, 1) := by decide +kernel
theorem dX9_stepOf_104 : decode cX9_stepOf 104 = .ok (.imul, 1) := by decide +kernel
theorem dX9_stepOf_105 : decode cX9_stepOf 105 = .ok (.iadd, 1) := by decide +kernel
theorem dX9_stepOf_106 : decode cX9_stepOf 106 = .ok (.bipush 100, 2) := by decide +kernel
theorem dX9_stepOf_108 : decode cX9_stepOf 108 = .ok (.idiv, 1) := by decide +kernel
theorem dX9_stepOf_109 : decode cX9_stepOf 109 = .ok (.ireturn, 1) := by decide +kernel
theorem dX9_goFrom_0 : decode cX9_goFrom 0 = .ok (.iconst 0, 1) := by decide +kernel
theorem dX9_goFrom_1 : decode cX9_goFrom 1 = .ok (.istore_n 3, 1) := by decide +kernel
theorem dX9_goFrom_2 : decode cX9_goFrom 2 = .ok (.iload_n 3, 1) := by decide +kernel
theorem dX9_goFrom_3 : decode cX9_goFrom 3 = .ok (.sipush 1000, 3) := by decide +kernel
theorem dX9_goFrom_6 : decode cX9_goFrom 6 = .ok (.if_icmp .gt 16, 3) := by decide +kernel
theorem dX9_goFrom_9 : decode cX9_goFrom 9 = .ok (.aload_n 0, 1) := by decide +kernel
theorem dX9_goFrom_10 : decode cX9_goFrom 10 = .ok (.getfield 23, 3) := by decide +kernel
theorem dX9_goFrom_13 : decode cX9_goFrom 13 = .ok (.iload_n 3, 1) := by decide +kernel
theorem dX9_goFrom_14 : decode cX9_goFrom 14 = .ok (.iconst (-1), 1) := by decide +kernel
theorem dX9_goFrom_15 : decode cX9_goFrom 15 = .ok (.iastore, 1) := by decide +kernel
theorem dX9_goFrom_16 : decode cX9_goFrom 16 = .ok (.iinc 3 1, 3) := by decide +kernel
theorem dX9_goFrom_19 : decode cX9_goFrom 19 = .ok (.goto (-17), 3) := by decide +kernel
theorem dX9_goFrom_22 : decode cX9_goFrom 22 = .ok (.iload_n 2, 1) := by decide +kernel
theorem dX9_goFrom_23 : decode cX9_goFrom 23 = .ok (.istore_n 3, 1) := by decide +kernel
theorem dX9_goFrom_24 : decode cX9_goFrom 24 = .ok (.iconst 0, 1) := by decide +kernel
theorem dX9_goFrom_25 : decode cX9_goFrom 25 = .ok (.istore 4, 2) := by decide +kernel
theorem dX9_goFrom_27 : decode cX9_goFrom 27 = .ok (.aload_n 0, 1) := by decide +kernel
theorem dX9_goFrom_28 : decode cX9_goFrom 28 = .ok (.getfield 23, 3) := by decide +kernel
theorem dX9_goFrom_31 : decode cX9_goFrom 31 = .ok (.iload_n 3, 1) := by decide +kernel
theorem dX9_goFrom_32 : decode cX9_goFrom 32 = .ok (.iaload, 1) := by decide +kernel
theorem dX9_goFrom_33 : decode cX9_goFrom 33 = .ok (.ifCond .ge 24, 3) := by decide +kernel
theorem dX9_goFrom_36 : decode cX9_goFrom 36 = .ok (.aload_n 0, 1) := by decide +kernel
theorem dX9_goFrom_37 : decode cX9_goFrom 37 = .ok (.getfield 23, 3) := by decide +kernel
theorem dX9_goFrom_40 : decode cX9_goFrom 40 = .ok (.iload_n 3, 1) := by decide +kernel
theorem dX9_goFrom_41 : decode cX9_goFrom 41 = .ok (.iload 4, 2) := by decide +kernel
theorem dX9_goFrom_43 : decode cX9_goFrom 43 = .ok (.iastore, 1) := by decide +kernel
theorem dX9_goFrom_44 : decode cX9_goFrom 44 = .ok (.iinc 4 1, 3) := by decide +kernel
theorem dX9_goFrom_47 : decode cX9_goFrom 47 = .ok (.aload_n 0, 1) := by decide +kernel
theorem dX9_goFrom_48 : decode cX9_goFrom 48 = .ok (.iload_n 1, 1) := by decide +kernel
theorem dX9_goFrom_49 : decode cX9_goFrom 49 = .ok (.iload_n 3, 1) := by decide +kernel
theorem dX9_goFrom_50 : decode cX9_goFrom 50 = .ok (.invokevirtual 146, 3) := by decide +kernel
theorem dX9_goFrom_53 : decode cX9_goFrom 53 = .ok (.istore_n 3, 1) := by decide +kernel
theorem dX9_goFrom_54 : decode cX9_goFrom 54 = .ok (.goto (-27), 3) := by decide +kernel
theorem dX9_goFrom_57 : decode cX9_goFrom 57 = .ok (.aload_n 0, 1) := by decide +kernel
theorem dX9_goFrom_58 : decode cX9_goFrom 58 = .ok (.aload_n 0, 1) := by decide +kernel
theorem dX9_goFrom_59 : decode cX9_goFrom 59 = .ok (.getfield 23, 3) := by decide +kernel
theorem dX9_goFrom_62 : decode cX9_goFrom 62 = .ok (.iload_n 3, 1) := by decide +kernel
theorem dX9_goFrom_63 : decode cX9_goFrom 63 = .ok (.iaload, 1) := by decide +kernel
theorem dX9_goFrom_64 : decode cX9_goFrom 64 = .ok (.putfield 149, 3) := by decide +kernel
theorem dX9_goFrom_67 : decode cX9_goFrom 67 = .ok (.aload_n 0, 1) := by decide +kernel
theorem dX9_goFrom_68 : decode cX9_goFrom 68 = .ok (.iload 4, 2) := by decide +kernel
theorem dX9_goFrom_70 : decode cX9_goFrom 70 = .ok (.aload_n 0, 1) := by decide +kernel
theorem dX9_goFrom_71 : decode cX9_goFrom 71 = .ok (.getfield 149, 3) := by decide +kernel
theorem dX9_goFrom_74 : decode cX9_goFrom 74 = .ok (.isub, 1) := by decide +kernel
theorem dX9_goFrom_75 : decode cX9_goFrom 75 = .ok (.putfield 152, 3) := by decide +kernel
theorem dX9_goFrom_78 : decode cX9_goFrom 78 = .ok (.aload_n 0, 1) := by decide +kernel
theorem dX9_goFrom_79 : decode cX9_goFrom 79 = .ok (.aload_n 0, 1) := by decide +kernel
theorem dX9_goFrom_80 : decode cX9_goFrom 80 = .ok (.getfield 152, 3) := by decide +kernel
theorem dX9_goFrom_83 : decode cX9_goFrom 83 = .ok (.iconst 1, 1) := by decide +kernel
theorem dX9_goFrom_84 : decode cX9_goFrom 84 = .ok (.if_icmp .ne 7, 3) := by decide +kernel
theorem dX9_goFrom_87 : decode cX9_goFrom 87 = .ok (.iload_n 3, 1) := by decide +kernel
theorem dX9_goFrom_88 : decode cX9_goFrom 88 = .ok (.goto 4, 3) := by decide +kernel
theorem dX9_goFrom_91 : decode cX9_goFrom 91 = .ok (.iconst (-1), 1) := by decide +kernel
theorem dX9_goFrom_92 : decode cX9_goFrom 92 = .ok (.putfield 155, 3) := by decide +kernel
theorem dX9_goFrom_95 : decode cX9_goFrom 95 = .ok (.return_, 1) := by decide +kernel
theorem dX9_gcd_0 : decode cX9_gcd 0 = .ok (.lload_n 0, 1) := by decide +kernel
theorem dX9_gcd_1 : decode cX9_gcd 1 = .ok (.lconst 0, 1) := by decide +kernel
theorem dX9_gcd_2 : decode cX9_gcd 2 = .ok (.lcmp, 1) := by decide +kernel
theorem dX9_gcd_3 : decode cX9_gcd 3 = .ok (.ifCond .ge 9, 3) := by decide +kernel
theorem dX9_gcd_6 : decode cX9_gcd 6 = .ok (.lconst 0, 1) := by decide +kernel
theorem dX9_gcd_7 : decode cX9_gcd 7 = .ok (.lload_n 0, 1) := by decide +kernel
theorem dX9_gcd_8 : decode cX9_gcd 8 = .ok (.lsub, 1) := by decide +kernel
theorem dX9_gcd_9 : decode cX9_gcd 9 = .ok (.goto 4, 3) := by decide +kernel
theorem dX9_gcd_12 : decode cX9_gcd 12 = .ok (.lload_n 0, 1) := by decide +kernel
theorem dX9_gcd_13 : decode cX9_gcd 13 = .ok (.lstore 4, 2) := by decide +kernel
theorem dX9_gcd_15 : decode cX9_gcd 15 = .ok (.lload_n 2, 1) := by decide +kernel
theorem dX9_gcd_16 : decode cX9_gcd 16 = .ok (.lstore 6, 2) := by decide +kernel
theorem dX9_gcd_18 : decode cX9_gcd 18 = .ok (.lload 6, 2) := by decide +kernel
theorem dX9_gcd_20 : decode cX9_gcd 20 = .ok (.lconst 0, 1) := by decide +kernel
theorem dX9_gcd_21 : decode cX9_gcd 21 = .ok (.lcmp, 1) := by decide +kernel
theorem dX9_gcd_22 : decode cX9_gcd 22 = .ok (.ifCond .eq 21, 3) := by decide +kernel
theorem dX9_gcd_25 : decode cX9_gcd 25 = .ok (.lload 4, 2) := by decide +kernel
theorem dX9_gcd_27 : decode cX9_gcd 27 = .ok (.lload 6, 2) := by decide +kernel
theorem dX9_gcd_29 : decode cX9_gcd 29 = .ok (.lrem, 1) := by decide +kernel
theorem dX9_gcd_30 : decode cX9_gcd 30 = .ok (.lstore 8, 2) := by decide +kernel
theorem dX9_gcd_32 : decode cX9_gcd 32 = .ok (.lload 6, 2) := by decide +kernel
theorem dX9_gcd_34 : decode cX9_gcd 34 = .ok (.lstore 4, 2) := by decide +kernel
theorem dX9_gcd_36 : decode cX9_gcd 36 = .ok (.lload 8, 2) := by decide +kernel
theorem dX9_gcd_38 : decode cX9_gcd 38 = .ok (.lstore 6, 2) := by decide +kernel
theorem dX9_gcd_40 : decode cX9_gcd 40 = .ok (.goto (-22), 3) := by decide +kernel
theorem dX9_gcd_43 : decode cX9_gcd 43 = .ok (.lload 4, 2) := by decide +kernel
theorem dX9_gcd_45 : decode cX9_gcd 45 = .ok (.lreturn, 1) := by decide +kernel
end
section
def f_X8_bit (v0 : Int32) (v1 : Int32) : Int32 := ((v0 >>> (v1 &&& 31)) &&& 1)
set_option maxHeartbeats 4000000 in
set_option maxRecDepth 100000 in
theorem c_X8_bit (l : Launch) (E : VE) (v0 : Int32) (v1 : Int32) {r0 : Int32} (hf : f_X8_bit v0 v1 = r0) : MtI l yX8_bit cX8_bit 2 { frames := 0, cells := 0, slots := 0, locals := 0 } E [.int v0, .int v1] [] [] r0 := by
  refine MtI.of (own := RX8) (by decide) rfl (Nat.le_of_ble_eq_true rfl) ?_
  intro p e s m args below meth c A B hr hk w ls hl
  have hx := B.1.1
  have hb := B.1.2.1
  have hown := B.1.2.2.2.1
  have hts := B.1.2.2.2.2
  have hl : lv_has ls 2 [(0, .int v0), (1, .int v1)] := hl
  unfold f_X8_bit at hf
  refine (show ∀ (H : Heap) (locs : List Loc), Wd E A s [] H locs → W p l e ({ frames := 0, cells := 0, slots := 0, locals := 0 } : Room) s m args below meth c H locs 0 0 (MQ below (Qi E A [] r0) args s 0 0 A) (F0 m 0 ls []) from ?_) s.heap [] w
  intro H locs w
  refine lv_iload_n hx hb dX8_bit_0 rfl (lv_at hl 0 rfl) ?_
  refine lv_iload_n hx hb dX8_bit_1 rfl (lv_at hl 1 rfl) ?_
  refine lv_ishr (x := v0) (y := v1) hx hb dX8_bit_2 ?_
  refine lv_iconst (v := 1) hx hb dX8_bit_3 (by decide) ?_
  refine lv_iand (x := (v0 >>> (v1 &&& 31))) (y := 1) hx hb dX8_bit_4 ?_
  have hf : ((v0 >>> (v1 &&& 31)) &&& 1) = r0 := hf
  cases hf
  exact retI B hr hk w dX8_bit_5
def f_X8_within (v0 : Int32) (v1 : Int32) (v2 : Int32) : Int32 := if (v0 < v1 : Prop) then (0) else (if (v2 < v0 : Prop) then (0) else (1))
set_option maxHeartbeats 4000000 in
set_option maxRecDepth 100000 in
theorem c_X8_within (l : Launch) (E : VE) (v0 : Int32) (v1 : Int32) (v2 : Int32) {r0 : Int32} (hf : f_X8_within v0 v1 v2 = r0) : MtZ l yX8_within cX8_within 3 { frames := 0, cells := 0, slots := 0, locals := 0 } E [.int v0, .int v1, .int v2] [] [] r0 := by
  refine MtZ.of (own := RX8) (by decide) rfl (Nat.le_of_ble_eq_true rfl) ?_
  intro p e s m args below meth c A B hr hk w ls hl
  have hx := B.1.1
  have hb := B.1.2.1
  have hown := B.1.2.2.2.1
  have hts := B.1.2.2.2.2
  have hl : lv_has ls 3 [(0, .int v0), (1, .int v1), (2, .int v2)] := hl
  unfold f_X8_within at hf
  refine (show ∀ (H : Heap) (locs : List Loc), Wd E A s [] H locs → W p l e ({ frames := 0, cells := 0, slots := 0, locals := 0 } : Room) s m args below meth c H locs 0 0 (MQ below (Qz E A [] r0) args s 0 0 A) (F0 m 0 ls []) from ?_) s.heap [] w
  intro H locs w
  refine lv_iload_n hx hb dX8_within_0 rfl (lv_at hl 0 rfl) ?_
  refine lv_iload_n hx hb dX8_within_1 rfl (lv_at hl 1 rfl) ?_
  refine lv_icmp_lt (x := v0) (y := v1) (tgt := 14) hx hb dX8_within_2 (by decide) (fun c_1 => ?_) (fun c_1 => ?_)
  · have hf := if_t hf c_1
    refine lv_iconst (v := 0) hx hb dX8_within_14 (by decide) ?_
    have hf : 0 = r0 := hf
    cases hf
    exact retZ B hr hk w rfl dX8_within_15
  · have hf := if_f hf c_1
    refine lv_iload_n hx hb dX8_within_5 rfl (lv_at hl 0 rfl) ?_
    refine lv_iload_n hx hb dX8_within_6 rfl (lv_at hl 2 rfl) ?_
    refine lv_icmp_gt (x := v0) (y := v2) (tgt := 14) hx hb dX8_within_7 (by decide) (fun c_2 => ?_) (fun c_2 => ?_)
    · have hf := if_t hf c_2
      refine lv_iconst (v := 0) hx hb dX8_within_14 (by decide) ?_
      have hf : 0 = r0 := hf
      cases hf
      exact retZ B hr hk w rfl dX8_within_15
    · have hf := if_f hf c_2
      refine lv_iconst (v := 1) hx hb dX8_within_10 (by decide) ?_
      refine lv_goto (tgt := 15) hx hb dX8_within_11 (by decide) ?_
      have hf : 1 = r0 := hf
      cases hf
      exact retZ B hr hk w rfl dX8_within_15
def f_X8_isShare (v0 : Int32) : Int32 := bindv (f_X8_within v0 0 1000) (fun r_1 => r_1)
set_option maxHeartbeats 4000000 in
set_option maxRecDepth 100000 in
theorem c_X8_isShare (l : Launch) (E : VE) (v0 : Int32) {r0 : Int32} (hf : f_X8_isShare v0 = r0) : MtZ l yX8_isShare cX8_isShare 1 { frames := 1, cells := 0, slots := 0, locals := 22 } E [.int v0] [] [] r0 := by
  refine MtZ.of (own := RX8) (by decide) rfl (Nat.le_of_ble_eq_true rfl) ?_
  intro p e s m args below meth c A B hr hk w ls hl
  have hx := B.1.1
  have hb := B.1.2.1
  have hown := B.1.2.2.2.1
  have hts := B.1.2.2.2.2
  have hl : lv_has ls 1 [(0, .int v0)] := hl
  unfold f_X8_isShare at hf
  refine (show ∀ (H : Heap) (locs : List Loc), Wd E A s [] H locs → W p l e ({ frames := 1, cells := 0, slots := 0, locals := 22 } : Room) s m args below meth c H locs 0 0 (MQ below (Qz E A [] r0) args s 0 0 A) (F0 m 0 ls []) from ?_) s.heap [] w
  intro H locs w
  refine lv_iload_n hx hb dX8_isShare_0 rfl (lv_at hl 0 rfl) ?_
  refine lv_iconst (v := 0) hx hb dX8_isShare_1 (by decide) ?_
  refine lv_sipush (v := 1000) hx hb dX8_isShare_2 (by decide) ?_
  obtain ⟨r_1, er_2⟩ : ∃ y, f_X8_within v0 0 1000 = y := ⟨_, rfl⟩
  have hf := bindv_eq hf r_1 er_2.symm
  refine callSZ (As := [.int v0, .int 0, .int 1000]) (rest := []) B w (c_X8_within l _ v0 0 1000 er_2) (gS kt2_72 kt2_73 kt1_1 kt2_74) hdS_X8_within rfl rfl ⟨Nat.le_of_ble_eq_true rfl, Nat.le_of_ble_eq_true rfl⟩ rfl hl.1 rfl (Nat.le_of_ble_eq_true rfl) dX8_isShare_5 (fun H locs w hzr_1 => ?_)
  have hf : r_1 = r0 := hf
  cases hf
  exact retZ B hr hk w hzr_1 dX8_isShare_8
def f_X8_hangs_2   : Nat → (Int32) → (Int32) → (Int32) → (Int32) → Option (Int32)
  | 0, _, _, _, _ => none
  | n + 1, v0, v1, v2, v3 => if (v1 ≤ v3 : Prop) then (some 0) else (bindv (f_X8_bit v0 v3) (fun r_2 => bindv (f_X8_bit v0 (v3 ^^^ v2)) (fun r_4 => if (r_2 = r_4 : Prop) then (bindv (v3 + 1 : Int32) (fun x_7 => (f_X8_hangs_2 n) v0 v1 v2 x_7)) else (some 1))))
def f_X8_hangs (v0 : Int32) (v1 : Int32) (v2 : Int32) : Option (Int32) := f_X8_hangs_2  5000 v0 v1 v2 0
set_option maxHeartbeats 4000000 in
set_option maxRecDepth 100000 in
theorem c_X8_hangs (l : Launch) (E : VE) (v0 : Int32) (v1 : Int32) (v2 : Int32) {r0 : Int32} (hf : f_X8_hangs v0 v1 v2 = some r0) : MtI l yX8_hangs cX8_hangs 4 { frames := 1, cells := 0, slots := 0, locals := 21 } E [.int v0, .int v1, .int v2] [] [] r0 := by
  refine MtI.of (own := RX8) (by decide) rfl (Nat.le_of_ble_eq_true rfl) ?_
  intro p e s m args below meth c A B hr hk w ls hl
  have hx := B.1.1
  have hb := B.1.2.1
  have hown := B.1.2.2.2.1
  have hts := B.1.2.2.2.2
  have hl : lv_has ls 4 [(0, .int v0), (1, .int v1), (2, .int v2)] := hl
  have J2 : ∀ (n : Nat) (v0 : Int32) (v1 : Int32) (v2 : Int32) (v3 : Int32) (H : Heap) (locs : List Loc) (ls : Array Slot), Wd E A s [] H locs → lv_has ls 4 [(0, .int v0), (1, .int v1), (2, .int v2), (3, .int v3)] → f_X8_hangs_2  n v0 v1 v2 v3 = some r0 → W p l e ({ frames := 1, cells := 0, slots := 0, locals := 21 } : Room) s m args below meth c H locs 0 0 (MQ below (Qi E A [] r0) args s 0 0 A) (F0 m 2 ls []) := by
    intro  n
    induction n with
    | zero =>
      intro v0 v1 v2 v3 H locs ls w hl hf
      cases hf
    | succ n ih =>
      intro v0 v1 v2 v3 H locs ls w hl hf
      rw [f_X8_hangs_2] at hf
      refine lv_iload_n hx hb dX8_hangs_2 rfl (lv_at hl 3 rfl) ?_
      refine lv_iload_n hx hb dX8_hangs_3 rfl (lv_at hl 1 rfl) ?_
      refine lv_icmp_ge (x := v3) (y := v1) (tgt := 30) hx hb dX8_hangs_4 (by decide) (fun c_1 => ?_) (fun c_1 => ?_)
      · have hf := if_t hf c_1
        refine lv_iconst (v := 0) hx hb dX8_hangs_30 (by decide) ?_
        have hf : some 0 = some r0 := hf
        cases hf
        exact retI B hr hk w dX8_hangs_31
      · have hf := if_f hf c_1
        refine lv_iload_n hx hb dX8_hangs_7 rfl (lv_at hl 0 rfl) ?_
        refine lv_iload_n hx hb dX8_hangs_8 rfl (lv_at hl 3 rfl) ?_
        obtain ⟨r_2, er_3⟩ : ∃ y, f_X8_bit v0 v3 = y := ⟨_, rfl⟩
        have hf := bindv_eq hf r_2 er_3.symm
        refine callSI (As := [.int v0, .int v3]) (rest := []) B w (c_X8_bit l _ v0 v3 er_3) (gS kt2_221 kt2_165 kt1_1 kt2_166) hdS_X8_bit rfl rfl ⟨Nat.le_of_ble_eq_true rfl, Nat.le_of_ble_eq_true rfl⟩ rfl hl.1 rfl (Nat.le_of_ble_eq_true rfl) dX8_hangs_9 (fun H locs w => ?_)
        refine lv_iload_n hx hb dX8_hangs_12 rfl (lv_at hl 0 rfl) ?_
        refine lv_iload_n hx hb dX8_hangs_13 rfl (lv_at hl 3 rfl) ?_
        refine lv_iload_n hx hb dX8_hangs_14 rfl (lv_at hl 2 rfl) ?_
        refine lv_ixor (x := v3) (y := v2) hx hb dX8_hangs_15 ?_
        obtain ⟨r_4, er_5⟩ : ∃ y, f_X8_bit v0 (v3 ^^^ v2) = y := ⟨_, rfl⟩
        have hf := bindv_eq hf r_4 er_5.symm
        refine callSI (As := [.int v0, .int (v3 ^^^ v2)]) (rest := [.int r_2]) B w (c_X8_bit l _ v0 (v3 ^^^ v2) er_5) (gS kt2_221 kt2_165 kt1_1 kt2_166) hdS_X8_bit rfl rfl ⟨Nat.le_of_ble_eq_true rfl, Nat.le_of_ble_eq_true rfl⟩ rfl hl.1 rfl (Nat.le_of_ble_eq_true rfl) dX8_hangs_16 (fun H locs w => ?_)
        refine lv_icmp_eq (x := r_2) (y := r_4) (tgt := 24) hx hb dX8_hangs_19 (by decide) (fun c_6 => ?_) (fun c_6 => ?_)
        · have hf := if_t hf c_6
          obtain ⟨x_7, ex_7⟩ : ∃ y : Int32, y = v3 + 1 := ⟨_, rfl⟩
          have hf := bindv_eq hf x_7 ex_7
          refine lv_iinc (v := x_7) (lv' := [(3, .int x_7), (0, .int v0), (1, .int v1), (2, .int v2)]) hx hb dX8_hangs_24 hl (k := 3) rfl (by rw [ex_7]; rfl) (by decide) rfl (fun ls hl => ?_)
          refine lv_goto (tgt := 2) hx hb dX8_hangs_27 (by decide) ?_
          exact ih v0 v1 v2 x_7 H locs ls w (lv_sub hl [1, 2, 3, 0] rfl) hf
        · have hf := if_f hf c_6
          refine lv_iconst (v := 1) hx hb dX8_hangs_22 (by decide) ?_
          have hf : some 1 = some r0 := hf
          cases hf
          exact retI B hr hk w dX8_hangs_23
  unfold f_X8_hangs at hf
  refine (show ∀ (H : Heap) (locs : List Loc), Wd E A s [] H locs → W p l e ({ frames := 1, cells := 0, slots := 0, locals := 21 } : Room) s m args below meth c H locs 0 0 (MQ below (Qi E A [] r0) args s 0 0 A) (F0 m 0 ls []) from ?_) s.heap [] w
  intro H locs w
  refine lv_iconst (v := 0) hx hb dX8_hangs_0 (by decide) ?_
  refine lv_istore_n (lv' := [(3, .int 0), (0, .int v0), (1, .int v1), (2, .int v2)]) hx hb dX8_hangs_1 rfl hl (by decide) rfl (fun ls hl => ?_)
  exact J2  5000 v0 v1 v2 0 H locs ls w (lv_sub hl [1, 2, 3, 0] rfl) hf
def f_X1_next (fi : Nat → Int32) (ar : Nat → Nat → Int32) (v1 : Int32) : Int32 := bindv ((Int32.toInt64 (1000 - v1)) : Int64) (fun x_1 => bindv (((((x_1 * x_1) * (Int32.toInt64 (ar 7 (Int32.toNatClampNeg 0)))) + ((x_1 * (Int32.toInt64 v1)) * (Int32.toInt64 ((ar 7 (Int32.toNatClampNeg 1)) + (ar 7 (Int32.toNatClampNeg 2)))))) + (((Int32.toInt64 v1) * (Int32.toInt64 v1)) * (Int32.toInt64 (ar 7 (Int32.toNatClampNeg 3))))) : Int64) (fun x_2 => bindv ((Int64.toInt32 (x_2 / 10000000)) : Int32) (fun x_3 => ((((100 - (fi 26)) * x_3) + (((fi 26) * 1000) * (fi 27))) / 100))))
set_option maxHeartbeats 4000000 in
set_option maxRecDepth 100000 in
theorem c_X1_next (l : Launch) (D : va_G) (ca : Nat → ClassId) (ak av ad : Nat → Nat) (fi : Nat → Int32) (fl : Nat → Int64) (ar : Nat → Nat → Int32) (v1 : Int32) {r0 : Int32} (hf : f_X1_next fi ar v1 = r0) : MtI l yX1_next cX1_next 7 { frames := 0, cells := 0, slots := 0, locals := 0 } (EC D ca ak av) [.ref (ad 5), .int v1] (wC ad ca fi fl ar) (wC ad ca fi fl ar) r0 := by
  refine MtI.of (own := RX1) (by decide) rfl (Nat.le_of_ble_eq_true rfl) ?_
  intro p e s m args below meth c A B hr hk w ls hl
  have hx := B.1.1
  have hb := B.1.2.1
  have hown := B.1.2.2.2.1
  have hts := B.1.2.2.2.2
  have hl : lv_has ls 7 [(0, .ref (ad 5)), (1, .int v1)] := hl
  unfold f_X1_next at hf
  refine (show ∀ (H : Heap) (locs : List Loc), Wd (EC D ca ak av) A s (wC ad ca fi fl ar) H locs → W p l e ({ frames := 0, cells := 0, slots := 0, locals := 0 } : Room) s m args below meth c H locs 0 0 (MQ below (Qi (EC D ca ak av) A (wC ad ca fi fl ar) r0) args s 0 0 A) (F0 m 0 ls []) from ?_) s.heap [] w
  intro H locs w
  refine lv_sipush (v := 1000) hx hb dX1_next_0 (by decide) ?_
  refine lv_iload_n hx hb dX1_next_3 rfl (lv_at hl 1 rfl) ?_
  refine lv_isub (x := 1000) (y := v1) hx hb dX1_next_4 ?_
  refine lv_i2l hx hb dX1_next_5 rfl ?_
  refine lv_topl (fun x_1 ex_1 => ?_)
  have hf := bindv_eq hf x_1 ex_1
  refine lv_lstore_n (lv' := [(2, .long x_1), (0, .ref (ad 5)), (1, .int v1)]) hx hb dX1_next_6 rfl hl (by decide) rfl (fun ls hl => ?_)
  refine lv_lload_n hx hb dX1_next_7 rfl (lv_at hl 0 rfl) ?_
  refine lv_lload_n hx hb dX1_next_8 rfl (lv_at hl 0 rfl) ?_
  refine lv_lmul (x := x_1) (y := x_1) hx hb dX1_next_9 ?_
  refine lv_aload_n hx hb dX1_next_10 rfl (lv_at hl 1 rfl) ?_
  refine gfC_5_1 B w kt1_126 dX1_next_11 ?_
  refine lv_iconst (v := 0) hx hb dX1_next_14 (by decide) ?_
  refine alC_7 B w (vp_in_iff.mpr (by decide)) dX1_next_15 ?_
  refine lv_i2l hx hb dX1_next_16 rfl ?_
  refine lv_lmul (x := (x_1 * x_1)) (y := (Int32.toInt64 (ar 7 (Int32.toNatClampNeg 0)))) hx hb dX1_next_17 ?_
  refine lv_lload_n hx hb dX1_next_18 rfl (lv_at hl 0 rfl) ?_
  refine lv_iload_n hx hb dX1_next_19 rfl (lv_at hl 2 rfl) ?_
  refine lv_i2l hx hb dX1_next_20 rfl ?_
  refine lv_lmul (x := x_1) (y := (Int32.toInt64 v1)) hx hb dX1_next_21 ?_
  refine lv_aload_n hx hb dX1_next_22 rfl (lv_at hl 1 rfl) ?_
  refine gfC_5_1 B w kt1_126 dX1_next_23 ?_
  refine lv_iconst (v := 1) hx hb dX1_next_26 (by decide) ?_
  refine alC_7 B w (vp_in_iff.mpr (by decide)) dX1_next_27 ?_
  refine lv_aload_n hx hb dX1_next_28 rfl (lv_at hl 1 rfl) ?_
  refine gfC_5_1 B w kt1_126 dX1_next_29 ?_
  refine lv_iconst (v := 2) hx hb dX1_next_32 (by decide) ?_
  refine alC_7 B w (vp_in_iff.mpr (by decide)) dX1_next_33 ?_
  refine lv_iadd (x := (ar 7 (Int32.toNatClampNeg 1))) (y := (ar 7 (Int32.toNatClampNeg 2))) hx hb dX1_next_34 ?_
  refine lv_i2l hx hb dX1_next_35 rfl ?_
  refine lv_lmul (x := (x_1 * (Int32.toInt64 v1))) (y := (Int32.toInt64 ((ar 7 (Int32.toNatClampNeg 1)) + (ar 7 (Int32.toNatClampNeg 2))))) hx hb dX1_next_36 ?_
  refine lv_ladd (x := ((x_1 * x_1) * (Int32.toInt64 (ar 7 (Int32.toNatClampNeg 0))))) (y := ((x_1 * (Int32.toInt64 v1)) * (Int32.toInt64 ((ar 7 (Int32.toNatClampNeg 1)) + (ar 7 (Int32.toNatClampNeg 2)))))) hx hb dX1_next_37 ?_
  refine lv_iload_n hx hb dX1_next_38 rfl (lv_at hl 2 rfl) ?_
  refine lv_i2l hx hb dX1_next_39 rfl ?_
  refine lv_iload_n hx hb dX1_next_40 rfl (lv_at hl 2 rfl) ?_
  refine lv_i2l hx hb dX1_next_41 rfl ?_
  refine lv_lmul (x := (Int32.toInt64 v1)) (y := (Int32.toInt64 v1)) hx hb dX1_next_42 ?_
  refine lv_aload_n hx hb dX1_next_43 rfl (lv_at hl 1 rfl) ?_
  refine gfC_5_1 B w kt1_126 dX1_next_44 ?_
  refine lv_iconst (v := 3) hx hb dX1_next_47 (by decide) ?_
  refine alC_7 B w (vp_in_iff.mpr (by decide)) dX1_next_48 ?_
  refine lv_i2l hx hb dX1_next_49 rfl ?_
  refine lv_lmul (x := ((Int32.toInt64 v1) * (Int32.toInt64 v1))) (y := (Int32.toInt64 (ar 7 (Int32.toNatClampNeg 3)))) hx hb dX1_next_50 ?_
  refine lv_ladd (x := (((x_1 * x_1) * (Int32.toInt64 (ar 7 (Int32.toNatClampNeg 0)))) + ((x_1 * (Int32.toInt64 v1)) * (Int32.toInt64 ((ar 7 (Int32.toNatClampNeg 1)) + (ar 7 (Int32.toNatClampNeg 2))))))) (y := (((Int32.toInt64 v1) * (Int32.toInt64 v1)) * (Int32.toInt64 (ar 7 (Int32.toNatClampNeg 3))))) hx hb dX1_next_51 ?_
  refine lv_topl (fun x_2 ex_2 => ?_)
  have hf := bindv_eq hf x_2 ex_2
  refine lv_lstore (lv' := [(4, .long x_2), (2, .long x_1), (0, .ref (ad 5)), (1, .int v1)]) hx hb dX1_next_52 hl (by decide) rfl (fun ls hl => ?_)
  refine lv_lload hx hb dX1_next_54 (lv_at hl 0 rfl) ?_
  refine lv_ldc2 (own := RX1) (v := 10000000) hx hb hown (hts _ kt3_3) dX1_next_56 ?_
  refine lv_ldiv (x := x_2) (y := 10000000) hx hb dX1_next_59 (by decide) ?_
  refine lv_l2i hx hb dX1_next_60 rfl ?_
  refine lv_topi (fun x_3 ex_3 => ?_)
  have hf := bindv_eq hf x_3 ex_3
  refine lv_istore (lv' := [(6, .int x_3), (4, .long x_2), (2, .long x_1), (0, .ref (ad 5)), (1, .int v1)]) hx hb dX1_next_61 hl (by decide) rfl (fun ls hl => ?_)
  refine lv_bipush (v := 100) hx hb dX1_next_63 (by decide) ?_
  refine lv_aload_n hx hb dX1_next_65 rfl (lv_at hl 3 rfl) ?_
  refine gfC_5_6 B w kt1_136 dX1_next_66 ?_
  refine lv_isub (x := 100) (y := (fi 26)) hx hb dX1_next_69 ?_
  refine lv_iload hx hb dX1_next_70 (lv_at hl 0 rfl) ?_
  refine lv_imul (x := (100 - (fi 26))) (y := x_3) hx hb dX1_next_72 ?_
  refine lv_aload_n hx hb dX1_next_73 rfl (lv_at hl 3 rfl) ?_
  refine gfC_5_6 B w kt1_136 dX1_next_74 ?_
  refine lv_sipush (v := 1000) hx hb dX1_next_77 (by decide) ?_
  refine lv_imul (x := (fi 26)) (y := 1000) hx hb dX1_next_80 ?_
  refine lv_aload_n hx hb dX1_next_81 rfl (lv_at hl 3 rfl) ?_
  refine gfC_5_7 B w kt1_137 dX1_next_82 ?_
  refine lv_imul (x := ((fi 26) * 1000)) (y := (fi 27)) hx hb dX1_next_85 ?_
  refine lv_iadd (x := ((100 - (fi 26)) * x_3)) (y := (((fi 26) * 1000) * (fi 27))) hx hb dX1_next_86 ?_
  refine lv_bipush (v := 100) hx hb dX1_next_87 (by decide) ?_
  refine lv_idiv (x := (((100 - (fi 26)) * x_3) + (((fi 26) * 1000) * (fi 27)))) (y := 100) hx hb dX1_next_89 (by decide) ?_
  have hf : ((((100 - (fi 26)) * x_3) + (((fi 26) * 1000) * (fi 27))) / 100) = r0 := hf
  cases hf
  exact retI B hr hk w dX1_next_90
def f_X9_gcd_18   : Nat → (Int64) → (Int64) → Option (Int64)
  | 0, _, _ => none
  | n + 1, v4, v6 => if ((lg_cmp v6 0) = 0 : Prop) then (some v4) else (dvL v6 (bindv ((v4 - v4 / v6 * v6) : Int64) (fun x_3 => (f_X9_gcd_18 n) v6 x_3)))
def f_X9_gcd_13   (v2 : Int64) (t0 : Int64) : Option (Int64) := f_X9_gcd_18  5000 t0 v2
def f_X9_gcd (v0 : Int64) (v2 : Int64) : Option (Int64) := if (0 ≤ (lg_cmp v0 0) : Prop) then (f_X9_gcd_13  v2 v0) else (f_X9_gcd_13  v2 (0 - v0))
set_option maxHeartbeats 4000000 in
set_option maxRecDepth 100000 in
theorem c_X9_gcd (l : Launch) (E : VE) (v0 : Int64) (v2 : Int64) {r0 : Int64} (hf : f_X9_gcd v0 v2 = some r0) : MtL l yX9_gcd cX9_gcd 10 { frames := 0, cells := 0, slots := 0, locals := 0 } E [.long v0, .long v2] [] [] r0 := by
  refine MtL.of (own := RX9) (by decide) rfl (Nat.le_of_ble_eq_true rfl) ?_
  intro p e s m args below meth c A B hr hk w ls hl
  have hx := B.1.1
  have hb := B.1.2.1
  have hown := B.1.2.2.2.1
  have hts := B.1.2.2.2.2
  have hl : lv_has ls 10 [(0, .long v0), (2, .long v2)] := hl
  have J18 : ∀ (n : Nat) (v4 : Int64) (v6 : Int64) (H : Heap) (locs : List Loc) (ls : Array Slot), Wd E A s [] H locs → lv_has ls 10 [(4, .long v4), (6, .long v6)] → f_X9_gcd_18  n v4 v6 = some r0 → W p l e ({ frames := 0, cells := 0, slots := 0, locals := 0 } : Room) s m args below meth c H locs 0 0 (MQ below (Ql E A [] r0) args s 0 0 A) (F0 m 18 ls []) := by
    intro  n
    induction n with
    | zero =>
      intro v4 v6 H locs ls w hl hf
      cases hf
    | succ n ih =>
      intro v4 v6 H locs ls w hl hf
      rw [f_X9_gcd_18] at hf
      refine lv_lload hx hb dX9_gcd_18 (lv_at hl 1 rfl) ?_
      refine lv_lconst (v := 0) hx hb dX9_gcd_20 (by decide) ?_
      refine W.lcmp hx hb dX9_gcd_21 ?_
      refine lv_if_eq (x := (lg_cmp v6 0)) (tgt := 43) hx hb dX9_gcd_22 (by decide) (fun c_1 => ?_) (fun c_1 => ?_)
      · have hf := if_t hf c_1
        refine lv_lload hx hb dX9_gcd_43 (lv_at hl 0 rfl) ?_
        have hf : some v4 = some r0 := hf
        cases hf
        exact retL B hr hk w dX9_gcd_45
      · have hf := if_f hf c_1
        refine lv_lload hx hb dX9_gcd_25 (lv_at hl 0 rfl) ?_
        refine lv_lload hx hb dX9_gcd_27 (lv_at hl 1 rfl) ?_
        obtain ⟨hd_2, hf⟩ := dvL_eq hf
        refine lv_lrem (x := v4) (y := v6) hx hb dX9_gcd_29 hd_2 ?_
        refine lv_topl (fun x_3 ex_3 => ?_)
        have hf := bindv_eq hf x_3 ex_3
        refine lv_lstore (lv' := [(8, .long x_3), (4, .long v4), (6, .long v6)]) hx hb dX9_gcd_30 hl (by decide) rfl (fun ls hl => ?_)
        refine lv_lload hx hb dX9_gcd_32 (lv_at hl 2 rfl) ?_
        refine lv_lstore (lv' := [(4, .long v6), (8, .long x_3), (6, .long v6)]) hx hb dX9_gcd_34 hl (by decide) rfl (fun ls hl => ?_)
        refine lv_lload hx hb dX9_gcd_36 (lv_at hl 1 rfl) ?_
        refine lv_lstore (lv' := [(6, .long x_3), (4, .long v6), (8, .long x_3)]) hx hb dX9_gcd_38 hl (by decide) rfl (fun ls hl => ?_)
        refine lv_goto (tgt := 18) hx hb dX9_gcd_40 (by decide) ?_
        exact ih v6 x_3 H locs ls w (lv_sub hl [1, 0] rfl) hf
  have J13 : ∀ (v2 : Int64) (t0 : Int64) (H : Heap) (locs : List Loc) (ls : Array Slot), Wd E A s [] H locs → lv_has ls 10 [(2, .long v2)] → f_X9_gcd_13  v2 t0 = some r0 → W p l e ({ frames := 0, cells := 0, slots := 0, locals := 0 } : Room) s m args below meth c H locs 0 0 (MQ below (Ql E A [] r0) args s 0 0 A) (F0 m 13 ls [.long t0]) := by
    intro  v2 t0 H locs ls w hl hf
    unfold f_X9_gcd_13 at hf
    refine lv_lstore (lv' := [(4, .long t0), (2, .long v2)]) hx hb dX9_gcd_13 hl (by decide) rfl (fun ls hl => ?_)
    refine lv_lload_n hx hb dX9_gcd_15 rfl (lv_at hl 1 rfl) ?_
    refine lv_lstore (lv' := [(6, .long v2), (4, .long t0), (2, .long v2)]) hx hb dX9_gcd_16 hl (by decide) rfl (fun ls hl => ?_)
    exact J18  5000 t0 v2 H locs ls w (lv_sub hl [1, 0] rfl) hf
  unfold f_X9_gcd at hf
  refine (show ∀ (H : Heap) (locs : List Loc), Wd E A s [] H locs → W p l e ({ frames := 0, cells := 0, slots := 0, locals := 0 } : Room) s m args below meth c H locs 0 0 (MQ below (Ql E A [] r0) args s 0 0 A) (F0 m 0 ls []) from ?_) s.heap [] w
  intro H locs w
  refine lv_lload_n hx hb dX9_gcd_0 rfl (lv_at hl 0 rfl) ?_
  refine lv_lconst (v := 0) hx hb dX9_gcd_1 (by decide) ?_
  refine W.lcmp hx hb dX9_gcd_2 ?_
  refine lv_if_ge (x := (lg_cmp v0 0)) (tgt := 12) hx hb dX9_gcd_3 (by decide) (fun c_4 => ?_) (fun c_4 => ?_)
  · have hf := if_t hf c_4
    refine lv_lload_n hx hb dX9_gcd_12 rfl (lv_at hl 0 rfl) ?_
    exact J13  v2 v0 H locs ls w (lv_sub hl [1] rfl) hf
  · have hf := if_f hf c_4
    refine lv_lconst (v := 0) hx hb dX9_gcd_6 (by decide) ?_
    refine lv_lload_n hx hb dX9_gcd_7 rfl (lv_at hl 0 rfl) ?_
    refine lv_lsub (x := 0) (y := v0) hx hb dX9_gcd_8 ?_
    refine lv_goto (tgt := 13) hx hb dX9_gcd_9 (by decide) ?_
    exact J13  v2 (0 - v0) H locs ls w (lv_sub hl [1] rfl) hf
def f_X9_shareOf (v0 : Int32) (v1 : Int32) : Int32 := if (v0 = 1 : Prop) then (v1) else ((1000 - v1))
set_option maxHeartbeats 4000000 in
set_option maxRecDepth 100000 in
theorem c_X9_shareOf (l : Launch) (E : VE) (v0 : Int32) (v1 : Int32) {r0 : Int32} (hf : f_X9_shareOf v0 v1 = r0) : MtI l yX9_shareOf cX9_shareOf 2 { frames := 0, cells := 0, slots := 0, locals := 0 } E [.int v0, .int v1] [] [] r0 := by
  refine MtI.of (own := RX9) (by decide) rfl (Nat.le_of_ble_eq_true rfl) ?_
  intro p e s m args below meth c A B hr hk w ls hl
  have hx := B.1.1
  have hb := B.1.2.1
  have hown := B.1.2.2.2.1
  have hts := B.1.2.2.2.2
  have hl : lv_has ls 2 [(0, .int v0), (1, .int v1)] := hl
  unfold f_X9_shareOf at hf
  refine (show ∀ (H : Heap) (locs : List Loc), Wd E A s [] H locs → W p l e ({ frames := 0, cells := 0, slots := 0, locals := 0 } : Room) s m args below meth c H locs 0 0 (MQ below (Qi E A [] r0) args s 0 0 A) (F0 m 0 ls []) from ?_) s.heap [] w
  intro H locs w
  refine lv_iload_n hx hb dX9_shareOf_0 rfl (lv_at hl 0 rfl) ?_
  refine lv_iconst (v := 1) hx hb dX9_shareOf_1 (by decide) ?_
  refine lv_icmp_ne (x := v0) (y := 1) (tgt := 9) hx hb dX9_shareOf_2 (by decide) (fun c_1 => ?_) (fun c_1 => ?_)
  · have hf := if_f hf c_1
    refine lv_sipush (v := 1000) hx hb dX9_shareOf_9 (by decide) ?_
    refine lv_iload_n hx hb dX9_shareOf_12 rfl (lv_at hl 1 rfl) ?_
    refine lv_isub (x := 1000) (y := v1) hx hb dX9_shareOf_13 ?_
    have hf : (1000 - v1) = r0 := hf
    cases hf
    exact retI B hr hk w dX9_shareOf_14
  · have hf := if_t hf c_1
    refine lv_iload_n hx hb dX9_shareOf_5 rfl (lv_at hl 1 rfl) ?_
    refine lv_goto (tgt := 14) hx hb dX9_shareOf_6 (by decide) ?_
    have hf : v1 = r0 := hf
    cases hf
    exact retI B hr hk w dX9_shareOf_14
def f_X9_means (v0 : Int32) (v1 : Int32) (v2 : Int32) : Int32 := ((v0 >>> (((2 * v1) + v2) &&& 31)) &&& 1)
set_option maxHeartbeats 4000000 in
set_option maxRecDepth 100000 in
theorem c_X9_means (l : Launch) (E : VE) (v0 : Int32) (v1 : Int32) (v2 : Int32) {r0 : Int32} (hf : f_X9_means v0 v1 v2 = r0) : MtI l yX9_means cX9_means 3 { frames := 0, cells := 0, slots := 0, locals := 0 } E [.int v0, .int v1, .int v2] [] [] r0 := by
  refine MtI.of (own := RX9) (by decide) rfl (Nat.le_of_ble_eq_true rfl) ?_
  intro p e s m args below meth c A B hr hk w ls hl
  have hx := B.1.1
  have hb := B.1.2.1
  have hown := B.1.2.2.2.1
  have hts := B.1.2.2.2.2
  have hl : lv_has ls 3 [(0, .int v0), (1, .int v1), (2, .int v2)] := hl
  unfold f_X9_means at hf
  refine (show ∀ (H : Heap) (locs : List Loc), Wd E A s [] H locs → W p l e ({ frames := 0, cells := 0, slots := 0, locals := 0 } : Room) s m args below meth c H locs 0 0 (MQ below (Qi E A [] r0) args s 0 0 A) (F0 m 0 ls []) from ?_) s.heap [] w
  intro H locs w
  refine lv_iload_n hx hb dX9_means_0 rfl (lv_at hl 0 rfl) ?_
  refine lv_iconst (v := 2) hx hb dX9_means_1 (by decide) ?_
  refine lv_iload_n hx hb dX9_means_2 rfl (lv_at hl 1 rfl) ?_
  refine lv_imul (x := 2) (y := v1) hx hb dX9_means_3 ?_
  refine lv_iload_n hx hb dX9_means_4 rfl (lv_at hl 2 rfl) ?_
  refine lv_iadd (x := (2 * v1)) (y := v2) hx hb dX9_means_5 ?_
  refine lv_ishr (x := v0) (y := ((2 * v1) + v2)) hx hb dX9_means_6 ?_
  refine lv_iconst (v := 1) hx hb dX9_means_7 (by decide) ?_
  refine lv_iand (x := (v0 >>> (((2 * v1) + v2) &&& 31))) (y := 1) hx hb dX9_means_8 ?_
  have hf : ((v0 >>> (((2 * v1) + v2) &&& 31)) &&& 1) = r0 := hf
  cases hf
  exact retI B hr hk w dX9_means_9
def f_X9_calls (v0 : Int32) (v1 : Int32) (v2 : Int32) (v3 : Int32) : Int32 := ((v0 >>> ((((4 * v1) + (2 * v2)) + v3) &&& 31)) &&& 1)
set_option maxHeartbeats 4000000 in
set_option maxRecDepth 100000 in
theorem c_X9_calls (l : Launch) (E : VE) (v0 : Int32) (v1 : Int32) (v2 : Int32) (v3 : Int32) {r0 : Int32} (hf : f_X9_calls v0 v1 v2 v3 = r0) : MtI l yX9_calls cX9_calls 4 { frames := 0, cells := 0, slots := 0, locals := 0 } E [.int v0, .int v1, .int v2, .int v3] [] [] r0 := by
  refine MtI.of (own := RX9) (by decide) rfl (Nat.le_of_ble_eq_true rfl) ?_
  intro p e s m args below meth c A B hr hk w ls hl
  have hx := B.1.1
  have hb := B.1.2.1
  have hown := B.1.2.2.2.1
  have hts := B.1.2.2.2.2
  have hl : lv_has ls 4 [(0, .int v0), (1, .int v1), (2, .int v2), (3, .int v3)] := hl
  unfold f_X9_calls at hf
  refine (show ∀ (H : Heap) (locs : List Loc), Wd E A s [] H locs → W p l e ({ frames := 0, cells := 0, slots := 0, locals := 0 } : Room) s m args below meth c H locs 0 0 (MQ below (Qi E A [] r0) args s 0 0 A) (F0 m 0 ls []) from ?_) s.heap [] w
  intro H locs w
  refine lv_iload_n hx hb dX9_calls_0 rfl (lv_at hl 0 rfl) ?_
  refine lv_iconst (v := 4) hx hb dX9_calls_1 (by decide) ?_
  refine lv_iload_n hx hb dX9_calls_2 rfl (lv_at hl 1 rfl) ?_
  refine lv_imul (x := 4) (y := v1) hx hb dX9_calls_3 ?_
  refine lv_iconst (v := 2) hx hb dX9_calls_4 (by decide) ?_
  refine lv_iload_n hx hb dX9_calls_5 rfl (lv_at hl 2 rfl) ?_
  refine lv_imul (x := 2) (y := v2) hx hb dX9_calls_6 ?_
  refine lv_iadd (x := (4 * v1)) (y := (2 * v2)) hx hb dX9_calls_7 ?_
  refine lv_iload_n hx hb dX9_calls_8 rfl (lv_at hl 3 rfl) ?_
  refine lv_iadd (x := ((4 * v1) + (2 * v2))) (y := v3) hx hb dX9_calls_9 ?_
  refine lv_ishr (x := v0) (y := (((4 * v1) + (2 * v2)) + v3)) hx hb dX9_calls_10 ?_
  refine lv_iconst (v := 1) hx hb dX9_calls_11 (by decide) ?_
  refine lv_iand (x := (v0 >>> ((((4 * v1) + (2 * v2)) + v3) &&& 31))) (y := 1) hx hb dX9_calls_12 ?_
  have hf : ((v0 >>> ((((4 * v1) + (2 * v2)) + v3) &&& 31)) &&& 1) = r0 := hf
  cases hf
  exact retI B hr hk w dX9_calls_13
def f_X9_calledGood_91 (ar : Nat → Nat → Int32) (k32 : Int32 → Int32 → Int32 → Int32 → Int32 → Int32 → Option (Int32)) (v2 : Int32) (v3 : Int32) (v4 : Int32) (v5 : Int32) (v7 : Int32) (t0 : Int32) (t1 : Int32) (t2 : Int32) : Option (Int32) := bindv ((t0 + (t1 * t2)) : Int32) (fun x_1 => bindv (v7 + 1 : Int32) (fun x_2 => k32 v2 v3 v4 v5 x_1 x_2))
def f_X9_calledGood_54 (ar : Nat → Nat → Int32) (k32 : Int32 → Int32 → Int32 → Int32 → Int32 → Int32 → Option (Int32)) (v2 : Int32) (v3 : Int32) (v4 : Int32) (v5 : Int32) (v6 : Int32) (v7 : Int32) (t0 : Int32) : Option (Int32) := bindv (f_X9_calls v2 v3 v4 v7) (fun r_3 => if (r_3 = 1 : Prop) then (f_X9_calledGood_91 ar k32 v2 v3 v4 v5 v7 v6 t0 (100 - (ar 1 (Int32.toNatClampNeg 3)))) else (f_X9_calledGood_91 ar k32 v2 v3 v4 v5 v7 v6 t0 (ar 1 (Int32.toNatClampNeg 3))))
def f_X9_calledGood_32 (ar : Nat → Nat → Int32)  : Nat → (Int32) → (Int32) → (Int32) → (Int32) → (Int32) → (Int32) → Option (Int32)
  | 0, _, _, _, _, _, _ => none
  | n + 1, v2, v3, v4, v5, v6, v7 => if (2 ≤ v7 : Prop) then (some v6) else (if (v7 = 1 : Prop) then (f_X9_calledGood_54 ar (f_X9_calledGood_32 ar n) v2 v3 v4 v5 v6 v7 v5) else (f_X9_calledGood_54 ar (f_X9_calledGood_32 ar n) v2 v3 v4 v5 v6 v7 (100 - v5)))
def f_X9_calledGood_24 (ar : Nat → Nat → Int32)  (v2 : Int32) (v3 : Int32) (v4 : Int32) (t0 : Int32) : Option (Int32) := f_X9_calledGood_32 ar 5000 v2 v3 v4 t0 0 0
def f_X9_calledGood (ar : Nat → Nat → Int32) (v1 : Int32) (v2 : Int32) (v3 : Int32) (v4 : Int32) : Option (Int32) := bindv (f_X9_means v1 v3 v4) (fun r_8 => if (r_8 = 1 : Prop) then (f_X9_calledGood_24 ar v2 v3 v4 (100 - (ar 1 (Int32.toNatClampNeg 2)))) else (f_X9_calledGood_24 ar v2 v3 v4 0))
set_option maxHeartbeats 4000000 in
set_option maxRecDepth 100000 in
theorem c_X9_calledGood (l : Launch) (D : va_G) (ca : Nat → ClassId) (ak av ad : Nat → Nat) (fi : Nat → Int32) (fl : Nat → Int64) (ar : Nat → Nat → Int32) (v1 : Int32) (v2 : Int32) (v3 : Int32) (v4 : Int32) {r0 : Int32} (hf : f_X9_calledGood ar v1 v2 v3 v4 = some r0) : MtI l yX9_calledGood cX9_calledGood 9 { frames := 1, cells := 0, slots := 0, locals := 23 } (EM D ca ak av) [.ref (ad 0), .int v1, .int v2, .int v3, .int v4] (wM ad ca fi fl ar) (wM ad ca fi fl ar) r0 := by
  refine MtI.of (own := RX9) (by decide) rfl (Nat.le_of_ble_eq_true rfl) ?_
  intro p e s m args below meth c A B hr hk w ls hl
  have hx := B.1.1
  have hb := B.1.2.1
  have hown := B.1.2.2.2.1
  have hts := B.1.2.2.2.2
  have hl : lv_has ls 9 [(0, .ref (ad 0)), (1, .int v1), (2, .int v2), (3, .int v3), (4, .int v4)] := hl
  have J91 : ∀ (k32 : Int32 → Int32 → Int32 → Int32 → Int32 → Int32 → Option (Int32)) (hk32 : ∀ (v2 : Int32) (v3 : Int32) (v4 : Int32) (v5 : Int32) (v6 : Int32) (v7 : Int32) (H : Heap) (locs : List Loc) (ls : Array Slot), Wd (EM D ca ak av) A s (wM ad ca fi fl ar) H locs → lv_has ls 9 [(0, .ref (ad 0)), (2, .int v2), (3, .int v3), (4, .int v4), (5, .int v5), (6, .int v6), (7, .int v7)] → k32 v2 v3 v4 v5 v6 v7 = some r0 → W p l e ({ frames := 1, cells := 0, slots := 0, locals := 23 } : Room) s m args below meth c H locs 0 0 (MQ below (Qi (EM D ca ak av) A (wM ad ca fi fl ar) r0) args s 0 0 A) (F0 m 32 ls [])) (v2 : Int32) (v3 : Int32) (v4 : Int32) (v5 : Int32) (v7 : Int32) (t0 : Int32) (t1 : Int32) (t2 : Int32) (H : Heap) (locs : List Loc) (ls : Array Slot), Wd (EM D ca ak av) A s (wM ad ca fi fl ar) H locs → lv_has ls 9 [(0, .ref (ad 0)), (2, .int v2), (3, .int v3), (4, .int v4), (5, .int v5), (7, .int v7)] → f_X9_calledGood_91 ar k32 v2 v3 v4 v5 v7 t0 t1 t2 = some r0 → W p l e ({ frames := 1, cells := 0, slots := 0, locals := 23 } : Room) s m args below meth c H locs 0 0 (MQ below (Qi (EM D ca ak av) A (wM ad ca fi fl ar) r0) args s 0 0 A) (F0 m 91 ls [.int t2, .int t1, .int t0]) := by
    intro k32 hk32 v2 v3 v4 v5 v7 t0 t1 t2 H locs ls w hl hf
    unfold f_X9_calledGood_91 at hf
    refine lv_imul (x := t1) (y := t2) hx hb dX9_calledGood_91 ?_
    refine lv_iadd (x := t0) (y := (t1 * t2)) hx hb dX9_calledGood_92 ?_
    refine lv_topi (fun x_1 ex_1 => ?_)
    have hf := bindv_eq hf x_1 ex_1
    refine lv_istore (lv' := [(6, .int x_1), (0, .ref (ad 0)), (2, .int v2), (3, .int v3), (4, .int v4), (5, .int v5), (7, .int v7)]) hx hb dX9_calledGood_93 hl (by decide) rfl (fun ls hl => ?_)
    obtain ⟨x_2, ex_2⟩ : ∃ y : Int32, y = v7 + 1 := ⟨_, rfl⟩
    have hf := bindv_eq hf x_2 ex_2
    refine lv_iinc (v := x_2) (lv' := [(7, .int x_2), (6, .int x_1), (0, .ref (ad 0)), (2, .int v2), (3, .int v3), (4, .int v4), (5, .int v5)]) hx hb dX9_calledGood_95 hl (k := 6) rfl (by rw [ex_2]; rfl) (by decide) rfl (fun ls hl => ?_)
    refine lv_goto (tgt := 32) hx hb dX9_calledGood_98 (by decide) ?_
    exact hk32 v2 v3 v4 v5 x_1 x_2 H locs ls w (lv_sub hl [2, 3, 4, 5, 6, 1, 0] rfl) hf
  have J54 : ∀ (k32 : Int32 → Int32 → Int32 → Int32 → Int32 → Int32 → Option (Int32)) (hk32 : ∀ (v2 : Int32) (v3 : Int32) (v4 : Int32) (v5 : Int32) (v6 : Int32) (v7 : Int32) (H : Heap) (locs : List Loc) (ls : Array Slot), Wd (EM D ca ak av) A s (wM ad ca fi fl ar) H locs → lv_has ls 9 [(0, .ref (ad 0)), (2, .int v2), (3, .int v3), (4, .int v4), (5, .int v5), (6, .int v6), (7, .int v7)] → k32 v2 v3 v4 v5 v6 v7 = some r0 → W p l e ({ frames := 1, cells := 0, slots := 0, locals := 23 } : Room) s m args below meth c H locs 0 0 (MQ below (Qi (EM D ca ak av) A (wM ad ca fi fl ar) r0) args s 0 0 A) (F0 m 32 ls [])) (v2 : Int32) (v3 : Int32) (v4 : Int32) (v5 : Int32) (v6 : Int32) (v7 : Int32) (t0 : Int32) (H : Heap) (locs : List Loc) (ls : Array Slot), Wd (EM D ca ak av) A s (wM ad ca fi fl ar) H locs → lv_has ls 9 [(0, .ref (ad 0)), (2, .int v2), (3, .int v3), (4, .int v4), (5, .int v5), (6, .int v6), (7, .int v7)] → f_X9_calledGood_54 ar k32 v2 v3 v4 v5 v6 v7 t0 = some r0 → W p l e ({ frames := 1, cells := 0, slots := 0, locals := 23 } : Room) s m args below meth c H locs 0 0 (MQ below (Qi (EM D ca ak av) A (wM ad ca fi fl ar) r0) args s 0 0 A) (F0 m 54 ls [.int t0]) := by
    intro k32 hk32 v2 v3 v4 v5 v6 v7 t0 H locs ls w hl hf
    unfold f_X9_calledGood_54 at hf
    refine lv_istore (lv' := [(8, .int t0), (0, .ref (ad 0)), (2, .int v2), (3, .int v3), (4, .int v4), (5, .int v5), (6, .int v6), (7, .int v7)]) hx hb dX9_calledGood_54 hl (by decide) rfl (fun ls hl => ?_)
    refine lv_iload hx hb dX9_calledGood_56 (lv_at hl 6 rfl) ?_
    refine lv_iload hx hb dX9_calledGood_58 (lv_at hl 0 rfl) ?_
    refine lv_iload_n hx hb dX9_calledGood_60 rfl (lv_at hl 2 rfl) ?_
    refine lv_iload_n hx hb dX9_calledGood_61 rfl (lv_at hl 3 rfl) ?_
    refine lv_iload hx hb dX9_calledGood_62 (lv_at hl 4 rfl) ?_
    refine lv_iload hx hb dX9_calledGood_64 (lv_at hl 7 rfl) ?_
    obtain ⟨r_3, er_4⟩ : ∃ y, f_X9_calls v2 v3 v4 v7 = y := ⟨_, rfl⟩
    have hf := bindv_eq hf r_3 er_4.symm
    refine callSI (As := [.int v2, .int v3, .int v4, .int v7]) (rest := [.int t0, .int v6]) B w (c_X9_calls l _ v2 v3 v4 v7 er_4) (gS kt4_175 kt4_176 kt1_11 kt4_177) hdS_X9_calls rfl rfl ⟨Nat.le_of_ble_eq_true rfl, Nat.le_of_ble_eq_true rfl⟩ rfl hl.1 rfl (Nat.le_of_ble_eq_true rfl) dX9_calledGood_66 (fun H locs w => ?_)
    refine lv_iconst (v := 1) hx hb dX9_calledGood_69 (by decide) ?_
    refine lv_icmp_ne (x := r_3) (y := 1) (tgt := 85) hx hb dX9_calledGood_70 (by decide) (fun c_5 => ?_) (fun c_5 => ?_)
    · have hf := if_f hf c_5
      refine lv_aload_n hx hb dX9_calledGood_85 rfl (lv_at hl 1 rfl) ?_
      refine gfM_0_0 B w kt4_25 dX9_calledGood_86 ?_
      refine lv_iconst (v := 3) hx hb dX9_calledGood_89 (by decide) ?_
      refine alM_1 B w (vp_in_iff.mpr (by decide)) dX9_calledGood_90 ?_
      exact J91 _ hk32 v2 v3 v4 v5 v7 v6 t0 (ar 1 (Int32.toNatClampNeg 3)) H locs ls w (lv_sub hl [1, 2, 3, 4, 5, 7] rfl) hf
    · have hf := if_t hf c_5
      refine lv_bipush (v := 100) hx hb dX9_calledGood_73 (by decide) ?_
      refine lv_aload_n hx hb dX9_calledGood_75 rfl (lv_at hl 1 rfl) ?_
      refine gfM_0_0 B w kt4_25 dX9_calledGood_76 ?_
      refine lv_iconst (v := 3) hx hb dX9_calledGood_79 (by decide) ?_
      refine alM_1 B w (vp_in_iff.mpr (by decide)) dX9_calledGood_80 ?_
      refine lv_isub (x := 100) (y := (ar 1 (Int32.toNatClampNeg 3))) hx hb dX9_calledGood_81 ?_
      refine lv_goto (tgt := 91) hx hb dX9_calledGood_82 (by decide) ?_
      exact J91 _ hk32 v2 v3 v4 v5 v7 v6 t0 (100 - (ar 1 (Int32.toNatClampNeg 3))) H locs ls w (lv_sub hl [1, 2, 3, 4, 5, 7] rfl) hf
  have J32 : ∀ (n : Nat) (v2 : Int32) (v3 : Int32) (v4 : Int32) (v5 : Int32) (v6 : Int32) (v7 : Int32) (H : Heap) (locs : List Loc) (ls : Array Slot), Wd (EM D ca ak av) A s (wM ad ca fi fl ar) H locs → lv_has ls 9 [(0, .ref (ad 0)), (2, .int v2), (3, .int v3), (4, .int v4), (5, .int v5), (6, .int v6), (7, .int v7)] → f_X9_calledGood_32 ar n v2 v3 v4 v5 v6 v7 = some r0 → W p l e ({ frames := 1, cells := 0, slots := 0, locals := 23 } : Room) s m args below meth c H locs 0 0 (MQ below (Qi (EM D ca ak av) A (wM ad ca fi fl ar) r0) args s 0 0 A) (F0 m 32 ls []) := by
    intro  n
    induction n with
    | zero =>
      intro v2 v3 v4 v5 v6 v7 H locs ls w hl hf
      cases hf
    | succ n ih =>
      intro v2 v3 v4 v5 v6 v7 H locs ls w hl hf
      rw [f_X9_calledGood_32] at hf
      refine lv_iload hx hb dX9_calledGood_32 (lv_at hl 6 rfl) ?_
      refine lv_iconst (v := 2) hx hb dX9_calledGood_34 (by decide) ?_
      refine lv_icmp_ge (x := v7) (y := 2) (tgt := 101) hx hb dX9_calledGood_35 (by decide) (fun c_6 => ?_) (fun c_6 => ?_)
      · have hf := if_t hf c_6
        refine lv_iload hx hb dX9_calledGood_101 (lv_at hl 5 rfl) ?_
        have hf : some v6 = some r0 := hf
        cases hf
        exact retI B hr hk w dX9_calledGood_103
      · have hf := if_f hf c_6
        refine lv_iload hx hb dX9_calledGood_38 (lv_at hl 6 rfl) ?_
        refine lv_iconst (v := 1) hx hb dX9_calledGood_40 (by decide) ?_
        refine lv_icmp_ne (x := v7) (y := 1) (tgt := 49) hx hb dX9_calledGood_41 (by decide) (fun c_7 => ?_) (fun c_7 => ?_)
        · have hf := if_f hf c_7
          refine lv_bipush (v := 100) hx hb dX9_calledGood_49 (by decide) ?_
          refine lv_iload hx hb dX9_calledGood_51 (lv_at hl 4 rfl) ?_
          refine lv_isub (x := 100) (y := v5) hx hb dX9_calledGood_53 ?_
          exact J54 _ ih v2 v3 v4 v5 v6 v7 (100 - v5) H locs ls w (lv_sub hl [0, 1, 2, 3, 4, 5, 6] rfl) hf
        · have hf := if_t hf c_7
          refine lv_iload hx hb dX9_calledGood_44 (lv_at hl 4 rfl) ?_
          refine lv_goto (tgt := 54) hx hb dX9_calledGood_46 (by decide) ?_
          exact J54 _ ih v2 v3 v4 v5 v6 v7 v5 H locs ls w (lv_sub hl [0, 1, 2, 3, 4, 5, 6] rfl) hf
  have J24 : ∀ (v2 : Int32) (v3 : Int32) (v4 : Int32) (t0 : Int32) (H : Heap) (locs : List Loc) (ls : Array Slot), Wd (EM D ca ak av) A s (wM ad ca fi fl ar) H locs → lv_has ls 9 [(0, .ref (ad 0)), (2, .int v2), (3, .int v3), (4, .int v4)] → f_X9_calledGood_24 ar v2 v3 v4 t0 = some r0 → W p l e ({ frames := 1, cells := 0, slots := 0, locals := 23 } : Room) s m args below meth c H locs 0 0 (MQ below (Qi (EM D ca ak av) A (wM ad ca fi fl ar) r0) args s 0 0 A) (F0 m 24 ls [.int t0]) := by
    intro  v2 v3 v4 t0 H locs ls w hl hf
    unfold f_X9_calledGood_24 at hf
    refine lv_istore (lv' := [(5, .int t0), (0, .ref (ad 0)), (2, .int v2), (3, .int v3), (4, .int v4)]) hx hb dX9_calledGood_24 hl (by decide) rfl (fun ls hl => ?_)
    refine lv_iconst (v := 0) hx hb dX9_calledGood_26 (by decide) ?_
    refine lv_istore (lv' := [(6, .int 0), (5, .int t0), (0, .ref (ad 0)), (2, .int v2), (3, .int v3), (4, .int v4)]) hx hb dX9_calledGood_27 hl (by decide) rfl (fun ls hl => ?_)
    refine lv_iconst (v := 0) hx hb dX9_calledGood_29 (by decide) ?_
    refine lv_istore (lv' := [(7, .int 0), (6, .int 0), (5, .int t0), (0, .ref (ad 0)), (2, .int v2), (3, .int v3), (4, .int v4)]) hx hb dX9_calledGood_30 hl (by decide) rfl (fun ls hl => ?_)
    exact J32  5000 v2 v3 v4 t0 0 0 H locs ls w (lv_sub hl [3, 4, 5, 6, 2, 1, 0] rfl) hf
  unfold f_X9_calledGood at hf
  refine (show ∀ (H : Heap) (locs : List Loc), Wd (EM D ca ak av) A s (wM ad ca fi fl ar) H locs → W p l e ({ frames := 1, cells := 0, slots := 0, locals := 23 } : Room) s m args below meth c H locs 0 0 (MQ below (Qi (EM D ca ak av) A (wM ad ca fi fl ar) r0) args s 0 0 A) (F0 m 0 ls []) from ?_) s.heap [] w
  intro H locs w
  refine lv_iload_n hx hb dX9_calledGood_0 rfl (lv_at hl 1 rfl) ?_
  refine lv_iload_n hx hb dX9_calledGood_1 rfl (lv_at hl 3 rfl) ?_
  refine lv_iload hx hb dX9_calledGood_2 (lv_at hl 4 rfl) ?_
  obtain ⟨r_8, er_9⟩ : ∃ y, f_X9_means v1 v3 v4 = y := ⟨_, rfl⟩
  have hf := bindv_eq hf r_8 er_9.symm
  refine callSI (As := [.int v1, .int v3, .int v4]) (rest := []) B w (c_X9_means l _ v1 v3 v4 er_9) (gS kt4_172 kt4_173 kt1_11 kt4_174) hdS_X9_means rfl rfl ⟨Nat.le_of_ble_eq_true rfl, Nat.le_of_ble_eq_true rfl⟩ rfl hl.1 rfl (Nat.le_of_ble_eq_true rfl) dX9_calledGood_4 (fun H locs w => ?_)
  refine lv_iconst (v := 1) hx hb dX9_calledGood_7 (by decide) ?_
  refine lv_icmp_ne (x := r_8) (y := 1) (tgt := 23) hx hb dX9_calledGood_8 (by decide) (fun c_10 => ?_) (fun c_10 => ?_)
  · have hf := if_f hf c_10
    refine lv_iconst (v := 0) hx hb dX9_calledGood_23 (by decide) ?_
    exact J24  v2 v3 v4 0 H locs ls w (lv_sub hl [0, 2, 3, 4] rfl) hf
  · have hf := if_t hf c_10
    refine lv_bipush (v := 100) hx hb dX9_calledGood_11 (by decide) ?_
    refine lv_aload_n hx hb dX9_calledGood_13 rfl (lv_at hl 0 rfl) ?_
    refine gfM_0_0 B w kt4_25 dX9_calledGood_14 ?_
    refine lv_iconst (v := 2) hx hb dX9_calledGood_17 (by decide) ?_
    refine alM_1 B w (vp_in_iff.mpr (by decide)) dX9_calledGood_18 ?_
    refine lv_isub (x := 100) (y := (ar 1 (Int32.toNatClampNeg 2))) hx hb dX9_calledGood_19 ?_
    refine lv_goto (tgt := 24) hx hb dX9_calledGood_20 (by decide) ?_
    exact J24  v2 v3 v4 (100 - (ar 1 (Int32.toNatClampNeg 2))) H locs ls w (lv_sub hl [0, 2, 3, 4] rfl) hf
def f_X9_stepOf_14 (ar : Nat → Nat → Int32) (k5 : Int32 → Int32 → Int64 → Int32 → Option (Int32)) : Nat → (Int32) → (Int32) → (Int64) → (Int32) → (Int32) → Option (Int32)
  | 0, _, _, _, _, _ => none
  | n + 1, v1, v2, v3, v5, v6 => if (2 ≤ v6 : Prop) then (bindv (v5 + 1 : Int32) (fun x_2 => k5 v1 v2 v3 x_2)) else (bindv (f_X9_shareOf v5 v2) (fun r_3 => bindv (f_X9_shareOf v6 v2) (fun r_5 => bind1 (f_X9_calledGood ar (v1 - v1 / 16 * 16) (v1 / 16) v5 v6) (fun r_7 => bindv ((v3 + (((Int32.toInt64 r_3) * (Int32.toInt64 r_5)) * (Int32.toInt64 r_7))) : Int64) (fun x_9 => bindv (v6 + 1 : Int32) (fun x_10 => (f_X9_stepOf_14 ar k5 n) v1 v2 x_9 v5 x_10))))))
def f_X9_stepOf_5 (ar : Nat → Nat → Int32)  : Nat → (Int32) → (Int32) → (Int64) → (Int32) → Option (Int32)
  | 0, _, _, _, _ => none
  | n + 1, v1, v2, v3, v5 => if (2 ≤ v5 : Prop) then (bindv ((Int64.toInt32 (v3 / 10000000)) : Int32) (fun x_12 => some ((((100 - (ar 1 (Int32.toNatClampNeg 4))) * x_12) + (((ar 1 (Int32.toNatClampNeg 4)) * 1000) * (ar 1 (Int32.toNatClampNeg 5)))) / 100))) else (f_X9_stepOf_14 ar (f_X9_stepOf_5 ar n) 5000 v1 v2 v3 v5 0)
def f_X9_stepOf (ar : Nat → Nat → Int32) (v1 : Int32) (v2 : Int32) : Option (Int32) := f_X9_stepOf_5 ar 5000 v1 v2 0 0
set_option maxHeartbeats 4000000 in
set_option maxRecDepth 100000 in
theorem c_X9_stepOf (l : Launch) (D : va_G) (ca : Nat → ClassId) (ak av ad : Nat → Nat) (fi : Nat → Int32) (fl : Nat → Int64) (ar : Nat → Nat → Int32) (v1 : Int32) (v2 : Int32) {r0 : Int32} (hf : f_X9_stepOf ar v1 v2 = some r0) : MtI l yX9_stepOf cX9_stepOf 7 { frames := 2, cells := 0, slots := 0, locals := 51 } (EM D ca ak av) [.ref (ad 0), .int v1, .int v2] (wM ad ca fi fl ar) (wM ad ca fi fl ar) r0 := by
  refine MtI.of (own := RX9) (by decide) rfl (Nat.le_of_ble_eq_true rfl) ?_
  intro p e s m args below meth c A B hr hk w ls hl
  have hx := B.1.1
  have hb := B.1.2.1
  have hown := B.1.2.2.2.1
  have hts := B.1.2.2.2.2
  have hl : lv_has ls 7 [(0, .ref (ad 0)), (1, .int v1), (2, .int v2)] := hl
  have J14 : ∀ (k5 : Int32 → Int32 → Int64 → Int32 → Option (Int32)) (hk5 : ∀ (v1 : Int32) (v2 : Int32) (v3 : Int64) (v5 : Int32) (H : Heap) (locs : List Loc) (ls : Array Slot), Wd (EM D ca ak av) A s (wM ad ca fi fl ar) H locs → lv_has ls 7 [(0, .ref (ad 0)), (1, .int v1), (2, .int v2), (3, .long v3), (5, .int v5)] → k5 v1 v2 v3 v5 = some r0 → W p l e ({ frames := 2, cells := 0, slots := 0, locals := 51 } : Room) s m args below meth c H locs 0 0 (MQ below (Qi (EM D ca ak av) A (wM ad ca fi fl ar) r0) args s 0 0 A) (F0 m 5 ls [])) (n : Nat) (v1 : Int32) (v2 : Int32) (v3 : Int64) (v5 : Int32) (v6 : Int32) (H : Heap) (locs : List Loc) (ls : Array Slot), Wd (EM D ca ak av) A s (wM ad ca fi fl ar) H locs → lv_has ls 7 [(0, .ref (ad 0)), (1, .int v1), (2, .int v2), (3, .long v3), (5, .int v5), (6, .int v6)] → f_X9_stepOf_14 ar k5 n v1 v2 v3 v5 v6 = some r0 → W p l e ({ frames := 2, cells := 0, slots := 0, locals := 51 } : Room) s m args below meth c H locs 0 0 (MQ below (Qi (EM D ca ak av) A (wM ad ca fi fl ar) r0) args s 0 0 A) (F0 m 14 ls []) := by
    intro k5 hk5 n
    induction n with
    | zero =>
      intro v1 v2 v3 v5 v6 H locs ls w hl hf
      cases hf
    | succ n ih =>
      intro v1 v2 v3 v5 v6 H locs ls w hl hf
      rw [f_X9_stepOf_14] at hf
      refine lv_iload hx hb dX9_stepOf_14 (lv_at hl 5 rfl) ?_
      refine lv_iconst (v := 2) hx hb dX9_stepOf_16 (by decide) ?_
      refine lv_icmp_ge (x := v6) (y := 2) (tgt := 62) hx hb dX9_stepOf_17 (by decide) (fun c_1 => ?_) (fun c_1 => ?_)
      · have hf := if_t hf c_1
        obtain ⟨x_2, ex_2⟩ : ∃ y : Int32, y = v5 + 1 := ⟨_, rfl⟩
        have hf := bindv_eq hf x_2 ex_2
        refine lv_iinc (v := x_2) (lv' := [(5, .int x_2), (0, .ref (ad 0)), (1, .int v1), (2, .int v2), (3, .long v3), (6, .int v6)]) hx hb dX9_stepOf_62 hl (k := 4) rfl (by rw [ex_2]; rfl) (by decide) rfl (fun ls hl => ?_)
        refine lv_goto (tgt := 5) hx hb dX9_stepOf_65 (by decide) ?_
        exact hk5 v1 v2 v3 x_2 H locs ls w (lv_sub hl [1, 2, 3, 4, 0] rfl) hf
      · have hf := if_f hf c_1
        refine lv_lload_n hx hb dX9_stepOf_20 rfl (lv_at hl 3 rfl) ?_
        refine lv_iload hx hb dX9_stepOf_21 (lv_at hl 4 rfl) ?_
        refine lv_iload_n hx hb dX9_stepOf_23 rfl (lv_at hl 2 rfl) ?_
        obtain ⟨r_3, er_4⟩ : ∃ y, f_X9_shareOf v5 v2 = y := ⟨_, rfl⟩
        have hf := bindv_eq hf r_3 er_4.symm
        refine callSI (As := [.int v5, .int v2]) (rest := [.long v3]) B w (c_X9_shareOf l _ v5 v2 er_4) (gS kt4_190 kt4_191 kt1_11 kt4_192) hdS_X9_shareOf rfl rfl ⟨Nat.le_of_ble_eq_true rfl, Nat.le_of_ble_eq_true rfl⟩ rfl hl.1 rfl (Nat.le_of_ble_eq_true rfl) dX9_stepOf_24 (fun H locs w => ?_)
        refine lv_i2l hx hb dX9_stepOf_27 rfl ?_
        refine lv_iload hx hb dX9_stepOf_28 (lv_at hl 5 rfl) ?_
        refine lv_iload_n hx hb dX9_stepOf_30 rfl (lv_at hl 2 rfl) ?_
        obtain ⟨r_5, er_6⟩ : ∃ y, f_X9_shareOf v6 v2 = y := ⟨_, rfl⟩
        have hf := bindv_eq hf r_5 er_6.symm
        refine callSI (As := [.int v6, .int v2]) (rest := [.long (Int32.toInt64 r_3), .long v3]) B w (c_X9_shareOf l _ v6 v2 er_6) (gS kt4_190 kt4_191 kt1_11 kt4_192) hdS_X9_shareOf rfl rfl ⟨Nat.le_of_ble_eq_true rfl, Nat.le_of_ble_eq_true rfl⟩ rfl hl.1 rfl (Nat.le_of_ble_eq_true rfl) dX9_stepOf_31 (fun H locs w => ?_)
        refine lv_i2l hx hb dX9_stepOf_34 rfl ?_
        refine lv_lmul (x := (Int32.toInt64 r_3)) (y := (Int32.toInt64 r_5)) hx hb dX9_stepOf_35 ?_
        refine lv_aload_n hx hb dX9_stepOf_36 rfl (lv_at hl 0 rfl) ?_
        refine lv_iload_n hx hb dX9_stepOf_37 rfl (lv_at hl 1 rfl) ?_
        refine lv_bipush (v := 16) hx hb dX9_stepOf_38 (by decide) ?_
        refine lv_irem (x := v1) (y := 16) hx hb dX9_stepOf_40 (by decide) ?_
        refine lv_iload_n hx hb dX9_stepOf_41 rfl (lv_at hl 1 rfl) ?_
        refine lv_bipush (v := 16) hx hb dX9_stepOf_42 (by decide) ?_
        refine lv_idiv (x := v1) (y := 16) hx hb dX9_stepOf_44 (by decide) ?_
        refine lv_iload hx hb dX9_stepOf_45 (lv_at hl 4 rfl) ?_
        refine lv_iload hx hb dX9_stepOf_47 (lv_at hl 5 rfl) ?_
        obtain ⟨r_7, er_8, hf⟩ := bind1_eq hf
        refine callVI (As := [.int (v1 - v1 / 16 * 16), .int (v1 / 16), .int v5, .int v6]) (rest := [.long ((Int32.toInt64 r_3) * (Int32.toInt64 r_5)), .long v3]) B w (c_X9_calledGood l D ca ak av ad fi fl ar (v1 - v1 / 16 * 16) (v1 / 16) v5 v6 er_8) (gV kt4_193 kt4_195 kp2_4 kt1_11 kt4_196) hdV_X9_calledGood 0 rfl rfl rfl rfl ⟨Nat.le_of_ble_eq_true rfl, Nat.le_of_ble_eq_true rfl⟩ rfl hl.1 rfl (Nat.le_of_ble_eq_true rfl) dX9_stepOf_49 (fun H locs w => ?_)
        refine lv_i2l hx hb dX9_stepOf_52 rfl ?_
        refine lv_lmul (x := ((Int32.toInt64 r_3) * (Int32.toInt64 r_5))) (y := (Int32.toInt64 r_7)) hx hb dX9_stepOf_53 ?_
        refine lv_ladd (x := v3) (y := (((Int32.toInt64 r_3) * (Int32.toInt64 r_5)) * (Int32.toInt64 r_7))) hx hb dX9_stepOf_54 ?_
        refine lv_topl (fun x_9 ex_9 => ?_)
        have hf := bindv_eq hf x_9 ex_9
        refine lv_lstore_n (lv' := [(3, .long x_9), (0, .ref (ad 0)), (1, .int v1), (2, .int v2), (5, .int v5), (6, .int v6)]) hx hb dX9_stepOf_55 rfl hl (by decide) rfl (fun ls hl => ?_)
        obtain ⟨x_10, ex_10⟩ : ∃ y : Int32, y = v6 + 1 := ⟨_, rfl⟩
        have hf := bindv_eq hf x_10 ex_10
        refine lv_iinc (v := x_10) (lv' := [(6, .int x_10), (3, .long x_9), (0, .ref (ad 0)), (1, .int v1), (2, .int v2), (5, .int v5)]) hx hb dX9_stepOf_56 hl (k := 5) rfl (by rw [ex_10]; rfl) (by decide) rfl (fun ls hl => ?_)
        refine lv_goto (tgt := 14) hx hb dX9_stepOf_59 (by decide) ?_
        exact ih v1 v2 x_9 v5 x_10 H locs ls w (lv_sub hl [2, 3, 4, 1, 5, 0] rfl) hf
  have J5 : ∀ (n : Nat) (v1 : Int32) (v2 : Int32) (v3 : Int64) (v5 : Int32) (H : Heap) (locs : List Loc) (ls : Array Slot), Wd (EM D ca ak av) A s (wM ad ca fi fl ar) H locs → lv_has ls 7 [(0, .ref (ad 0)), (1, .int v1), (2, .int v2), (3, .long v3), (5, .int v5)] → f_X9_stepOf_5 ar n v1 v2 v3 v5 = some r0 → W p l e ({ frames := 2, cells := 0, slots := 0, locals := 51 } : Room) s m args below meth c H locs 0 0 (MQ below (Qi (EM D ca ak av) A (wM ad ca fi fl ar) r0) args s 0 0 A) (F0 m 5 ls []) := by
    intro  n
    induction n with
    | zero =>
      intro v1 v2 v3 v5 H locs ls w hl hf
      cases hf
    | succ n ih =>
      intro v1 v2 v3 v5 H locs ls w hl hf
      rw [f_X9_stepOf_5] at hf
      refine lv_iload hx hb dX9_stepOf_5 (lv_at hl 4 rfl) ?_
      refine lv_iconst (v := 2) hx hb dX9_stepOf_7 (by decide) ?_
      refine lv_icmp_ge (x := v5) (y := 2) (tgt := 68) hx hb dX9_stepOf_8 (by decide) (fun c_11 => ?_) (fun c_11 => ?_)
      · have hf := if_t hf c_11
        refine lv_lload_n hx hb dX9_stepOf_68 rfl (lv_at hl 3 rfl) ?_
        refine lv_ldc2 (own := RX9) (v := 10000000) hx hb hown (hts _ kt4_197) dX9_stepOf_69 ?_
        refine lv_ldiv (x := v3) (y := 10000000) hx hb dX9_stepOf_72 (by decide) ?_
        refine lv_l2i hx hb dX9_stepOf_73 rfl ?_
        refine lv_topi (fun x_12 ex_12 => ?_)
        have hf := bindv_eq hf x_12 ex_12
        refine lv_istore (lv' := [(5, .int x_12), (0, .ref (ad 0)), (1, .int v1), (2, .int v2), (3, .long v3)]) hx hb dX9_stepOf_74 hl (by decide) rfl (fun ls hl => ?_)
        refine lv_bipush (v := 100) hx hb dX9_stepOf_76 (by decide) ?_
        refine lv_aload_n hx hb dX9_stepOf_78 rfl (lv_at hl 1 rfl) ?_
        refine gfM_0_0 B w kt4_25 dX9_stepOf_79 ?_
        refine lv_iconst (v := 4) hx hb dX9_stepOf_82 (by decide) ?_
        refine alM_1 B w (vp_in_iff.mpr (by decide)) dX9_stepOf_83 ?_
        refine lv_isub (x := 100) (y := (ar 1 (Int32.toNatClampNeg 4))) hx hb dX9_stepOf_84 ?_
        refine lv_iload hx hb dX9_stepOf_85 (lv_at hl 0 rfl) ?_
        refine lv_imul (x := (100 - (ar 1 (Int32.toNatClampNeg 4)))) (y := x_12) hx hb dX9_stepOf_87 ?_
        refine lv_aload_n hx hb dX9_stepOf_88 rfl (lv_at hl 1 rfl) ?_
        refine gfM_0_0 B w kt4_25 dX9_stepOf_89 ?_
        refine lv_iconst (v := 4) hx hb dX9_stepOf_92 (by decide) ?_
        refine alM_1 B w (vp_in_iff.mpr (by decide)) dX9_stepOf_93 ?_
        refine lv_sipush (v := 1000) hx hb dX9_stepOf_94 (by decide) ?_
        refine lv_imul (x := (ar 1 (Int32.toNatClampNeg 4))) (y := 1000) hx hb dX9_stepOf_97 ?_
        refine lv_aload_n hx hb dX9_stepOf_98 rfl (lv_at hl 1 rfl) ?_
        refine gfM_0_0 B w kt4_25 dX9_stepOf_99 ?_
        refine lv_iconst (v := 5) hx hb dX9_stepOf_102 (by decide) ?_
        refine alM_1 B w (vp_in_iff.mpr (by decide)) dX9_stepOf_103 ?_
        refine lv_imul (x := ((ar 1 (Int32.toNatClampNeg 4)) * 1000)) (y := (ar 1 (Int32.toNatClampNeg 5))) hx hb dX9_stepOf_104 ?_
        refine lv_iadd (x := ((100 - (ar 1 (Int32.toNatClampNeg 4))) * x_12)) (y := (((ar 1 (Int32.toNatClampNeg 4)) * 1000) * (ar 1 (Int32.toNatClampNeg 5)))) hx hb dX9_stepOf_105 ?_
        refine lv_bipush (v := 100) hx hb dX9_stepOf_106 (by decide) ?_
        refine lv_idiv (x := (((100 - (ar 1 (Int32.toNatClampNeg 4))) * x_12) + (((ar 1 (Int32.toNatClampNeg 4)) * 1000) * (ar 1 (Int32.toNatClampNeg 5))))) (y := 100) hx hb dX9_stepOf_108 (by decide) ?_
        have hf : some ((((100 - (ar 1 (Int32.toNatClampNeg 4))) * x_12) + (((ar 1 (Int32.toNatClampNeg 4)) * 1000) * (ar 1 (Int32.toNatClampNeg 5)))) / 100) = some r0 := hf
        cases hf
        exact retI B hr hk w dX9_stepOf_109
      · have hf := if_f hf c_11
        refine lv_iconst (v := 0) hx hb dX9_stepOf_11 (by decide) ?_
        refine lv_istore (lv' := [(6, .int 0), (0, .ref (ad 0)), (1, .int v1), (2, .int v2), (3, .long v3), (5, .int v5)]) hx hb dX9_stepOf_12 hl (by decide) rfl (fun ls hl => ?_)
        exact J14 _ ih 5000 v1 v2 v3 v5 0 H locs ls w (lv_sub hl [1, 2, 3, 4, 5, 0] rfl) hf
  unfold f_X9_stepOf at hf
  refine (show ∀ (H : Heap) (locs : List Loc), Wd (EM D ca ak av) A s (wM ad ca fi fl ar) H locs → W p l e ({ frames := 2, cells := 0, slots := 0, locals := 51 } : Room) s m args below meth c H locs 0 0 (MQ below (Qi (EM D ca ak av) A (wM ad ca fi fl ar) r0) args s 0 0 A) (F0 m 0 ls []) from ?_) s.heap [] w
  intro H locs w
  refine lv_lconst (v := 0) hx hb dX9_stepOf_0 (by decide) ?_
  refine lv_lstore_n (lv' := [(3, .long 0), (0, .ref (ad 0)), (1, .int v1), (2, .int v2)]) hx hb dX9_stepOf_1 rfl hl (by decide) rfl (fun ls hl => ?_)
  refine lv_iconst (v := 0) hx hb dX9_stepOf_2 (by decide) ?_
  refine lv_istore (lv' := [(5, .int 0), (3, .long 0), (0, .ref (ad 0)), (1, .int v1), (2, .int v2)]) hx hb dX9_stepOf_3 hl (by decide) rfl (fun ls hl => ?_)
  exact J5  5000 v1 v2 0 0 H locs ls w (lv_sub hl [2, 3, 4, 1, 0] rfl) hf
def f_X9_goFrom_27   : Nat → (Int32) → (Int32) → (Int32) → (Nat → Int32) → (Nat → Nat → Int32) → Option ((Nat → Int32) × (Nat → Nat → Int32))
  | 0, _, _, _, _, _ => none
  | n + 1, v1, v3, v4, fi, ar => gd v3 1001 (if (0 ≤ (ar 4 (Int32.toNatClampNeg v3)) : Prop) then (gd v3 1001 (bindv (upd fi 9 (ar 4 (Int32.toNatClampNeg v3))) (fun fi_4 => bindv (upd fi_4 10 (v4 - (fi_4 9))) (fun fi_5 => if ((fi_5 10) = 1 : Prop) then (bindv (upd fi_5 8 v3) (fun fi_8 => some (fi_8, ar))) else (bindv (upd fi_5 8 (-1)) (fun fi_7 => some (fi_7, ar))))))) else (gd v3 1001 (bindv (updA ar 4 (upd (ar 4) (Int32.toNatClampNeg v3) v4)) (fun ar_10 => bindv (v4 + 1 : Int32) (fun x_11 => bind1 (f_X9_stepOf ar_10 v1 v3) (fun r_12 => (f_X9_goFrom_27 n) v1 r_12 x_11 fi ar_10))))))
def f_X9_goFrom_2   : Nat → (Int32) → (Int32) → (Int32) → (Nat → Int32) → (Nat → Nat → Int32) → Option ((Nat → Int32) × (Nat → Nat → Int32))
  | 0, _, _, _, _, _ => none
  | n + 1, v1, v2, v3, fi, ar => if (1000 < v3 : Prop) then (f_X9_goFrom_27  5000 v1 v2 0 fi ar) else (gd v3 1001 (bindv (updA ar 4 (upd (ar 4) (Int32.toNatClampNeg v3) (-1))) (fun ar_16 => bindv (v3 + 1 : Int32) (fun x_17 => (f_X9_goFrom_2 n) v1 v2 x_17 fi ar_16))))
def f_X9_goFrom (fi : Nat → Int32) (ar : Nat → Nat → Int32) (v1 : Int32) (v2 : Int32) : Option ((Nat → Int32) × (Nat → Nat → Int32)) := f_X9_goFrom_2  5000 v1 v2 0 fi ar
set_option maxHeartbeats 4000000 in
set_option maxRecDepth 100000 in
theorem c_X9_goFrom (l : Launch) (D : va_G) (ca : Nat → ClassId) (ak av ad : Nat → Nat) (fi : Nat → Int32) (fl : Nat → Int64) (ar : Nat → Nat → Int32) (v1 : Int32) (v2 : Int32) {fi0 : Nat → Int32} {ar0 : Nat → Nat → Int32} (hf : f_X9_goFrom fi ar v1 v2 = some (fi0, ar0)) : MtV l yX9_goFrom cX9_goFrom 5 { frames := 3, cells := 0, slots := 0, locals := 77 } (EM D ca ak av) [.ref (ad 0), .int v1, .int v2] (wM ad ca fi fl ar) (wM ad ca fi0 fl ar0) := by
  refine MtV.of (own := RX9) (by decide) rfl (Nat.le_of_ble_eq_true rfl) ?_
  intro p e s m args below meth c A B hr hk w ls hl
  have hx := B.1.1
  have hb := B.1.2.1
  have hown := B.1.2.2.2.1
  have hts := B.1.2.2.2.2
  have hl : lv_has ls 5 [(0, .ref (ad 0)), (1, .int v1), (2, .int v2)] := hl
  have J27 : ∀ (n : Nat) (v1 : Int32) (v3 : Int32) (v4 : Int32) (fi : Nat → Int32) (ar : Nat → Nat → Int32) (H : Heap) (locs : List Loc) (ls : Array Slot), Wd (EM D ca ak av) A s (wM ad ca fi fl ar) H locs → lv_has ls 5 [(0, .ref (ad 0)), (1, .int v1), (3, .int v3), (4, .int v4)] → f_X9_goFrom_27  n v1 v3 v4 fi ar = some (fi0, ar0) → W p l e ({ frames := 3, cells := 0, slots := 0, locals := 77 } : Room) s m args below meth c H locs 0 0 (MQ below (Qv (EM D ca ak av) A (wM ad ca fi0 fl ar0)) args s 0 0 A) (F0 m 27 ls []) := by
    intro  n
    induction n with
    | zero =>
      intro v1 v3 v4 fi ar H locs ls w hl hf
      cases hf
    | succ n ih =>
      intro v1 v3 v4 fi ar H locs ls w hl hf
      rw [f_X9_goFrom_27] at hf
      refine lv_aload_n hx hb dX9_goFrom_27 rfl (lv_at hl 0 rfl) ?_
      refine gfM_0_11 B w kt4_36 dX9_goFrom_28 ?_
      refine lv_iload_n hx hb dX9_goFrom_31 rfl (lv_at hl 2 rfl) ?_
      obtain ⟨hi_1, hf⟩ := gd_eq hf
      refine alM_4 B w hi_1 dX9_goFrom_32 ?_
      refine lv_if_ge (x := (ar 4 (Int32.toNatClampNeg v3))) (tgt := 57) hx hb dX9_goFrom_33 (by decide) (fun c_2 => ?_) (fun c_2 => ?_)
      · have hf := if_t hf c_2
        refine lv_aload_n hx hb dX9_goFrom_57 rfl (lv_at hl 0 rfl) ?_
        refine lv_aload_n hx hb dX9_goFrom_58 rfl (lv_at hl 0 rfl) ?_
        refine gfM_0_11 B w kt4_36 dX9_goFrom_59 ?_
        refine lv_iload_n hx hb dX9_goFrom_62 rfl (lv_at hl 2 rfl) ?_
        obtain ⟨hi_3, hf⟩ := gd_eq hf
        refine alM_4 B w hi_3 dX9_goFrom_63 ?_
        refine pfM_0_13 (v := (ar 4 (Int32.toNatClampNeg v3))) B w kt4_38 dX9_goFrom_64 (fun H locs fi_4 efi_4 w => ?_)
        have hf := bindv_eq hf fi_4 efi_4
        refine lv_aload_n hx hb dX9_goFrom_67 rfl (lv_at hl 0 rfl) ?_
        refine lv_iload hx hb dX9_goFrom_68 (lv_at hl 3 rfl) ?_
        refine lv_aload_n hx hb dX9_goFrom_70 rfl (lv_at hl 0 rfl) ?_
        refine gfM_0_13 B w kt4_38 dX9_goFrom_71 ?_
        refine lv_isub (x := v4) (y := (fi_4 9)) hx hb dX9_goFrom_74 ?_
        refine pfM_0_14 (v := (v4 - (fi_4 9))) B w kt4_39 dX9_goFrom_75 (fun H locs fi_5 efi_5 w => ?_)
        have hf := bindv_eq hf fi_5 efi_5
        refine lv_aload_n hx hb dX9_goFrom_78 rfl (lv_at hl 0 rfl) ?_
        refine lv_aload_n hx hb dX9_goFrom_79 rfl (lv_at hl 0 rfl) ?_
        refine gfM_0_14 B w kt4_39 dX9_goFrom_80 ?_
        refine lv_iconst (v := 1) hx hb dX9_goFrom_83 (by decide) ?_
        refine lv_icmp_ne (x := (fi_5 10)) (y := 1) (tgt := 91) hx hb dX9_goFrom_84 (by decide) (fun c_6 => ?_) (fun c_6 => ?_)
        · have hf := if_f hf c_6
          refine lv_iconst (v := (-1)) hx hb dX9_goFrom_91 (by decide) ?_
          refine pfM_0_12 (v := (-1)) B w kt4_37 dX9_goFrom_92 (fun H locs fi_7 efi_7 w => ?_)
          have hf := bindv_eq hf fi_7 efi_7
          have hf : some (fi_7, ar) = some (fi0, ar0) := hf
          cases hf
          exact retV B hr hk w dX9_goFrom_95
        · have hf := if_t hf c_6
          refine lv_iload_n hx hb dX9_goFrom_87 rfl (lv_at hl 2 rfl) ?_
          refine lv_goto (tgt := 92) hx hb dX9_goFrom_88 (by decide) ?_
          refine pfM_0_12 (v := v3) B w kt4_37 dX9_goFrom_92 (fun H locs fi_8 efi_8 w => ?_)
          have hf := bindv_eq hf fi_8 efi_8
          have hf : some (fi_8, ar) = some (fi0, ar0) := hf
          cases hf
          exact retV B hr hk w dX9_goFrom_95
      · have hf := if_f hf c_2
        refine lv_aload_n hx hb dX9_goFrom_36 rfl (lv_at hl 0 rfl) ?_
        refine gfM_0_11 B w kt4_36 dX9_goFrom_37 ?_
        refine lv_iload_n hx hb dX9_goFrom_40 rfl (lv_at hl 2 rfl) ?_
        refine lv_iload hx hb dX9_goFrom_41 (lv_at hl 3 rfl) ?_
        obtain ⟨hi_9, hf⟩ := gd_eq hf
        refine asM_4 (x := v4) B w hi_9 dX9_goFrom_43 (fun H locs ar_10 ear_10 w => ?_)
        have hf := bindv_eq hf ar_10 ear_10
        obtain ⟨x_11, ex_11⟩ : ∃ y : Int32, y = v4 + 1 := ⟨_, rfl⟩
        have hf := bindv_eq hf x_11 ex_11
        refine lv_iinc (v := x_11) (lv' := [(4, .int x_11), (0, .ref (ad 0)), (1, .int v1), (3, .int v3)]) hx hb dX9_goFrom_44 hl (k := 3) rfl (by rw [ex_11]; rfl) (by decide) rfl (fun ls hl => ?_)
        refine lv_aload_n hx hb dX9_goFrom_47 rfl (lv_at hl 1 rfl) ?_
        refine lv_iload_n hx hb dX9_goFrom_48 rfl (lv_at hl 2 rfl) ?_
        refine lv_iload_n hx hb dX9_goFrom_49 rfl (lv_at hl 3 rfl) ?_
        obtain ⟨r_12, er_13, hf⟩ := bind1_eq hf
        refine callVI (As := [.int v1, .int v3]) (rest := []) B w (c_X9_stepOf l D ca ak av ad fi fl ar_10 v1 v3 er_13) (gV kt4_186 kt4_188 kp2_3 kt1_11 kt4_189) hdV_X9_stepOf 0 rfl rfl rfl rfl ⟨Nat.le_of_ble_eq_true rfl, Nat.le_of_ble_eq_true rfl⟩ rfl hl.1 rfl (Nat.le_of_ble_eq_true rfl) dX9_goFrom_50 (fun H locs w => ?_)
        refine lv_istore_n (lv' := [(3, .int r_12), (4, .int x_11), (0, .ref (ad 0)), (1, .int v1)]) hx hb dX9_goFrom_53 rfl hl (by decide) rfl (fun ls hl => ?_)
        refine lv_goto (tgt := 27) hx hb dX9_goFrom_54 (by decide) ?_
        exact ih v1 r_12 x_11 fi ar_10 H locs ls w (lv_sub hl [2, 3, 0, 1] rfl) hf
  have J2 : ∀ (n : Nat) (v1 : Int32) (v2 : Int32) (v3 : Int32) (fi : Nat → Int32) (ar : Nat → Nat → Int32) (H : Heap) (locs : List Loc) (ls : Array Slot), Wd (EM D ca ak av) A s (wM ad ca fi fl ar) H locs → lv_has ls 5 [(0, .ref (ad 0)), (1, .int v1), (2, .int v2), (3, .int v3)] → f_X9_goFrom_2  n v1 v2 v3 fi ar = some (fi0, ar0) → W p l e ({ frames := 3, cells := 0, slots := 0, locals := 77 } : Room) s m args below meth c H locs 0 0 (MQ below (Qv (EM D ca ak av) A (wM ad ca fi0 fl ar0)) args s 0 0 A) (F0 m 2 ls []) := by
    intro  n
    induction n with
    | zero =>
      intro v1 v2 v3 fi ar H locs ls w hl hf
      cases hf
    | succ n ih =>
      intro v1 v2 v3 fi ar H locs ls w hl hf
      rw [f_X9_goFrom_2] at hf
      refine lv_iload_n hx hb dX9_goFrom_2 rfl (lv_at hl 3 rfl) ?_
      refine lv_sipush (v := 1000) hx hb dX9_goFrom_3 (by decide) ?_
      refine lv_icmp_gt (x := v3) (y := 1000) (tgt := 22) hx hb dX9_goFrom_6 (by decide) (fun c_14 => ?_) (fun c_14 => ?_)
      · have hf := if_t hf c_14
        refine lv_iload_n hx hb dX9_goFrom_22 rfl (lv_at hl 2 rfl) ?_
        refine lv_istore_n (lv' := [(3, .int v2), (0, .ref (ad 0)), (1, .int v1), (2, .int v2)]) hx hb dX9_goFrom_23 rfl hl (by decide) rfl (fun ls hl => ?_)
        refine lv_iconst (v := 0) hx hb dX9_goFrom_24 (by decide) ?_
        refine lv_istore (lv' := [(4, .int 0), (3, .int v2), (0, .ref (ad 0)), (1, .int v1), (2, .int v2)]) hx hb dX9_goFrom_25 hl (by decide) rfl (fun ls hl => ?_)
        exact J27  5000 v1 v2 0 fi ar H locs ls w (lv_sub hl [2, 3, 1, 0] rfl) hf
      · have hf := if_f hf c_14
        refine lv_aload_n hx hb dX9_goFrom_9 rfl (lv_at hl 0 rfl) ?_
        refine gfM_0_11 B w kt4_36 dX9_goFrom_10 ?_
        refine lv_iload_n hx hb dX9_goFrom_13 rfl (lv_at hl 3 rfl) ?_
        refine lv_iconst (v := (-1)) hx hb dX9_goFrom_14 (by decide) ?_
        obtain ⟨hi_15, hf⟩ := gd_eq hf
        refine asM_4 (x := (-1)) B w hi_15 dX9_goFrom_15 (fun H locs ar_16 ear_16 w => ?_)
        have hf := bindv_eq hf ar_16 ear_16
        obtain ⟨x_17, ex_17⟩ : ∃ y : Int32, y = v3 + 1 := ⟨_, rfl⟩
        have hf := bindv_eq hf x_17 ex_17
        refine lv_iinc (v := x_17) (lv' := [(3, .int x_17), (0, .ref (ad 0)), (1, .int v1), (2, .int v2)]) hx hb dX9_goFrom_16 hl (k := 3) rfl (by rw [ex_17]; rfl) (by decide) rfl (fun ls hl => ?_)
        refine lv_goto (tgt := 2) hx hb dX9_goFrom_19 (by decide) ?_
        exact ih v1 v2 x_17 fi ar_16 H locs ls w (lv_sub hl [1, 2, 3, 0] rfl) hf
  unfold f_X9_goFrom at hf
  refine (show ∀ (H : Heap) (locs : List Loc), Wd (EM D ca ak av) A s (wM ad ca fi fl ar) H locs → W p l e ({ frames := 3, cells := 0, slots := 0, locals := 77 } : Room) s m args below meth c H locs 0 0 (MQ below (Qv (EM D ca ak av) A (wM ad ca fi0 fl ar0)) args s 0 0 A) (F0 m 0 ls []) from ?_) s.heap [] w
  intro H locs w
  refine lv_iconst (v := 0) hx hb dX9_goFrom_0 (by decide) ?_
  refine lv_istore_n (lv' := [(3, .int 0), (0, .ref (ad 0)), (1, .int v1), (2, .int v2)]) hx hb dX9_goFrom_1 rfl hl (by decide) rfl (fun ls hl => ?_)
  exact J2  5000 v1 v2 0 fi ar H locs ls w (lv_sub hl [1, 2, 3, 0] rfl) hf
end
