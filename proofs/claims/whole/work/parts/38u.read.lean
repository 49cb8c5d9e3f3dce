/-! the text: the whole of it -/
def mpT (T : Nat) : Nat := T % 32 + T / 32 * 64
def cntT (T : Nat) : Nat := bN T 0 + bN T 1 + bN T 2 + bN T 3 + bN T 4 + bN T 5 + bN T 6
theorem cntT_le (T : Nat) : cntT T ≤ 7 := by
  have h0 := bN_lt T 0
  have h1 := bN_lt T 1
  have h2 := bN_lt T 2
  have h3 := bN_lt T 3
  have h4 := bN_lt T 4
  have h5 := bN_lt T 5
  have h6 := bN_lt T 6
  unfold cntT
  omega
theorem mpT_lt {T : Nat} (h : T < 128) : mpT T < 256 := by unfold mpT; omega
theorem tl_dec : ∀ T, T < 128 → ∀ c, c < 7 → bN (mpT T) (kp c) = bN T c ∧ (bN T c = 0 → T ||| 2 ^ c < 128 ∧ mpT (T ||| 2 ^ c) = mpT T ||| 2 ^ (kp c) ∧ cntT (T ||| 2 ^ c) = cntT T + 1) := by decide +kernel
theorem bc_dec : ∀ T, T < 128 → f_J6_bitCount_0f7a4 (nI T) = nI (cntT T) := by decide +kernel
theorem kp_lt {c : Nat} (h : c < 7) : kp c < 8 := by unfold kp; split <;> omega
def CO (n : Nat) (m : Nat) (fi gi : Nat → Int32) (br : Nat → Nat → Int32) : Prop := (∃ p d T, GdS n p fi gi ∧ DrS d fi br ∧ fi 13 = nI T ∧ gi 7 = nI (mpT T) ∧ T < 128 ∧ cntT T = m) ∨ FdS n fi gi
theorem clause_ok {t : Nat → Nat} {n p : Nat} {ar br : Nat → Nat → Int32} (hT8 : Tx t n ar) (hT9 : Tx t n br) {fi gi : Nat → Int32} (h : GdS n p fi gi) (hs : SK t n p = p) {d : Nat → Nat} (hD : DrS d fi br) {T : Nat} (hT : T < 128) (h13 : fi 13 = nI T) (h7 : gi 7 = nI (mpT T)) :
    ∃ fi' gi' br', f_X3_takeClause fi ar = some fi' ∧ f_X9_takeClause gi br = some (gi', br') ∧ (∀ k, k < 10 ∨ 21 < k → fi' k = fi k) ∧ (∀ k, k < 2 ∨ 7 < k → gi' k = gi k) ∧ (∀ q, q ≠ 2 → br' q = br q) ∧ CO n (cntT T + 1) fi' gi' br' := by
  have h' := h
  obtain ⟨hp, h9, h1, h12, h2, h11, h5, h10⟩ := h'
  have c8 := cw8 hT8 hp hs h9 h12
  obtain ⟨g1, e9, k2, k3, k4, ko⟩ := tw9 hT9 hp h1 h2
  rw [hs] at k2 k3 k4
  have c9 := kd9 hT9 hp k3 k4
  have q2 := LE_le (t := t) hp
  obtain ⟨e, he⟩ : ∃ e, e = LE t n p := ⟨_, rfl⟩
  rw [← he] at c8 c9 k2 k4 q2
  obtain ⟨c, hc⟩ : ∃ c, c = kc t p e := ⟨_, rfl⟩
  have hc7 := kc_le t p e
  rw [← hc] at c8 c9 hc7
  have g5 : g1 5 = 0 := by rw [ko 5 (by decide) (by decide) (by decide)]; exact h5
  have g1n : g1 1 = nI n := by rw [ko 1 (by decide) (by decide) (by decide)]; exact h1
  have g6 : g1 6 = gi 6 := ko 6 (by decide) (by decide) (by decide)
  have g7 : g1 7 = nI (mpT T) := by rw [ko 7 (by decide) (by decide) (by decide)]; exact h7
  have KGg : KG gi g1 := fun k hk => ko k (by omega) (by omega) (by omega)
  unfold f_X3_takeClause f_X9_takeClause f_X9_takeClause_24
  rw [bindv_def, h12, c8, e9, bind1_some, bindv_def, k3, c9, bind1_some]
  by_cases d7 : c = 7
  · rw [if_pos d7, bind2_some, if_pos rfl, if_pos d7, if_pos (by decide), blame8, bind1_some, want9_0 g5 (by decide), bind2_some, if_pos rfl]
    have hF : FdS n (upd (upd fi 11 (nI 1)) 10 (nI p)) (upd (upd g1 5 (nI 1)) 6 (nI p)) := fd_mk hp (by decide) (by decide) h9 g1n h12 _
    have hE := (end_bad (ar := ar) (br := br) hF).2
    refine ⟨_, _, _, rfl, hE, fun k hk => ?_, fun k hk => ?_, fun _ _ => rfl, Or.inr hF⟩
    · rw [upd_ne _ _ (by omega), upd_ne _ _ (by omega)]
    · rw [upd_ne _ _ (by omega), upd_ne _ _ (by omega)]; exact KGg k (by omega)
  · have hc6 : c < 7 := by omega
    have hkp := kp_lt hc6
    have hm := mpT_lt hT
    obtain ⟨w1, w2⟩ := tl_dec T hT c hc6
    obtain ⟨f1, ef⟩ : ∃ z, z = upd fi 12 (nI e) := ⟨_, rfl⟩
    have f13 : f1 13 = nI T := by rw [ef, upd_ne _ _ (by decide)]; exact h13
    have f9 : f1 9 = nI n := by rw [ef, upd_ne _ _ (by decide)]; exact h9
    have f12 : f1 12 = nI e := by rw [ef, upd_eq]
    rw [if_neg d7, bind2_some, if_neg (nI_nm1 (by omega)), if_neg d7, if_neg (nI_pos (by omega)), want9_1 g5, bind2_some, if_neg n10, ← ef, bindv_def, f13, bit8 (by omega) (by omega), g7, bit_ok (by omega) (by omega), w1]
    unfold f_X9_takeClause_49
    rcases bN_or T c with hb | hb
    · rw [hb, if_neg (by decide), if_pos (by decide), want9_1 g5, bind2_some, if_neg n10, bindv_def, bindv_def, g7, sh1 hkp, sh1 (by omega), nI_or, nI_or]
      obtain ⟨x1, x2, x3⟩ := w2 hb
      rw [← x2]
      obtain ⟨f2, ef2⟩ : ∃ z, z = upd f1 13 (nI (T ||| 2 ^ c)) := ⟨_, rfl⟩
      obtain ⟨g2, eg2⟩ : ∃ z, z = upd g1 7 (nI (mpT (T ||| 2 ^ c))) := ⟨_, rfl⟩
      rw [← ef2, ← eg2]
      have hG1 : GdS n e f1 g1 := ⟨q2.2, f9, g1n, f12, k2, by rw [ef, upd_ne _ _ (by decide)]; exact h11, g5, by rw [ef, upd_ne _ _ (by decide), g6]; exact h10⟩
      have hG2 : GdS n e f2 g2 := by
        have hU := hG1.up (k := 13) (by decide) (nI (T ||| 2 ^ c))
        rw [← ef2] at hU
        obtain ⟨y0, y1, y2, y3, y4, y5, y6, y7⟩ := hU
        exact ⟨y0, y1, by rw [eg2, upd_ne _ _ (by decide)]; exact y2, y3, by rw [eg2, upd_ne _ _ (by decide)]; exact y4, y5, by rw [eg2, upd_ne _ _ (by decide)]; exact y6, by rw [eg2, upd_ne _ _ (by decide)]; exact y7⟩
      have hD2 : DrS d f2 br := ⟨hD.1, fun k hk => by rw [ef2, upd_ne _ _ (by omega), ef, upd_ne _ _ (by omega)]; exact hD.2 k hk⟩
      obtain ⟨f3, g3, b3, r1, r2, r3, r4, r5, r6⟩ := body_ok hT8 hT9 hG2 hD2 hc6
      have r2' : mB (nI (kp c)) g2 br = f_X9_takeClause_154 g3 b3 := r2
      unfold mB at r2'
      rw [r1, bind1_some, r2']
      have z8 : ∀ k, k < 10 ∨ 21 < k → f3 k = fi k := fun k hk => by rw [r3 k (by omega), ef2, upd_ne _ _ (by omega), ef, upd_ne _ _ (by omega)]
      have z9 : ∀ k, k < 2 ∨ 7 < k → g3 k = gi k := fun k hk => by rw [r4 k (by omega), eg2, upd_ne _ _ (by omega)]; exact KGg k (by omega)
      have z13 : f3 13 = nI (T ||| 2 ^ c) := by rw [r3 13 (by omega), ef2, upd_eq]
      have z7 : g3 7 = nI (mpT (T ||| 2 ^ c)) := by rw [r4 7 (by omega), eg2, upd_eq]
      rcases r6 with ⟨p1, d1, hG3, hD3⟩ | hF3
      · obtain ⟨f4, g4, s1, s2, s3, s4, s5⟩ := end_good hT8 (hT9.kp (r5 3 (by decide))) hG3
        rw [s1, s2, bind1_some]
        refine ⟨f4, g4, b3, rfl, rfl, fun k hk => (s3 k (by omega) (by omega) (by omega)).trans (z8 k hk), fun k hk => (s4 k (by omega)).trans (z9 k hk), r5, ?_⟩
        rcases s5 with ⟨p2, hG4⟩ | hF4
        · exact Or.inl ⟨p2, d1, T ||| 2 ^ c, hG4, ⟨hD3.1, fun k hk => by rw [s3 (14 + k) (by omega) (by omega) (by omega)]; exact hD3.2 k hk⟩, (s3 13 (by decide) (by decide) (by decide)).trans z13, (s4 7 (by omega)).trans z7, x1, x3⟩
        · exact Or.inr hF4
      · obtain ⟨s1, s2⟩ := end_bad (ar := ar) (br := b3) hF3
        rw [s1, s2, bind1_some]
        exact ⟨f3, g3, b3, rfl, rfl, z8, z9, r5, Or.inr hF3⟩
    · rw [hb, if_pos (by decide), if_neg (by decide), want9_0 g5 (by decide), bind2_some, if_pos rfl, blame8, bind1_some]
      have hF : FdS n (upd (upd f1 11 (nI 3)) 10 (nI p)) (upd (upd g1 5 (nI 3)) 6 (nI p)) := fd_mk q2.2 (by decide) (by decide) f9 g1n f12 _
      have hE := (end_bad (ar := ar) (br := br) hF).2
      refine ⟨_, _, _, rfl, hE, fun k hk => ?_, fun k hk => ?_, fun _ _ => rfl, Or.inr hF⟩
      · rw [upd_ne _ _ (by omega), upd_ne _ _ (by omega), ef, upd_ne _ _ (by omega)]
      · rw [upd_ne _ _ (by omega), upd_ne _ _ (by omega)]; exact KGg k (by omega)
def EX (d0 : Nat) (r : Int32) (fi gi : Nat → Int32) (br : Nat → Nat → Int32) (fi' gi' : Nat → Int32) (br' : Nat → Nat → Int32) : Prop := (∀ k, k < 9 ∨ 21 < k → fi' k = fi k) ∧ fi' 9 = 0 ∧ gi' 0 = gi 0 ∧ gi' 1 = 0 ∧ fi' 10 = gi' 6 ∧ ((¬ r < 0 ∧ (∀ q, q ≠ 1 → q ≠ 2 → br' q = br q) ∧ ∃ d, Vok d ∧ ∀ k, k < 8 → fi' (14 + k) = nI (d k) ∧ br' 1 k = nI (d k)) ∨ (r < 0 ∧ ∀ q, q ≠ 2 → br' q = br q))
theorem ex_bad {n : Nat} {ar br : Nat → Nat → Int32} {fi gi : Nat → Int32} (h : FdS n fi gi) (v : Int32) : ∃ r fi' gi' br', f_X3_parse_71 ar fi = some (r, fi') ∧ f_X9_read_70 v gi br = some (r, gi', br') ∧ EX 0 r fi gi br fi' gi' br' := by
  obtain ⟨a1, a2, a3, a4, w, a5, a6, a7, a8⟩ := h
  unfold f_X3_parse_71 f_X9_read_70
  rw [bindv_def, bindv_def, bindv_def, upd_ne _ _ (show 11 ≠ 9 by decide), upd_ne _ _ (show 5 ≠ 1 by decide), a7, a8, if_neg (nI_ne0 (by omega) (by omega)), if_neg (show ¬ nI w ≤ 0 from nI_ge (a := 0) (b := w) (by omega) (by omega))]
  have hr : (-10 - nI w : Int32) < 0 := by
    have d : ∀ w, w < 4 → (-10 - nI w : Int32) < 0 := by decide +kernel
    exact d w a6
  refine ⟨_, _, _, _, rfl, rfl, fun k hk => upd_ne _ _ (by omega), upd_eq _ _ _, upd_ne _ _ (by decide), upd_eq _ _ _, ?_, Or.inr ⟨hr, fun _ _ => rfl⟩⟩
  rw [upd_ne _ _ (by decide), upd_ne _ _ (by decide)]; exact a3
theorem cp_loop (v : Int32) : ∀ (m N j : Nat) (gi : Nat → Int32) (br : Nat → Nat → Int32), j + m = 8 → m < N → ∃ br', f_X9_read_92 N v (nI j) gi br = some (v, gi, br') ∧ (∀ q, q ≠ 1 → br' q = br q) ∧ (∀ k, k < j → br' 1 k = br 1 k) ∧ ∀ k, j ≤ k → k < 8 → br' 1 k = br 2 k := by
  intro m
  induction m with
  | zero =>
    intro N j gi br hj hN
    obtain ⟨N, rfl⟩ : ∃ z, N = z + 1 := ⟨N - 1, by omega⟩
    obtain rfl : j = 8 := by omega
    rw [f_X9_read_92, if_pos (by decide)]
    exact ⟨br, rfl, fun _ _ => rfl, fun _ _ => rfl, fun k h1 h2 => by omega⟩
  | succ m ih =>
    intro N j gi br hj hN
    obtain ⟨N, rfl⟩ : ∃ z, N = z + 1 := ⟨N - 1, by omega⟩
    rw [f_X9_read_92, if_neg (show ¬ ((8 : Int32) ≤ nI j) from nI_ge (a := j) (b := 8) (by omega) (by decide)), gd_nI (by omega) (by decide), gd_nI (by omega) (by decide), bindv_def, bindv_def, clampN (by omega), nI_1]
    obtain ⟨b1, eb⟩ : ∃ z, z = updA br 1 (upd (br 1) j (br 2 j)) := ⟨_, rfl⟩
    rw [← eb]
    obtain ⟨b2, r1, r2, r3, r4⟩ := ih N (j + 1) gi b1 (by omega) (by omega)
    refine ⟨b2, r1, fun q hq => by rw [r2 q hq, eb, updA_ne _ _ hq], fun k hk => ?_, fun k h1 h2 => ?_⟩
    · rw [r3 k (by omega), eb, updA_eq, upd_ne _ _ (by omega)]
    · rcases Nat.lt_or_ge j k with z | z
      · rw [r4 k (by omega) h2, eb, updA_ne _ _ (by decide)]
      · obtain rfl : k = j := by omega
        rw [r3 k (by omega), eb, updA_eq, upd_eq]
theorem ex_good {m T : Nat} {d : Nat → Nat} {ar br : Nat → Nat → Int32} {fi gi : Nat → Int32} (h11 : fi 11 = 0) (h5 : gi 5 = 0) (h10 : fi 10 = gi 6) (hD : DrS d fi br) (h13 : fi 13 = nI T) (hT : T < 128) (hm : cntT T = m) : ∃ r fi' gi' br', f_X3_parse_71 ar fi = some (r, fi') ∧ f_X9_read_70 (nI m) gi br = some (r, gi', br') ∧ EX 0 r fi gi br fi' gi' br' := by
  obtain ⟨F, hF⟩ : ∃ n : Nat, n = 5000 := ⟨_, rfl⟩
  unfold f_X3_parse_71 f_X9_read_70
  rw [bindv_def, bindv_def, bindv_def, upd_ne _ _ (show 11 ≠ 9 by decide), upd_ne _ _ (show 5 ≠ 1 by decide), upd_ne _ _ (show 13 ≠ 9 by decide), h11, h5, h13, if_pos rfl, if_pos (by decide), bc_dec T hT, hm, ← hF]
  have hc := cntT_le T
  obtain ⟨b2, r1, r2, r3, r4⟩ := cp_loop (nI m) 8 F 0 (upd gi 1 0) br (by decide) (by omega)
  have r1' : f_X9_read_92 F (nI m) 0 (upd gi 1 0) br = some (nI m, upd gi 1 0, b2) := r1
  rw [r1']
  refine ⟨_, _, _, _, rfl, rfl, fun k hk => upd_ne _ _ (by omega), upd_eq _ _ _, upd_ne _ _ (by decide), upd_eq _ _ _, ?_, Or.inl ⟨nI_pos (by omega), fun q h1 _ => r2 q h1, d, hD.1, fun k hk => ⟨?_, ?_⟩⟩⟩
  · rw [upd_ne _ _ (by decide), upd_ne _ _ (by decide)]; exact h10
  · rw [upd_ne _ _ (by omega)]; exact (hD.2 k hk).1
  · rw [r4 k (Nat.zero_le _) hk]; exact (hD.2 k hk).2
theorem EX.tr {r : Int32} {fi gi : Nat → Int32} {br : Nat → Nat → Int32} {f1 g1 : Nat → Int32} {b1 : Nat → Nat → Int32} {f2 g2 : Nat → Int32} {b2 : Nat → Nat → Int32} (h1 : ∀ k, k < 9 ∨ 21 < k → f1 k = fi k) (h2 : g1 0 = gi 0) (h3 : ∀ q, q ≠ 2 → b1 q = br q) (h : EX 0 r f1 g1 b1 f2 g2 b2) : EX 0 r fi gi br f2 g2 b2 := by
  obtain ⟨a1, a2, a3, a4, a5, a6⟩ := h
  refine ⟨fun k hk => (a1 k hk).trans (h1 k hk), a2, a3.trans h2, a4, a5, ?_⟩
  rcases a6 with ⟨c1, c2, c3⟩ | ⟨c1, c2⟩
  · exact Or.inl ⟨c1, fun q q1 q2 => (c2 q q1 q2).trans (h3 q q2), c3⟩
  · exact Or.inr ⟨c1, fun q q2 => (c2 q q2).trans (h3 q q2)⟩
theorem rd_loop {t : Nat → Nat} {n : Nat} {ar : Nat → Nat → Int32} (hT8 : Tx t n ar) : ∀ (k N N' m : Nat) (fi gi : Nat → Int32) (br : Nat → Nat → Int32), m + k = 8 → k < N → k < N' → Tx t n br → ((∃ p d T, p ≤ n ∧ gi 2 = nI p ∧ GdS n (SK t n p) fi (upd gi 2 (nI (SK t n p))) ∧ DrS d fi br ∧ fi 13 = nI T ∧ gi 7 = nI (mpT T) ∧ T < 128 ∧ cntT T = m) ∨ FdS n fi gi) →
    ∃ r fi' gi' br', f_X3_parse_33 ar N (nI m) fi = some (r, fi') ∧ f_X9_read_46 N' (nI m) gi br = some (r, gi', br') ∧ EX 0 r fi gi br fi' gi' br' := by
  intro k
  induction k with
  | zero =>
    intro N N' m fi gi br hk hN hN' hT9 hS
    obtain ⟨N, rfl⟩ : ∃ z, N = z + 1 := ⟨N - 1, by omega⟩
    obtain ⟨N', rfl⟩ : ∃ z, N' = z + 1 := ⟨N' - 1, by omega⟩
    obtain rfl : m = 8 := by omega
    rcases hS with ⟨p, d, T, h1, h2, h3, h4, h5, h6, h7, h8⟩ | hF
    · have := cntT_le T
      omega
    · have hF' := hF
      obtain ⟨a1, a2, a3, a4, w, a5, a6, a7, a8⟩ := hF'
      rw [f_X3_parse_33, if_pos (by decide), f_X9_read_46, if_neg (by rw [a8]; exact nI_ne0 (by omega) (by omega))]
      exact ex_bad hF _
  | succ k ih =>
    intro N N' m fi gi br hk hN hN' hT9 hS
    obtain ⟨N, rfl⟩ : ∃ z, N = z + 1 := ⟨N - 1, by omega⟩
    obtain ⟨N', rfl⟩ : ∃ z, N' = z + 1 := ⟨N' - 1, by omega⟩
    have hm7 : ¬ (7 : Int32) < nI m := nI_nlt (a := 7) (b := m) (by omega) (by decide)
    rw [f_X3_parse_33, if_neg hm7, f_X9_read_46]
    rcases hS with ⟨p, d, T, hp, h2, hG, hD, h13, h7, hT, hcn⟩ | hF
    · have hG' := hG
      obtain ⟨q0, f9, g1, f12, g2, f11, g5, f10⟩ := hG'
      rw [upd_ne _ _ (by decide)] at g1 g5 f10
      have hn := hT8.1
      have k9 := hr9 hT9 hp g1 h2
      have hid := SK_idem (t := t) hp
      obtain ⟨q, hq⟩ : ∃ q, q = SK t n p := ⟨_, rfl⟩
      rw [← hq] at q0 f12 hG k9 hid
      rw [if_pos f11, if_pos g5, f9, f12, k9, bind2_some]
      by_cases c : q < n
      · have hb := (hT8.2 q c).1
        have e : hrI t n q = nI (t q) := if_pos c
        rw [if_neg (nI_ge (by omega) (by omega)), e, if_neg (nI_pos (by omega))]
        obtain ⟨f3, g3, b3, r1, r2, r3, r4, r5, r6⟩ := clause_ok hT8 hT9 hG hid hD hT h13 (by rw [upd_ne _ _ (by decide)]; exact h7)
        rw [r1, bind1_some, r2, bind2_some]
        have z0 : g3 0 = gi 0 := by rw [r4 0 (by omega), upd_ne _ _ (by decide)]
        have hT9' : Tx t n b3 := hT9.kp (r5 3 (by decide))
        rcases r6 with ⟨p1, d1, T1, hG1, hD1, x13, x7, hT1, hc1⟩ | hF1
        · have hG1' := hG1
          obtain ⟨y0, y1, y2, y3, y4, y5, y6, y7⟩ := hG1'
          have b1 := SK_le (t := t) y0
          rw [sk8 hT8 y0 y1 y3, bind1_some, bindv_def, bindv_def, nI_1]
          obtain ⟨r, f4, g4, b4, s1, s2, s3⟩ := ih N N' (m + 1) (upd f3 12 (nI (SK t n p1))) g3 b3 (by omega) (by omega) (by omega) hT9' (Or.inl ⟨p1, d1, T1, y0, y4, ⟨b1.2, by rw [upd_ne _ _ (by decide)]; exact y1, by rw [upd_ne _ _ (by decide)]; exact y2, upd_eq _ _ _, upd_eq _ _ _, by rw [upd_ne _ _ (by decide)]; exact y5, by rw [upd_ne _ _ (by decide)]; exact y6, by rw [upd_ne _ _ (by decide), upd_ne _ _ (by decide)]; exact y7⟩, ⟨hD1.1, fun k hk => by rw [upd_ne _ _ (by omega)]; exact hD1.2 k hk⟩, by rw [upd_ne _ _ (by decide)]; exact x13, x7, hT1, by rw [hc1, hcn]⟩)
          exact ⟨r, f4, g4, b4, s1, s2, EX.tr (fun k hk => by rw [upd_ne _ _ (by omega)]; exact r3 k (by omega)) z0 r5 s3⟩
        · have hF1' := hF1
          obtain ⟨a1, a2, a3, ⟨p1, hp1, a4⟩, w, a5, a6, a7, a8⟩ := hF1'
          have b1 := SK_le (t := t) hp1
          rw [sk8 hT8 hp1 a1 a4, bind1_some, bindv_def, bindv_def, nI_1]
          obtain ⟨r, f4, g4, b4, s1, s2, s3⟩ := ih N N' (m + 1) (upd f3 12 (nI (SK t n p1))) g3 b3 (by omega) (by omega) (by omega) hT9' (Or.inr ⟨by rw [upd_ne _ _ (by decide)]; exact a1, a2, by rw [upd_ne _ _ (by decide)]; exact a3, ⟨SK t n p1, b1.2, upd_eq _ _ _⟩, w, a5, a6, by rw [upd_ne _ _ (by decide)]; exact a7, a8⟩)
          exact ⟨r, f4, g4, b4, s1, s2, EX.tr (fun k hk => by rw [upd_ne _ _ (by omega)]; exact r3 k (by omega)) z0 r5 s3⟩
      · have e : hrI t n q = -1 := if_neg c
        rw [if_pos (nI_le (by omega) (by omega)), e, if_pos (by decide)]
        obtain ⟨r, f4, g4, b4, s1, s2, s3⟩ := ex_good (m := m) (ar := ar) (br := br) (fi := fi) (gi := upd gi 2 (nI q)) f11 (by rw [upd_ne _ _ (by decide)]; exact g5) (by rw [upd_ne _ _ (by decide)]; exact f10) hD h13 hT hcn
        exact ⟨r, f4, g4, b4, s1, s2, EX.tr (fun _ _ => rfl) (upd_ne _ _ (by decide)) (fun _ _ => rfl) s3⟩
    · have hF' := hF
      obtain ⟨a1, a2, a3, a4, w, a5, a6, a7, a8⟩ := hF'
      rw [if_neg (by rw [a7]; exact nI_ne0 (by omega) (by omega)), if_neg (by rw [a8]; exact nI_ne0 (by omega) (by omega))]
      exact ex_bad hF _
def dF (k : Nat) : Nat := ([1, 3, 1, 1, 0, 1, 10, 153] : List Nat).getD k 0
theorem dF_ok : Vok dF := by unfold Vok dF; decide
theorem at_dec : ∀ k, k < 8 → f_X9_atFirst (nI k) = nI (dF k) := by decide +kernel
theorem in_loop : ∀ (m N j : Nat) (gi : Nat → Int32) (br : Nat → Nat → Int32), j + m = 8 → m < N → ∃ br', f_X9_read_22 N (nI j) gi br = f_X9_read_46 5000 0 gi br' ∧ (∀ q, q ≠ 2 → br' q = br q) ∧ (∀ k, k < j → br' 2 k = br 2 k) ∧ ∀ k, j ≤ k → k < 8 → br' 2 k = nI (dF k) := by
  intro m
  induction m with
  | zero =>
    intro N j gi br hj hN
    obtain ⟨N, rfl⟩ : ∃ z, N = z + 1 := ⟨N - 1, by omega⟩
    obtain rfl : j = 8 := by omega
    rw [f_X9_read_22, if_pos (by decide)]
    exact ⟨br, rfl, fun _ _ => rfl, fun _ _ => rfl, fun k h1 h2 => by omega⟩
  | succ m ih =>
    intro N j gi br hj hN
    obtain ⟨N, rfl⟩ : ∃ z, N = z + 1 := ⟨N - 1, by omega⟩
    rw [f_X9_read_22, if_neg (show ¬ ((8 : Int32) ≤ nI j) from nI_ge (a := j) (b := 8) (by omega) (by decide)), bindv_def, gd_nI (by omega) (by decide), bindv_def, bindv_def, clampN (by omega), nI_1, at_dec j (by omega)]
    obtain ⟨b1, eb⟩ : ∃ z, z = updA br 2 (upd (br 2) j (nI (dF j))) := ⟨_, rfl⟩
    rw [← eb]
    obtain ⟨b2, r1, r2, r3, r4⟩ := ih N (j + 1) gi b1 (by omega) (by omega)
    refine ⟨b2, r1, fun q hq => by rw [r2 q hq, eb, updA_ne _ _ hq], fun k hk => ?_, fun k h1 h2 => ?_⟩
    · rw [r3 k (by omega), eb, updA_eq, upd_ne _ _ (by omega)]
    · rcases Nat.lt_or_ge j k with z | z
      · exact r4 k (by omega) h2
      · obtain rfl : k = j := by omega
        rw [r3 k (by omega), eb, updA_eq, upd_eq]
theorem st_read {fi : Nat → Int32} {fl : Nat → Int64} {ar : Nat → Nat → Int32} {gi : Nat → Int32} {gl : Nat → Int64} {br : Nat → Nat → Int32} (h : Rel fi fl ar gi gl br) : ∃ (r : Int32) (fi' : Nat → Int32) (gi' : Nat → Int32) (br' : Nat → Nat → Int32), f_X8_read fi ar = some (r, fi') ∧ f_X9_read gi br = some (r, gi', br') ∧ Rel fi' fl ar gi' gl br' := by
  obtain ⟨v, ⟨hv, hf, hb⟩, ⟨l, hl, hl1, hl2⟩, ⟨n, hn, t2, t3, t4⟩, h10, hw, hc, hsv⟩ := h
  obtain ⟨F, hF⟩ : ∃ n : Nat, n = 5000 := ⟨_, rfl⟩
  obtain ⟨t, ht⟩ : ∃ t : Nat → Nat, ∀ j, j < n → t j < 256 ∧ ar 3 j = nI (t j) ∧ br 3 j = nI (t j) := by
    refine ⟨fun j => (ar 3 j).toBitVec.toNat, fun j hj => ?_⟩
    obtain ⟨b, hb, e1, e2⟩ := t4 j hj
    have e : (ar 3 j).toBitVec.toNat = b := by rw [e1]; exact pk_tn (by omega)
    show (ar 3 j).toBitVec.toNat < 256 ∧ ar 3 j = nI (ar 3 j).toBitVec.toNat ∧ br 3 j = nI (ar 3 j).toBitVec.toNat
    rw [e]
    exact ⟨hb, e1, e2⟩
  have hT8 : Tx t n ar := ⟨hn, fun j hj => ⟨(ht j hj).1, (ht j hj).2.1⟩⟩
  have hT9 : Tx t n br := ⟨hn, fun j hj => ⟨(ht j hj).1, (ht j hj).2.2⟩⟩
  -- the class as it begins
  obtain ⟨f0, ef0⟩ : ∃ z, f_X6_asAtFirst fi = some z ∧ ∀ k, z k = if k = 21 then 153 else if k = 20 then 10 else if k = 19 then 1 else if k = 18 then 0 else if k = 17 then 1 else if k = 16 then 1 else if k = 15 then 3 else if k = 14 then 1 else fi k := ⟨_, rfl, fun k => rfl⟩
  obtain ⟨a0, a1⟩ := ef0
  obtain ⟨f1, e1⟩ : ∃ z, z = upd (upd (upd (upd f0 11 0) 10 (-1)) 12 0) 13 0 := ⟨_, rfl⟩
  have k1 : ∀ k, f1 k = if k = 13 then 0 else if k = 12 then 0 else if k = 10 then -1 else if k = 11 then 0 else f0 k := by intro k; rw [e1]; rfl
  have f9 : f1 9 = nI n := by rw [k1]; simp; rw [a1]; simp; exact t2
  have f12 : f1 12 = nI 0 := by rw [k1]; rfl
  have s0 := SK_le (t := t) (Nat.zero_le n)
  obtain ⟨f2, e2⟩ : ∃ z, z = upd f1 12 (nI (SK t n 0)) := ⟨_, rfl⟩
  have p8 : f_X3_parse fi ar = f_X3_parse_33 ar F (nI 0) f2 := by
    unfold f_X3_parse
    rw [a0, bind1_some, bindv_def, bindv_def, bindv_def, bindv_def, ← e1, sk8 hT8 (Nat.zero_le n) f9 f12, bind1_some, ← e2, ← hF]
    rfl
  -- the model as it begins
  obtain ⟨g1, e3⟩ : ∃ z, z = upd (upd (upd (upd gi 2 0) 5 0) 6 (-1)) 7 0 := ⟨_, rfl⟩
  have k3 : ∀ k, g1 k = if k = 7 then 0 else if k = 6 then -1 else if k = 5 then 0 else if k = 2 then 0 else gi k := by intro k; rw [e3]; rfl
  obtain ⟨b1, i1, i2, i3, i4⟩ := in_loop 8 F 0 g1 br (by decide) (by omega)
  have p9 : f_X9_read gi br = f_X9_read_46 F (nI 0) g1 b1 := by
    unfold f_X9_read
    rw [bindv_def, bindv_def, bindv_def, bindv_def, ← e3, ← hF]
    have i1' : f_X9_read_22 F 0 g1 br = f_X9_read_46 5000 0 g1 b1 := i1
    rw [i1', ← hF]
    rfl
  have g7 : g1 7 = nI (mpT 0) := by rw [k3]; rfl
  have hD : DrS dF f2 b1 := by
    refine ⟨dF_ok, fun k hk => ⟨?_, i4 k (Nat.zero_le _) hk⟩⟩
    rw [e2, upd_ne _ _ (by omega), k1, if_neg (by omega), if_neg (by omega), if_neg (by omega), if_neg (by omega), a1]
    rcases (show k = 0 ∨ k = 1 ∨ k = 2 ∨ k = 3 ∨ k = 4 ∨ k = 5 ∨ k = 6 ∨ k = 7 by omega) with rfl | rfl | rfl | rfl | rfl | rfl | rfl | rfl <;> rfl
  obtain ⟨r, f4, g4, b4, s1, s2, s3⟩ := rd_loop hT8 8 F F 0 f2 g1 b1 (by decide) (by omega) (by omega) (hT9.kp (i2 3 (by decide))) (Or.inl ⟨0, dF, 0, Nat.zero_le _, by rw [k3]; rfl, ⟨s0.2, by rw [e2, upd_ne _ _ (by decide)]; exact f9, by rw [upd_ne _ _ (by decide), k3]; simp; exact t3, by rw [e2, upd_eq], upd_eq _ _ _, by rw [e2, upd_ne _ _ (by decide), k1]; rfl, by rw [upd_ne _ _ (by decide), k3]; rfl, by rw [e2, upd_ne _ _ (by decide), upd_ne _ _ (by decide), k1, k3]; rfl⟩, hD, by rw [e2, upd_ne _ _ (by decide), k1]; rfl, g7, by decide, by decide⟩)
  rw [← p8] at s1
  rw [← p9] at s2
  obtain ⟨x1, x2, x3, x4, x5, x6⟩ := s3
  have y1 : ∀ k, k < 9 ∨ 21 < k → f4 k = fi k := fun k hk => by
    rw [x1 k hk, e2, upd_ne _ _ (by omega), k1, if_neg (by omega), if_neg (by omega), if_neg (by omega), if_neg (by omega), a1]
    repeat rw [if_neg (by omega)]
  have y0 : g4 0 = gi 0 := by rw [x3, k3]; rfl
  unfold f_X8_read
  rw [s1, bind2_some]
  rcases x6 with ⟨c1, c2, d, hd, c3⟩ | ⟨c1, c2⟩
  · rw [if_neg c1]
    obtain ⟨f5, z0, z1⟩ : ∃ z, f_X6_become f4 = some z ∧ ∀ k, z k = if k = 8 then f4 21 else if k = 7 then f4 20 else if k = 6 then f4 19 else if k = 5 then f4 18 else if k = 4 then f4 17 else if k = 3 then f4 16 else if k = 2 then f4 15 else if k = 1 then f4 14 else f4 k := ⟨_, rfl, fun k => by simp [upd]⟩
    rw [z0, bind1_some]
    unfold f_X4_drop
    rw [bindv_def, bind1_some]
    have z2 : ∀ k, k = 0 ∨ 8 < k → f5 k = f4 k := fun k hk => by
      rw [z1]
      repeat rw [if_neg (by omega)]
    refine ⟨r, _, g4, b4, rfl, s2, d, ⟨hd, fun k hk => ?_, fun k hk => (c3 k hk).2⟩, ⟨l, hl, ?_, y0.trans hl2⟩, ⟨0, by decide, ?_, x4, fun j hj => by omega⟩, ?_, ?_, hc, Or.inl (upd_eq _ _ _)⟩
    · rw [upd_ne _ _ (by omega), ← (c3 k hk).1, z1]
      rcases (show k = 0 ∨ k = 1 ∨ k = 2 ∨ k = 3 ∨ k = 4 ∨ k = 5 ∨ k = 6 ∨ k = 7 by omega) with rfl | rfl | rfl | rfl | rfl | rfl | rfl | rfl <;> rfl
    · rw [upd_ne _ _ (by decide), z2 0 (by omega), y1 0 (by omega)]; exact hl1
    · rw [upd_ne _ _ (by decide), z2 9 (by omega)]; exact x2
    · rw [upd_ne _ _ (by decide), z2 10 (by omega)]; exact x5
    · unfold RVw
      rw [c2 5 (by decide) (by decide), c2 6 (by decide) (by decide), i2 5 (by decide), i2 6 (by decide)]; exact hw
  · rw [if_pos c1]
    refine ⟨r, f4, g4, b4, rfl, s2, v, ⟨hv, fun k hk => ?_, fun k hk => ?_⟩, ⟨l, hl, ?_, y0.trans hl2⟩, ⟨0, by decide, x2, x4, fun j hj => by omega⟩, x5, ?_, hc, ?_⟩
    · rw [y1 _ (by omega)]; exact hf k hk
    · rw [c2 1 (by decide), i2 1 (by decide)]; exact hb k hk
    · rw [y1 0 (by omega)]; exact hl1
    · unfold RVw
      rw [c2 5 (by decide), c2 6 (by decide), i2 5 (by decide), i2 6 (by decide)]; exact hw
    · unfold RSv
      rw [y1 31 (by omega), y1 32 (by omega), y1 33 (by omega)]; exact hsv
