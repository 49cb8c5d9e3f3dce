/-! the text: sets of words, the end of a clause -/
theorem set8_stop {ar : Nat → Nat → Int32} {s2 s3 : Nat} {fi : Nat → Int32} (h : ¬ fi 11 = 0) (N : Nat) (C S k : Int32) : f_X3_takeSet_6 ar s2 s3 (N + 1) C S k fi = some (S, fi) := by
  rw [f_X3_takeSet_6]
  by_cases c : C ≤ k
  · rw [if_pos c]
  · rw [if_neg c, if_neg h]
theorem set9_stop {br : Nat → Nat → Int32} {gi : Nat → Int32} (h : ¬ gi 5 = 0) (N : Nat) (C V S k : Int32) : f_X9_takeBits_5 br (N + 1) C V S k gi = some (S, gi) := by
  rw [f_X9_takeBits_5]
  by_cases c : C ≤ k
  · rw [if_pos c]
  · rw [if_neg c, if_neg h]
theorem sh1 {k : Nat} (hk : k < 8) : (1 : Int32) <<< (nI k &&& 31) = nI (2 ^ k) := by
  have := shl_ok (a := 1) (k := k) (by omega) (by
    have : 2 ^ k ≤ 2 ^ 8 := Nat.pow_le_pow_right (by decide) (by omega)
    omega)
  rw [Nat.one_mul] at this
  exact this
theorem sh0 {k : Nat} (hk : k < 8) : (0 : Int32) <<< (nI k &&& 31) = 0 := by
  have := shl_ok (a := 0) (k := k) (by omega) (by omega)
  rw [Nat.zero_mul] at this
  exact this
theorem or_lt {S k : Nat} (h : S < 2 ^ k) : S ||| 2 ^ k < 2 ^ (k + 1) := by
  have e : 2 ^ (k + 1) = 2 ^ k * 2 := Nat.pow_succ 2 k
  exact Nat.or_lt_two_pow (by omega) (by have := Nat.two_pow_pos k; omega)
def IW (w : List Nat) (gi : Nat → Int32) (br : Nat → Nat → Int32) : Option Int32 := f_X9_isWord gi br (nI w.length) (pkN w 0) (pkN w 1) (pkN w 2) (pkN w 3) (pkN w 4) (pkN w 5)
theorem set_loop {t : Nat → Nat} {n : Nat} {ar br : Nat → Nat → Int32} (hT8 : Tx t n ar) (hT9 : Tx t n br) {s2 s3 : Nat} {w2 w3 : List Nat} (k2 : WOk s2 w2) (k3 : WOk s3 w3) {C : Nat} (hC : C ≤ 8) (V : Int32)
    (hst : ∀ (N : Nat) (S k : Int32) (gi : Nat → Int32), ¬ nI C ≤ k → gi 5 = 0 → f_X9_takeBits_5 br (N + 1) (nI C) V S k gi = bind1 (f_X9_takeWord gi br) (fun g => bind1 (IW w3 g br) (fun y => bind1 (IW w2 g br) (fun z => f_X9_takeBits_96 br (f_X9_takeBits_5 br N) (nI C) V S k y z g)))) :
    ∀ (m N N' k S p : Nat) (fi gi : Nat → Int32), k + m = C → m < N → m < N' → GdS n p fi gi → S < 2 ^ k → ∃ x y fi' gi', f_X3_takeSet_6 ar s2 s3 N (nI C) (nI S) (nI k) fi = some (x, fi') ∧ f_X9_takeBits_5 br N' (nI C) V (nI S) (nI k) gi = some (y, gi') ∧ KR fi fi' ∧ KG gi gi' ∧ ((∃ p' a, GdS n p' fi' gi' ∧ a < 2 ^ C ∧ x = nI a ∧ y = nI a) ∨ FdS n fi' gi') := by
  intro m
  induction m with
  | zero =>
    intro N N' k S p fi gi hk hN hN' hG hS
    obtain ⟨N, rfl⟩ : ∃ z, N = z + 1 := ⟨N - 1, by omega⟩
    obtain ⟨N', rfl⟩ : ∃ z, N' = z + 1 := ⟨N' - 1, by omega⟩
    obtain rfl : k = C := by omega
    rw [f_X3_takeSet_6, f_X9_takeBits_5, if_pos (i32_refl _), if_pos (i32_refl _)]
    exact ⟨_, _, _, _, rfl, rfl, fun _ _ _ _ => rfl, fun _ _ => rfl, Or.inl ⟨p, S, hG, hS, rfl, rfl⟩⟩
  | succ m ih =>
    intro N N' k S p fi gi hk hN hN' hG hS
    obtain ⟨N, rfl⟩ : ∃ z, N = z + 1 := ⟨N - 1, by omega⟩
    obtain ⟨N', rfl⟩ : ∃ z, N' = z + 1 := ⟨N' - 1, by omega⟩
    obtain ⟨hp, h9, h1, h12, h2, h11, h5, h10⟩ := hG
    have hge : ¬ nI C ≤ nI k := nI_ge (by omega) (by omega)
    have b1 := SK_le (t := t) hp
    have b2 := LE_le (t := t) b1.2
    have t8 := tw8 hT8 k3 hp h9 h12
    obtain ⟨g1, e9, q2, q3, q4, qo⟩ := tw9 hT9 hp h1 h2
    have hid := SK_idem (t := t) hp
    obtain ⟨q, hq⟩ : ∃ q, q = SK t n p := ⟨_, rfl⟩
    rw [← hq] at b1 b2 t8 q2 q3 q4 hid
    obtain ⟨e, he⟩ : ∃ e, e = LE t n q := ⟨_, rfl⟩
    have t8b := tw8q hT8 k2 (fi := upd fi 12 (nI q)) b1.2 hid (by rw [upd_ne _ _ (by decide)]; exact h9) (upd_eq _ _ _)
    rw [← he] at b2 t8 q2 q4 t8b
    rw [upd_upd] at t8b
    have i3 : IW w3 g1 br = some (if wm t w3 q e = true then 1 else 0) := iw9 hT9 k3.1 (fun k hk => (k3.2.2 k hk).1) b2.1 b2.2 q3 q4
    have i2 : IW w2 g1 br = some (if wm t w2 q e = true then 1 else 0) := iw9 hT9 k2.1 (fun k hk => (k2.2.2 k hk).1) b2.1 b2.2 q3 q4
    have g5 : g1 5 = 0 := by rw [qo 5 (by decide) (by decide) (by decide)]; exact h5
    have g1n : g1 1 = nI n := by rw [qo 1 (by decide) (by decide) (by decide)]; exact h1
    have g6 : g1 6 = gi 6 := qo 6 (by decide) (by decide) (by decide)
    have KGg : KG gi g1 := fun k hk => qo k (by omega) (by omega) (by omega)
    have hGe : GdS n e (upd fi 12 (nI e)) g1 := ⟨b2.2, by rw [upd_ne _ _ (by decide)]; exact h9, g1n, upd_eq _ _ _, q2, by rw [upd_ne _ _ (by decide)]; exact h11, g5, by rw [upd_ne _ _ (by decide), g6]; exact h10⟩
    rw [hst N' _ _ gi hge h5, e9, bind1_some, i3, bind1_some, i2, bind1_some, f_X3_takeSet_6, if_neg hge, if_pos h11, t8]
    unfold f_X9_takeBits_96 f_X9_takeBits_109 f_X9_takeBits_114 f_X9_takeBits_136 f_X3_takeSet_56
    simp only [bindv_def]
    by_cases c3 : wm t w3 q e = true
    · rw [if_pos c3, if_pos c3, if_neg n10, want9_1 g5, bind2_some, bind2_some, if_neg n10, if_neg n10, show f_X9_one 1 = 1 from rfl, sh1 (by omega), nI_or, nI_1]
      obtain ⟨x, y, f2, g2, r1, r2, r3, r4, r5⟩ := ih N N' (k + 1) (S ||| 2 ^ k) e (upd fi 12 (nI e)) g1 (by omega) (by omega) (by omega) hGe (or_lt hS)
      exact ⟨x, y, f2, g2, r1, r2, (KR.one _).tr r3, KGg.tr r4, r5⟩
    · rw [if_neg c3, if_neg c3, if_pos rfl, bind2_some, if_pos rfl, t8b, show f_X9_one 0 = 0 from rfl, sh0 (by omega), Int32.or_zero, nI_1]
      by_cases c2 : wm t w2 q e = true
      · rw [if_pos c2, if_pos c2, if_neg n10, want9_1 g5, bind2_some, bind2_some, if_neg n10, if_neg n10]
        obtain ⟨x, y, f2, g2, r1, r2, r3, r4, r5⟩ := ih N N' (k + 1) S e (upd fi 12 (nI e)) g1 (by omega) (by omega) (by omega) hGe (by rw [Nat.pow_succ]; omega)
        exact ⟨x, y, f2, g2, r1, r2, (KR.one _).tr r3, KGg.tr r4, r5⟩
      · obtain ⟨N, rfl⟩ : ∃ z, N = z + 1 := ⟨N - 1, by omega⟩
        obtain ⟨N', rfl⟩ : ∃ z, N' = z + 1 := ⟨N' - 1, by omega⟩
        rw [if_neg c2, if_neg c2, if_pos rfl, q3, want9_0 g5 (by decide), bind2_some, bind2_some, if_pos rfl, if_pos rfl, upd_eq, blame8, bind1_some]
        have hF : FdS n (upd (upd (upd fi 12 (nI q)) 11 (nI 1)) 10 (nI q)) (upd (upd g1 5 (nI 1)) 6 (nI q)) := fd_mk b1.2 (by decide) (by decide) (by rw [upd_ne _ _ (by decide)]; exact h9) g1n (upd_eq _ _ _) _
        have z8 : ¬ upd (upd (upd fi 12 (nI q)) 11 1) 10 (nI q) 11 = 0 := by rw [upd_ne _ _ (by decide), upd_eq]; decide
        have z9 : ¬ upd (upd g1 5 1) 6 (nI q) 5 = 0 := by rw [upd_ne _ _ (by decide), upd_eq]; decide
        rw [set8_stop z8, set9_stop z9]
        exact ⟨_, _, _, _, rfl, rfl, KR.bl (KR.one _) _ _, KG.bl KGg _ _, Or.inr hF⟩
theorem way_ok {t : Nat → Nat} {n p : Nat} {ar br : Nat → Nat → Int32} (hT8 : Tx t n ar) (hT9 : Tx t n br) {fi gi : Nat → Int32} (h : GdS n p fi gi) : ∃ x y fi' gi', f_X3_takeSet fi ar 4 8 9 = some (x, fi') ∧ f_X9_takeBits gi br 4 1 = some (y, gi') ∧ KR fi fi' ∧ KG gi gi' ∧ ((∃ p' a, GdS n p' fi' gi' ∧ a < 2 ^ 4 ∧ x = nI a ∧ y = nI a) ∨ FdS n fi' gi') := by
  obtain ⟨F, hF⟩ : ∃ n : Nat, n = 5000 := ⟨_, rfl⟩
  unfold f_X3_takeSet f_X9_takeBits
  rw [← hF]
  exact set_loop hT8 hT9 wk8 wk9 (C := 4) (by decide) 1 (fun N S k g h1 h2 => by
    have h1' : ¬ (4 : Int32) ≤ k := h1
    show f_X9_takeBits_5 br (N + 1) 4 1 S k g = _
    rw [f_X9_takeBits_5, if_neg h1', if_pos h2]
    refine congrArg (bind1 _) (funext fun g' => ?_)
    rw [if_neg n10]
    unfold f_X9_takeBits_59
    refine congrArg (bind1 _) (funext fun y => ?_)
    rw [if_neg n10]
    rfl) 4 F F 0 0 p fi gi (by decide) (by omega) (by omega) h (by decide)
theorem naming_ok {t : Nat → Nat} {n p : Nat} {ar br : Nat → Nat → Int32} (hT8 : Tx t n ar) (hT9 : Tx t n br) {fi gi : Nat → Int32} (h : GdS n p fi gi) : ∃ x y fi' gi', f_X3_takeSet fi ar 8 10 11 = some (x, fi') ∧ f_X9_takeBits gi br 8 0 = some (y, gi') ∧ KR fi fi' ∧ KG gi gi' ∧ ((∃ p' a, GdS n p' fi' gi' ∧ a < 2 ^ 8 ∧ x = nI a ∧ y = nI a) ∨ FdS n fi' gi') := by
  obtain ⟨F, hF⟩ : ∃ n : Nat, n = 5000 := ⟨_, rfl⟩
  unfold f_X3_takeSet f_X9_takeBits
  rw [← hF]
  exact set_loop hT8 hT9 wk10 wk11 (C := 8) (by decide) 0 (fun N S k g h1 h2 => by
    have h1' : ¬ (8 : Int32) ≤ k := h1
    show f_X9_takeBits_5 br (N + 1) 8 0 S k g = _
    rw [f_X9_takeBits_5, if_neg h1', if_pos h2]
    refine congrArg (bind1 _) (funext fun g' => ?_)
    rw [if_pos rfl]
    unfold f_X9_takeBits_59
    refine congrArg (bind1 _) (funext fun y => ?_)
    rw [if_pos rfl]
    rfl) 8 F F 0 0 p fi gi (by decide) (by omega) (by omega) h (by decide)
theorem end_good {t : Nat → Nat} {n p : Nat} {ar br : Nat → Nat → Int32} (hT8 : Tx t n ar) (hT9 : Tx t n br) {fi gi : Nat → Int32} (h : GdS n p fi gi) : ∃ fi' gi', f_X3_takeEnd fi ar = some fi' ∧ f_X9_takeClause_154 gi br = some (gi', br) ∧ KR fi fi' ∧ KG gi gi' ∧ ((∃ p', GdS n p' fi' gi') ∨ FdS n fi' gi') := by
  obtain ⟨hp, h9, h1, h12, h2, h11, h5, h10⟩ := h
  have hn := hT8.1
  have b1 := SK_le (t := t) hp
  have k8 := sk8 hT8 hp h9 h12
  have k9 := hr9 hT9 hp h1 h2
  obtain ⟨q, hq⟩ : ∃ q, q = SK t n p := ⟨_, rfl⟩
  rw [← hq] at b1 k8 k9
  obtain ⟨g1, eg⟩ : ∃ z, z = upd gi 2 (nI q) := ⟨_, rfl⟩
  rw [← eg] at k9
  obtain ⟨f1, ef⟩ : ∃ z, z = upd fi 12 (nI q) := ⟨_, rfl⟩
  rw [← ef] at k8
  have g12 : g1 2 = nI q := by rw [eg, upd_eq]
  have g15 : g1 5 = 0 := by rw [eg, upd_ne _ _ (by decide)]; exact h5
  have g11 : g1 1 = nI n := by rw [eg, upd_ne _ _ (by decide)]; exact h1
  have g16 : g1 6 = gi 6 := by rw [eg, upd_ne _ _ (by decide)]
  have f112 : f1 12 = nI q := by rw [ef, upd_eq]
  have f19 : f1 9 = nI n := by rw [ef, upd_ne _ _ (by decide)]; exact h9
  have f111 : f1 11 = 0 := by rw [ef, upd_ne _ _ (by decide)]; exact h11
  have f110 : f1 10 = fi 10 := by rw [ef, upd_ne _ _ (by decide)]
  have K8 : KR fi f1 := by rw [ef]; exact KR.one _
  have K9 : KG gi g1 := fun k hk => by rw [eg, upd_ne _ _ (by omega)]
  unfold f_X3_takeEnd f_X9_takeClause_154 f_X3_takeEnd_50 f_X9_takeClause_183
  simp only [bindv_def]
  rw [if_pos h11, if_pos h5, k8, bind1_some, k9, bind2_some, f19, f112, g12]
  have bad : ∃ fi' gi', f_X3_blame f1 1 (nI q) = some fi' ∧ bind2 (f_X9_want g1 0 1 (nI q)) (fun r_1 fi_2 => some (upd fi_2 2 (nI q + f_X9_one r_1), br)) = some (gi', br) ∧ KR fi fi' ∧ KG gi gi' ∧ ((∃ p', GdS n p' fi' gi') ∨ FdS n fi' gi') := by
    rw [blame8, want9_0 g15 (by decide), bind2_some]
    have hF : FdS n (upd (upd f1 11 (nI 1)) 10 (nI q)) (upd (upd g1 5 (nI 1)) 6 (nI q)) := fd_mk b1.2 (by decide) (by decide) f19 g11 f112 _
    refine ⟨_, _, rfl, rfl, KR.bl K8 _ _, fun k hk => ?_, Or.inr ?_⟩
    · rw [upd_ne _ _ (by omega)]; exact KG.bl K9 _ _ k hk
    · obtain ⟨a1, a2, a3, a4, w, a5, a6, a7, a8⟩ := hF
      exact ⟨a1, by rw [upd_ne _ _ (by decide)]; exact a2, a3.trans (upd_ne _ _ (by decide)).symm, a4, w, a5, a6, a7, by rw [upd_ne _ _ (by decide)]; exact a8⟩
  by_cases c : q < n
  · have hb := (hT9.2 q c).1
    have e : hrI t n q = nI (t q) := if_pos c
    rw [if_neg (nI_ge (by omega) (by omega)), hT8.rd c, hT8.at c, e]
    by_cases d : nI (t q) = 59
    · rw [if_pos d, if_pos d, want9_1 g15, bind2_some, show f_X9_one 1 = 1 from rfl, nI_1]
      refine ⟨_, _, rfl, rfl, K8.tr (KR.one _), fun k hk => by rw [upd_ne _ _ (by omega)]; exact K9 k hk, Or.inl ⟨q + 1, ?_⟩⟩
      exact ⟨by omega, by rw [upd_ne _ _ (by decide)]; exact f19, by rw [upd_ne _ _ (by decide)]; exact g11, upd_eq _ _ _, upd_eq _ _ _, by rw [upd_ne _ _ (by decide)]; exact f111, by rw [upd_ne _ _ (by decide)]; exact g15, by rw [upd_ne _ _ (by decide), upd_ne _ _ (by decide), f110, g16]; exact h10⟩
    · rw [if_neg d, if_neg d]
      obtain ⟨f2, g2, x1, x2, x3⟩ := bad
      rw [x1, bind1_some]
      exact ⟨f2, g2, rfl, x2, x3⟩
  · have e : hrI t n q = -1 := if_neg c
    rw [if_pos (nI_le (by omega) (by omega)), e, if_neg (by decide)]
    obtain ⟨f2, g2, x1, x2, x3⟩ := bad
    rw [x1, bind1_some]
    exact ⟨f2, g2, rfl, x2, x3⟩
theorem end_bad {n : Nat} {ar br : Nat → Nat → Int32} {fi gi : Nat → Int32} (h : FdS n fi gi) : f_X3_takeEnd fi ar = some fi ∧ f_X9_takeClause_154 gi br = some (gi, br) := by
  obtain ⟨-, -, -, -, w, w0, w4, h11, h5⟩ := h
  unfold f_X3_takeEnd f_X9_takeClause_154
  rw [if_neg (by rw [h11]; exact nI_ne0 (by omega) (by omega)), if_neg (by rw [h5]; exact nI_ne0 (by omega) (by omega))]
  exact ⟨rfl, rfl⟩
