/-! the text: states, numbers -/
def GdS (n p : Nat) (fi gi : Nat → Int32) : Prop := p ≤ n ∧ fi 9 = nI n ∧ gi 1 = nI n ∧ fi 12 = nI p ∧ gi 2 = nI p ∧ fi 11 = 0 ∧ gi 5 = 0 ∧ fi 10 = gi 6
def FdS (n : Nat) (fi gi : Nat → Int32) : Prop := fi 9 = nI n ∧ gi 1 = nI n ∧ fi 10 = gi 6 ∧ (∃ p, p ≤ n ∧ fi 12 = nI p) ∧ ∃ w, 0 < w ∧ w < 4 ∧ fi 11 = nI w ∧ gi 5 = nI w
def KR (fi fi' : Nat → Int32) : Prop := ∀ k, k ≠ 10 → k ≠ 11 → k ≠ 12 → fi' k = fi k
def KG (gi gi' : Nat → Int32) : Prop := ∀ k, k < 2 ∨ 6 < k → gi' k = gi k
theorem KR.tr {a b c : Nat → Int32} (h : KR a b) (h' : KR b c) : KR a c := fun k x y z => (h' k x y z).trans (h k x y z)
theorem KG.tr {a b c : Nat → Int32} (h : KG a b) (h' : KG b c) : KG a c := fun k x => (h' k x).trans (h k x)
theorem KR.one {fi : Nat → Int32} (x : Int32) : KR fi (upd fi 12 x) := fun k _ _ h => upd_ne _ _ h
theorem blame8 (fi : Nat → Int32) (a b : Int32) : f_X3_blame fi a b = some (upd (upd fi 11 a) 10 b) := rfl
theorem want9_0 {gi : Nat → Int32} (h5 : gi 5 = 0) {a : Int32} (ha : ¬ a = 0) (b : Int32) : f_X9_want gi 0 a b = some (0, upd (upd gi 5 a) 6 b) := by
  unfold f_X9_want f_X9_want_21
  simp only [bindv_def]
  rw [if_pos trivial, if_pos h5, upd_ne _ _ (by decide), upd_eq, if_neg ha]
theorem want9_1 {gi : Nat → Int32} (h5 : gi 5 = 0) (a b : Int32) : f_X9_want gi 1 a b = some (1, gi) := by
  unfold f_X9_want f_X9_want_21
  rw [if_neg n10, if_pos h5]
/-- a fault told of both -/
theorem fd_mk {n p w : Nat} {fi gi : Nat → Int32} (hp : p ≤ n) (w0 : 0 < w) (w4 : w < 4) (h9 : fi 9 = nI n) (h1 : gi 1 = nI n) (h12 : fi 12 = nI p) (b : Int32) : FdS n (upd (upd fi 11 (nI w)) 10 b) (upd (upd gi 5 (nI w)) 6 b) := by
  refine ⟨?_, ?_, ?_, ⟨p, hp, ?_⟩, w, w0, w4, ?_, ?_⟩
  · rw [upd_ne _ _ (by decide), upd_ne _ _ (by decide)]; exact h9
  · rw [upd_ne _ _ (by decide), upd_ne _ _ (by decide)]; exact h1
  · rw [upd_eq, upd_eq]
  · rw [upd_ne _ _ (by decide), upd_ne _ _ (by decide)]; exact h12
  · rw [upd_ne _ _ (by decide), upd_eq]
  · rw [upd_ne _ _ (by decide), upd_eq]
theorem KR.bl {fi fi' : Nat → Int32} (h : KR fi fi') (a b : Int32) : KR fi (upd (upd fi' 11 a) 10 b) := fun k x y z => by rw [upd_ne _ _ x, upd_ne _ _ y]; exact h k x y z
theorem KG.bl {gi gi' : Nat → Int32} (h : KG gi gi') (a b : Int32) : KG gi (upd (upd gi' 5 a) 6 b) := fun k x => by rw [upd_ne _ _ (by omega), upd_ne _ _ (by omega)]; exact h k x
def vl (t : Nat → Nat) (q : Nat) : Nat → Nat
  | 0 => 0
  | k + 1 => 10 * vl t q k + (t (q + k) - 48)
theorem vl_lt {t : Nat → Nat} {q k : Nat} (h : vl t q k < 10 ^ k) (hd : dg (t (q + k)) = true) : vl t q (k + 1) < 10 ^ (k + 1) := by
  unfold dg at hd
  rw [decide_eq_true_eq] at hd
  rw [vl, Nat.pow_succ]
  omega
theorem vl_add {t : Nat → Nat} {q k : Nat} (hd : dg (t (q + k)) = true) : ((10 * nI (vl t q k)) + nI (t (q + k)) - 48 : Int32) = nI (vl t q (k + 1)) := by
  unfold dg at hd
  rw [decide_eq_true_eq] at hd
  rw [lit_nI 10, lit_nI 48, pk_mul, nI_add, pk_sub (by omega), vl]
  exact congrArg nI (by omega)
theorem num8_loop {t : Nat → Nat} {n : Nat} {ar : Nat → Nat → Int32} (hT : Tx t n ar) {q : Nat} (T : Int32) : ∀ (m N k : Nat) (v : Int32) (fi : Nat → Int32), q + k + m = n → m < N → fi 9 = nI n → fi 12 = nI (q + k) → (k ≤ 2 → v = nI (vl t q k) ∧ vl t q k < 10 ^ k) →
    ∃ v', f_X3_takeNumber_11 ar N T (nI q) v fi = f_X3_takeNumber_76 ar T (nI q) v' (upd fi 12 (nI (wh dg t m (q + k)))) ∧ (wh dg t m (q + k) - q ≤ 2 → v' = nI (vl t q (wh dg t m (q + k) - q)) ∧ vl t q (wh dg t m (q + k) - q) < 100) := by
  have fin : ∀ (k : Nat) (v : Int32), (k ≤ 2 → v = nI (vl t q k) ∧ vl t q k < 10 ^ k) → (q + k - q ≤ 2 → v = nI (vl t q (q + k - q)) ∧ vl t q (q + k - q) < 100) := by
    intro k v hv h
    rw [Nat.add_sub_cancel_left] at h ⊢
    obtain ⟨a, b⟩ := hv h
    refine ⟨a, ?_⟩
    have : 10 ^ k ≤ 10 ^ 2 := Nat.pow_le_pow_right (by decide) h
    omega
  intro m
  induction m with
  | zero =>
    intro N k v fi hk hN h9 h12 hv
    obtain ⟨N, rfl⟩ : ∃ z, N = z + 1 := ⟨N - 1, by omega⟩
    have := hT.1
    refine ⟨v, ?_, fin k v hv⟩
    rw [f_X3_takeNumber_11, h9, h12, if_pos (nI_le (by omega) (by omega)), wh, upd_self h12]
  | succ m ih =>
    intro N k v fi hk hN h9 h12 hv
    obtain ⟨N, rfl⟩ : ∃ z, N = z + 1 := ⟨N - 1, by omega⟩
    have := hT.1
    have hb := (hT.2 (q + k) (by omega)).1
    rw [f_X3_takeNumber_11, h9, h12, if_neg (nI_ge (by omega) (by omega)), hT.rd (by omega), hT.at (by omega), bindv_def, wh]
    by_cases c : dg (t (q + k)) = true
    · rw [if_neg (fun z => (dg_dec _ hb).mp z c), if_pos c, hT.rd (by omega), bindv_def, bindv_def, nI_1]
      obtain ⟨v', r1, r2⟩ := ih N (k + 1) ((10 * v + nI (t (q + k)) - 48) - (10 * v + nI (t (q + k)) - 48) / 1000 * 1000) (upd fi 12 (nI (q + k + 1))) (by omega) (by omega) (by rw [upd_ne _ _ (by decide)]; exact h9) (upd_eq _ _ _) (fun hk2 => by
        obtain ⟨hv1, hv2⟩ := hv (by omega)
        have hl := vl_lt hv2 c
        have hl3 : vl t q (k + 1) < 1000 := by
          have : 10 ^ (k + 1) ≤ 10 ^ 2 := Nat.pow_le_pow_right (by decide) hk2
          omega
        rw [hv1, vl_add c, lit_nI 1000, pk_rem (a := vl t q (k + 1)) (d := 1000) (by omega) (by decide) (by decide), Nat.mod_eq_of_lt hl3]
        exact ⟨rfl, hl⟩)
      rw [upd_upd] at r1
      exact ⟨v', r1, r2⟩
    · rw [if_pos ((dg_dec _ hb).mpr c), if_neg c, upd_self h12]
      exact ⟨v, rfl, fin k v hv⟩
theorem num9_loop {t : Nat → Nat} {n : Nat} {br : Nat → Nat → Int32} (hT : Tx t n br) {q : Nat} (Z T : Int32) : ∀ (m N k : Nat) (v : Int32) (gi : Nat → Int32), q + k + m = n → m < N → gi 1 = nI n → gi 2 = nI (q + k) → (k ≤ 2 → v = nI (vl t q k) ∧ vl t q k < 10 ^ k) →
    ∃ v', f_X9_takeNumber_50 br N Z T v gi = f_X9_takeNumber_129 br Z T v' (upd gi 2 (nI (wh dg t m (q + k)))) ∧ (wh dg t m (q + k) - q ≤ 2 → v' = nI (vl t q (wh dg t m (q + k) - q)) ∧ vl t q (wh dg t m (q + k) - q) < 100) := by
  have fin : ∀ (k : Nat) (v : Int32), (k ≤ 2 → v = nI (vl t q k) ∧ vl t q k < 10 ^ k) → (q + k - q ≤ 2 → v = nI (vl t q (q + k - q)) ∧ vl t q (q + k - q) < 100) := by
    intro k v hv h
    rw [Nat.add_sub_cancel_left] at h ⊢
    obtain ⟨a, b⟩ := hv h
    refine ⟨a, ?_⟩
    have : 10 ^ k ≤ 10 ^ 2 := Nat.pow_le_pow_right (by decide) h
    omega
  intro m
  induction m with
  | zero =>
    intro N k v gi hk hN h9 h12 hv
    obtain ⟨N, rfl⟩ : ∃ z, N = z + 1 := ⟨N - 1, by omega⟩
    have := hT.1
    refine ⟨v, ?_, fin k v hv⟩
    rw [f_X9_takeNumber_50, h9, h12, if_pos (nI_le (by omega) (by omega)), wh, upd_self h12]
  | succ m ih =>
    intro N k v gi hk hN h9 h12 hv
    obtain ⟨N, rfl⟩ : ∃ z, N = z + 1 := ⟨N - 1, by omega⟩
    have := hT.1
    have hb := (hT.2 (q + k) (by omega)).1
    rw [f_X9_takeNumber_50, h9, h12, if_neg (nI_ge (by omega) (by omega)), hT.rd (by omega), hT.at (by omega), bindv_def, dg9, wh]
    by_cases c : dg (t (q + k)) = true
    · rw [if_neg (fun z => (dg_dec _ hb).mp z c), if_pos c, hT.rd (by omega)]
      unfold f_X9_takeNumber_114
      simp only [bindv_def]
      rw [h12, nI_1]
      obtain ⟨v1, hv1⟩ : ∃ v1, v1 = (if v ≤ 999 then (10 * v + nI (t (q + k)) - 48 : Int32) else v) := ⟨_, rfl⟩
      obtain ⟨v', r1, r2⟩ := ih N (k + 1) v1 (upd gi 2 (nI (q + k + 1))) (by omega) (by omega) (by rw [upd_ne _ _ (by decide)]; exact h9) (upd_eq _ _ _) (fun hk2 => by
        obtain ⟨hv1', hv2⟩ := hv (by omega)
        have hl := vl_lt hv2 c
        have hl3 : vl t q k < 100 := by
          have : 10 ^ k ≤ 10 ^ 2 := Nat.pow_le_pow_right (by decide) (by omega)
          omega
        rw [hv1, hv1', if_pos (show nI (vl t q k) ≤ (999 : Int32) from nI_le (a := vl t q k) (b := 999) (by omega) (by decide)), vl_add c]
        exact ⟨rfl, hl⟩)
      rw [upd_upd] at r1
      refine ⟨v', ?_, r2⟩
      refine Eq.trans ?_ r1
      rw [hv1]
      by_cases d : v ≤ 999
      · rw [if_pos d, if_pos d]
      · rw [if_neg d, if_neg d]
    · rw [if_pos ((dg_dec _ hb).mpr c), if_neg c, upd_self h12]
      exact ⟨v, rfl, fin k v hv⟩
theorem in0 {a T : Nat} (ha : a < 2 ^ 31) (hT : T < 2 ^ 31) : f_X9_in (Int32.toInt64 (nI a)) (Int32.toInt64 0) (Int32.toInt64 (nI T)) = if a ≤ T then 1 else 0 := by
  rw [within_in (nI a) 0 (nI T) (Int32.toInt64 0) (Int32.toInt64 (nI T)) (by decide) (by rw [Int32.toInt_toInt64])]
  unfold f_X8_within
  rw [if_neg (nI_pos ha)]
  by_cases c : a ≤ T
  · rw [if_neg (nI_nlt c hT), if_pos c]
  · rw [if_pos (nI_lt (by omega) ha), if_neg c]
theorem dg_hr {t : Nat → Nat} {n q : Nat} (hb : q < n → t q < 256) (hq : q ≤ n) : (f_X9_in (Int32.toInt64 (hrI t n q)) 48 57 = 0 ∧ DG t n q = q) ∨ (f_X9_in (Int32.toInt64 (hrI t n q)) 48 57 = 1 ∧ q < DG t n q) := by
  rw [dg9]
  unfold hrI DG
  by_cases c : q < n
  · rw [if_pos c]
    obtain ⟨m, hm⟩ : ∃ m, n - q = m + 1 := ⟨n - q - 1, by omega⟩
    rw [hm, wh]
    by_cases d : dg (t q) = true
    · right
      rw [if_pos d]
      have := wh_le dg t m (q + 1)
      refine ⟨?_, by omega⟩
      have e : ∀ z : Int32, ¬ z = 0 → (z = 0 ∨ z = 1) → z = 1 := fun z h1 h2 => h2.resolve_left h1
      refine e _ (fun z => (dg_dec _ (hb c)).mp z d) ?_
      unfold f_X8_within
      split
      · exact Or.inl rfl
      · split
        · exact Or.inl rfl
        · exact Or.inr rfl
    · left
      rw [if_neg d]
      exact ⟨(dg_dec _ (hb c)).mpr d, rfl⟩
  · rw [if_neg c]
    left
    refine ⟨by decide, ?_⟩
    rw [show n - q = 0 by omega]; rfl
theorem num_ok {t : Nat → Nat} {n p : Nat} {ar br : Nat → Nat → Int32} (hT8 : Tx t n ar) (hT9 : Tx t n br) {fi gi : Nat → Int32} (h : GdS n p fi gi) {T : Nat} (hT : T ≤ 99) : ∃ x y fi' gi', f_X3_takeNumber fi ar (nI T) = some (x, fi') ∧ f_X9_takeNumber gi br 0 (nI T) = some (y, gi') ∧ KR fi fi' ∧ KG gi gi' ∧ ((∃ p' a, GdS n p' fi' gi' ∧ a ≤ T ∧ x = nI a ∧ y = nI a) ∨ FdS n fi' gi') := by
  obtain ⟨hp, h9, h1, h12, h2, h11, h5, h10⟩ := h
  obtain ⟨F, hF⟩ : ∃ n : Nat, n = 5000 := ⟨_, rfl⟩
  have hn := hT8.1
  have b1 := SK_le (t := t) hp
  have b2 := DG_le (t := t) b1.2
  obtain ⟨q, hq⟩ : ∃ q, q = SK t n p := ⟨_, rfl⟩
  obtain ⟨e, he⟩ : ∃ e, e = DG t n q := ⟨_, rfl⟩
  have k8 := sk8 hT8 hp h9 h12
  have k9 := hr9 hT9 hp h1 h2
  rw [← hq] at b1 b2 k8 k9
  have he' : wh dg t (n - q) (q + 0) = e := by rw [he]; rfl
  rw [← he] at b2
  obtain ⟨v8, r1, r2⟩ := num8_loop hT8 (q := q) (nI T) (n - q) F 0 0 (upd fi 12 (nI q)) (by omega) (by omega) (by rw [upd_ne _ _ (by decide)]; exact h9) (upd_eq _ _ _) (fun _ => ⟨rfl, Nat.zero_lt_one⟩)
  rw [he', upd_upd] at r1
  rw [he'] at r2
  obtain ⟨g1, eg1⟩ : ∃ z, z = upd (upd gi 2 (nI q)) 3 (nI q) := ⟨_, rfl⟩
  have kg : ∀ k, g1 k = if k = 3 then nI q else if k = 2 then nI q else gi k := by intro k; rw [eg1]; rfl
  have g15 : g1 5 = 0 := by rw [kg]; exact h5
  have g12 : g1 2 = nI q := by rw [kg]; rfl
  have g11 : g1 1 = nI n := by rw [kg]; exact h1
  have KGg : KG gi g1 := fun k hk => by rw [kg, if_neg (by omega), if_neg (by omega)]
  have e8 : f_X3_takeNumber fi ar (nI T) = f_X3_takeNumber_76 ar (nI T) (nI q) v8 (upd fi 12 (nI e)) := by
    unfold f_X3_takeNumber
    rw [k8, bind1_some, bindv_def, upd_eq, ← hF]
    exact r1
  have sub : (nI e - nI q : Int32) = nI (e - q) := pk_sub b2.1
  rcases dg_hr (t := t) (n := n) (q := q) (fun c => (hT9.2 q c).1) b1.2 with ⟨d1, d2⟩ | ⟨d1, d2⟩
  · rw [← he] at d2
    refine ⟨v8, 0, upd (upd (upd fi 12 (nI e)) 11 (nI 1)) 10 (nI q), upd (upd g1 5 (nI 1)) 6 (nI q), ?_, ?_, KR.bl (KR.one _) _ _, KG.bl KGg _ _, Or.inr (fd_mk b2.2 (by decide) (by decide) (by rw [upd_ne _ _ (by decide)]; exact h9) g11 (upd_eq _ _ _) _)⟩
    · rw [e8]
      unfold f_X3_takeNumber_76
      simp only [bindv_def]
      rw [upd_eq, sub, d2, Nat.sub_self, if_pos (by decide), blame8, bind1_some]
      rfl
    · unfold f_X9_takeNumber
      rw [if_pos (by rw [h5]; decide), k9, bind2_some, bindv_def, bindv_def, upd_eq, ← eg1, d1, g12, want9_0 g15 (by decide), bind2_some, if_pos rfl]
      rfl
  · rw [← he] at d2
    obtain ⟨v9, s1, s2⟩ := num9_loop hT9 (q := q) 0 (nI T) (n - q) F 0 0 g1 (by omega) (by omega) g11 g12 (fun _ => ⟨rfl, Nat.zero_lt_one⟩)
    rw [he'] at s1 s2
    obtain ⟨g2, eg2⟩ : ∃ z, z = upd g1 2 (nI e) := ⟨_, rfl⟩
    rw [← eg2] at s1
    have g25 : g2 5 = 0 := by rw [eg2, upd_ne _ _ (by decide)]; exact g15
    have g22 : g2 2 = nI e := by rw [eg2, upd_eq]
    have g23 : g2 3 = nI q := by rw [eg2, upd_ne _ _ (by decide), kg]; rfl
    have g21 : g2 1 = nI n := by rw [eg2, upd_ne _ _ (by decide)]; exact g11
    have g26 : g2 6 = gi 6 := by rw [eg2, upd_ne _ _ (by decide), kg]; rfl
    have KGg2 : KG gi g2 := fun k hk => by rw [eg2, upd_ne _ _ (by omega)]; exact KGg k hk
    have e9 : f_X9_takeNumber gi br 0 (nI T) = f_X9_takeNumber_129 br 0 (nI T) v9 g2 := by
      unfold f_X9_takeNumber
      rw [if_pos (by rw [h5]; decide), k9, bind2_some, bindv_def, bindv_def, upd_eq, ← eg1, d1, want9_1 g15, bind2_some, if_neg n10, ← hF]
      exact s1
    have bad8 : f_X3_takeNumber_109 ar (nI q) v8 (upd fi 12 (nI e)) = some (v8, upd (upd (upd fi 12 (nI e)) 11 (nI 2)) 10 (nI q)) := rfl
    have bad9 : f_X9_takeNumber_160 br v9 g2 = some (v9, upd (upd g2 5 (nI 2)) 6 (nI q)) := by
      unfold f_X9_takeNumber_160 f_X9_takeNumber_161
      rw [g23, want9_0 g25 (by decide), bind2_some]
      rfl
    have hbad : FdS n (upd (upd (upd fi 12 (nI e)) 11 (nI 2)) 10 (nI q)) (upd (upd g2 5 (nI 2)) 6 (nI q)) := fd_mk b2.2 (by decide) (by decide) (by rw [upd_ne _ _ (by decide)]; exact h9) g21 (upd_eq _ _ _) _
    rw [e8, e9]
    unfold f_X3_takeNumber_76 f_X9_takeNumber_129
    simp only [bindv_def]
    rw [upd_eq, sub, g22, g23, sub, if_neg (nI_ne0 (by omega) (by omega))]
    by_cases c : e - q ≤ 2
    · obtain ⟨x1, x2⟩ := r2 c
      obtain ⟨y1, y2⟩ := s2 c
      rw [if_neg (show ¬ (2 : Int32) < nI (e - q) from nI_nlt (a := 2) (b := e - q) c (by decide)), if_neg (show ¬ (3 : Int32) ≤ nI (e - q) from nI_ge (a := e - q) (b := 3) (by omega) (by decide)), bad8, bad9, x1, y1, in0 (by omega) (by omega)]
      by_cases d : vl t q (e - q) ≤ T
      · rw [if_pos (nI_le d (by omega)), if_pos d, if_neg n10]
        unfold f_X9_takeNumber_161
        rw [want9_1 g25, bind2_some]
        exact ⟨_, _, _, _, rfl, rfl, KR.one _, KGg2, Or.inl ⟨e, vl t q (e - q), ⟨b2.2, by rw [upd_ne _ _ (by decide)]; exact h9, g21, upd_eq _ _ _, g22, by rw [upd_ne _ _ (by decide)]; exact h11, g25, by rw [upd_ne _ _ (by decide), g26]; exact h10⟩, d, rfl, rfl⟩⟩
      · rw [if_neg (nI_ge (by omega) (by omega)), if_neg d, if_pos rfl]
        exact ⟨_, _, _, _, rfl, rfl, KR.bl (KR.one _) _ _, KG.bl KGg2 _ _, Or.inr hbad⟩
    · rw [if_pos (show (2 : Int32) < nI (e - q) from nI_lt (a := 2) (b := e - q) (by omega) (by omega)), if_pos (show (3 : Int32) ≤ nI (e - q) from nI_le (a := 3) (b := e - q) (by omega) (by omega)), bad8, bad9]
      exact ⟨_, _, _, _, rfl, rfl, KR.bl (KR.one _) _ _, KG.bl KGg2 _ _, Or.inr hbad⟩
