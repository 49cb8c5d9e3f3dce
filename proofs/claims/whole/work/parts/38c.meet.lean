/-! meet, forget -/
theorem xor_b : ∀ d, d < 2 → ∀ b, b < 2 → (nI d ^^^ nI b : Int32) = nI ((d + b) % 2) := by decide +kernel
theorem meet_loop {v : Nat → Nat} {fi : Nat → Int32} (h7 : v 7 ≤ 255) (e8 : fi 8 = nI (v 7)) {a b w d : Nat} (ha : a < 6) (hb : b < 6) (hw : w < 64) (hd : d < 2) {k : Nat → Nat} :
    ∀ (m n n' p : Nat) (ar br : Nat → Nat → Int32) (g : Nat → Nat), p + m = 6 → m < n → m < n' → br 1 7 = nI (v 7) → RV1 ar br g k →
      ∃ ar' br' g', f_X5_meeting_28 fi n (nI a) (nI b) (nI w) (nI d) (nI p) ar = some (nI d, ar') ∧ f_X9_meet_62 n' (nI a) (nI b) (nI w) (nI d) (nI p) br = some (nI d, br') ∧ RV1 ar' br' g' k ∧ (∀ q, q ≠ 16 → ar' q = ar q) ∧ (∀ q, q ≠ 5 → br' q = br q) := by
  intro m
  induction m with
  | zero =>
    intro n n' p ar br g hp hn hn' h1 hv
    obtain ⟨n, rfl⟩ : ∃ z, n = z + 1 := ⟨n - 1, by omega⟩
    obtain ⟨n', rfl⟩ : ∃ z, n' = z + 1 := ⟨n' - 1, by omega⟩
    obtain rfl : p = 6 := by omega
    refine ⟨ar, br, g, ?_, ?_, hv, fun _ _ => rfl, fun _ _ => rfl⟩
    · rw [f_X5_meeting_28, if_pos (by decide)]
    · rw [f_X9_meet_62, if_pos (by decide)]
  | succ m ih =>
    intro n n' p ar br g hp hn hn' h1 hv
    obtain ⟨n, rfl⟩ : ∃ z, n = z + 1 := ⟨n - 1, by omega⟩
    obtain ⟨n', rfl⟩ : ∃ z, n' = z + 1 := ⟨n' - 1, by omega⟩
    have hl : ¬ ((6 : Int32) ≤ nI p) := nI_ge (a := p) (b := 6) (by omega) (by decide)
    have b1 := bN_lt (g p) a
    have b2 := bN_lt (g p) b
    obtain ⟨t, ht⟩ : ∃ t, t = bN (v 7) (4 * bN (g p) a + 2 * bN (g p) b + (d + bN w p) % 2) := ⟨_, rfl⟩
    have ht2 : t < 2 := by rw [ht]; exact bN_lt _ _
    obtain ⟨ar', br', g', r1, r2, r3, r4, r5⟩ := ih n n' (p + 1) _ _ _ (by omega) (by omega) (by omega) (by rw [updA_ne _ _ (by decide)]; exact h1) (RV1.put hv (by omega : p < 6) ha ht2)
    refine ⟨ar', br', g', ?_, ?_, r3, fun q h => (r4 q h).trans (updA_ne _ _ h), fun q h => (r5 q h).trans (updA_ne _ _ h)⟩
    · rw [f_X5_meeting_28, if_neg hl]
      dsimp only [bindv]
      rw [bit8 (by omega) (by omega), xor_b d hd _ (bN_lt _ _), name8 hv (by omega) ha, bind1_some, name8 hv (by omega) hb, bind1_some, e8, lit_nI 4, lit_nI 2, pk_mul, pk_mul, nI_add, nI_add, bit8 (by omega) (by omega), ← ht, put_ok hv (by omega) ha ht2, bind1_some, nI_1]
      exact r1
    · rw [f_X9_meet_62, if_neg hl]
      dsimp only [bindv]
      rw [show ((nI w >>> (nI p &&& 31)) &&& 1) = nI (bN w p) from bit_ok (by omega) (by omega), xor_b d hd _ (bN_lt _ _), nameOf_ok hv (by omega) ha, bind1_some, nameOf_ok hv (by omega) hb, bind1_some, show br 1 (Int32.toNatClampNeg 7) = nI (v 7) from h1, calls_ok (by omega) b1 b2 (by omega), ← ht, ix_ok]
      unfold f_X9_meet_126
      dsimp only [bindv]
      rw [gd_nI (by omega) (by decide), gd_nI (by omega) (by decide), clampN (by omega), nI_1]
      rcases (show t = 0 ∨ t = 1 by omega) with z | z
      · rw [z, if_neg (by decide)]
        rw [z] at r2
        exact r2
      · rw [z, if_pos (by decide)]
        rw [z] at r2
        exact r2
theorem pair9 (a0 a1 : Int32) : f_X5_arePair a0 a1 = 0 ∨ (f_X5_arePair a0 a1 = 1 ∧ ∃ a b, a < 6 ∧ b < 6 ∧ a ≠ b ∧ a0 = nI a ∧ a1 = nI b) := by
  unfold f_X5_arePair
  dsimp only [bindv]
  rcases person_c a0 with q | ⟨q, a, ha, rfl⟩
  · rw [q, if_pos rfl]; exact Or.inl rfl
  rw [q, if_neg n10]
  rcases person_c a1 with q1 | ⟨q1, b, hb, rfl⟩
  · rw [q1, if_pos rfl]; exact Or.inl rfl
  rw [q1, if_neg n10]
  by_cases z : nI a = nI b
  · rw [if_pos z]; exact Or.inl rfl
  · rw [if_neg z]
    exact Or.inr ⟨rfl, a, b, ha, hb, fun e => z (by rw [e]), rfl, rfl⟩
theorem arePair_def (a0 a1 : Int32) : f_X5_arePair a0 a1 = (if f_X5_isPerson a0 = 0 then 0 else if f_X5_isPerson a1 = 0 then 0 else if a0 = a1 then 0 else 1) := rfl
theorem pairM {α : Type} (x y : α) (a0 a1 : Int32) : (if f_X5_isPerson a0 = 0 then x else if f_X5_isPerson a1 = 0 then x else if a0 = a1 then x else y) = if f_X5_arePair a0 a1 = 0 then x else y := by
  have e := arePair_def a0 a1
  by_cases q : f_X5_isPerson a0 = 0
  · rw [if_pos q] at e
    rw [if_pos q, if_pos e]
  rw [if_neg q] at e
  rw [if_neg q]
  by_cases q1 : f_X5_isPerson a1 = 0
  · rw [if_pos q1] at e
    rw [if_pos q1, if_pos e]
  rw [if_neg q1] at e
  rw [if_neg q1]
  by_cases z : a0 = a1
  · rw [if_pos z] at e
    rw [if_pos z, if_pos e]
  · rw [if_neg z] at e
    rw [if_neg z, if_neg (by rw [e]; exact n10)]
theorem bc_ok : ∀ g, g < 64 → f_J6_bitCount_0f7a4 (nI g) = nI (bN g 0 + bN g 1 + bN g 2 + bN g 3 + bN g 4 + bN g 5) := by decide +kernel
/-- how many names are bad among those from p on -/
def badS (g : Nat → Nat) : Nat → Nat → Nat
  | 0, _ => 0
  | m + 1, p => (6 - (bN (g p) 0 + bN (g p) 1 + bN (g p) 2 + bN (g p) 3 + bN (g p) 4 + bN (g p) 5)) + badS g m (p + 1)
theorem clear_loop {br : Nat → Nat → Int32} {g k : Nat → Nat} : ∀ (m n p c : Nat) (ar : Nat → Nat → Int32), p + m = 6 → m < n → (∀ q, p ≤ q → q < 6 → g q < 64 ∧ ar 16 q = nI (g q)) →
    ∃ ar', f_X5_clear_4 n (nI c) (nI p) ar = some (nI (c + badS g m p), ar') ∧ (∀ q, q ≠ 16 → q ≠ 17 → ar' q = ar q) ∧ (∀ q, q < p → ar' 16 q = ar 16 q ∧ ar' 17 q = ar 17 q) ∧ ∀ q, p ≤ q → q < 6 → ar' 16 q = nI 63 ∧ ar' 17 q = nI 0 := by
  intro m
  induction m with
  | zero =>
    intro n p c ar hp hn hg
    obtain ⟨n, rfl⟩ : ∃ z, n = z + 1 := ⟨n - 1, by omega⟩
    obtain rfl : p = 6 := by omega
    refine ⟨ar, ?_, fun _ _ _ => rfl, fun _ _ => ⟨rfl, rfl⟩, fun q h1 h2 => by omega⟩
    rw [f_X5_clear_4, if_pos (by decide)]
    rfl
  | succ m ih =>
    intro n p c ar hp hn hg
    obtain ⟨n, rfl⟩ : ∃ z, n = z + 1 := ⟨n - 1, by omega⟩
    have hl : ¬ ((6 : Int32) ≤ nI p) := nI_ge (a := p) (b := 6) (by omega) (by decide)
    obtain ⟨g1, g2⟩ := hg p (Nat.le_refl _) (by omega)
    obtain ⟨a1, ea1⟩ : ∃ z, z = updA ar 16 (upd (ar 16) p 63) := ⟨_, rfl⟩
    obtain ⟨a2, ea2⟩ : ∃ z, z = updA a1 17 (upd (a1 17) p 0) := ⟨_, rfl⟩
    have q16 : ∀ i, a2 16 i = if i = p then nI 63 else ar 16 i := fun i => by rw [ea2, updA_ne _ _ (by decide), ea1, updA_eq]; rfl
    have q17 : ∀ i, a2 17 i = if i = p then nI 0 else ar 17 i := fun i => by rw [ea2, updA_eq, ea1, updA_ne _ _ (by decide)]; rfl
    have qo : ∀ q, q ≠ 16 → q ≠ 17 → a2 q = ar q := fun q h h' => by rw [ea2, updA_ne _ _ h', ea1, updA_ne _ _ h]
    have t0 := bN_lt (g p) 0
    have t1 := bN_lt (g p) 1
    have t2 := bN_lt (g p) 2
    have t3 := bN_lt (g p) 3
    have t4 := bN_lt (g p) 4
    have t5 := bN_lt (g p) 5
    obtain ⟨ar', r1, r2, r3, r4⟩ := ih n (p + 1) (c + (6 - (bN (g p) 0 + bN (g p) 1 + bN (g p) 2 + bN (g p) 3 + bN (g p) 4 + bN (g p) 5))) a2 (by omega) (by omega) (fun q h1 h2 => by rw [q16, if_neg (by omega)]; exact hg q (by omega) h2)
    refine ⟨ar', ?_, fun q h h' => (r2 q h h').trans (qo q h h'), fun q hq => ?_, fun q h1 h2 => ?_⟩
    · rw [f_X5_clear_4, if_neg hl, gd_nI (by omega) (by decide)]
      dsimp only [bindv]
      rw [gd_nI (by omega) (by decide), gd_nI (by omega) (by decide), clampN (by omega), g2, bc_ok _ g1, lit_nI 6, pk_sub (by omega), nI_add, nI_1, ← ea1, ← ea2, r1]
      rw [badS, Nat.add_assoc]
    · obtain ⟨x1, x2⟩ := r3 q (by omega)
      rw [x1, x2, q16, q17, if_neg (by omega), if_neg (by omega)]
      exact ⟨rfl, rfl⟩
    · rcases Nat.lt_or_ge p q with z | z
      · exact r4 q (by omega) h2
      · obtain rfl : q = p := by omega
        obtain ⟨x1, x2⟩ := r3 q (by omega)
        rw [x1, x2, q16, q17, if_pos rfl, if_pos rfl]
        exact ⟨rfl, rfl⟩
/-- the model's count, over the 36 names -/
def badF (z : Nat → Nat) : Nat → Nat → Nat
  | 0, _ => 0
  | m + 1, k => (1 - z k) + badF z m (k + 1)
theorem fg45 : ∀ (m n p : Nat) (c : Int32) (br : Nat → Nat → Int32), p + m = 6 → m < n → ∃ br', f_X9_forget_45 n c (nI p) br = some (c, br') ∧ (∀ q, q ≠ 6 → br' q = br q) ∧ (∀ q, q < p → br' 6 q = br 6 q) ∧ ∀ q, p ≤ q → q < 6 → br' 6 q = nI 0 := by
  intro m
  induction m with
  | zero =>
    intro n p c br hp hn
    obtain ⟨n, rfl⟩ : ∃ z, n = z + 1 := ⟨n - 1, by omega⟩
    obtain rfl : p = 6 := by omega
    refine ⟨br, ?_, fun _ _ => rfl, fun _ _ => rfl, fun q h1 h2 => by omega⟩
    rw [f_X9_forget_45, if_pos (by decide)]
  | succ m ih =>
    intro n p c br hp hn
    obtain ⟨n, rfl⟩ : ∃ z, n = z + 1 := ⟨n - 1, by omega⟩
    have hl : ¬ ((6 : Int32) ≤ nI p) := nI_ge (a := p) (b := 6) (by omega) (by decide)
    obtain ⟨a1, ea1⟩ : ∃ z, z = updA br 6 (upd (br 6) p 0) := ⟨_, rfl⟩
    have q6 : ∀ i, a1 6 i = if i = p then nI 0 else br 6 i := fun i => by rw [ea1, updA_eq]; rfl
    have qo : ∀ q, q ≠ 6 → a1 q = br q := fun q h => by rw [ea1, updA_ne _ _ h]
    obtain ⟨br', r1, r2, r3, r4⟩ := ih n (p + 1) c a1 (by omega) (by omega)
    refine ⟨br', ?_, fun q h => (r2 q h).trans (qo q h), fun q hq => ?_, fun q h1 h2 => ?_⟩
    · rw [f_X9_forget_45, if_neg hl, gd_nI (by omega) (by decide)]
      dsimp only [bindv]
      rw [clampN (by omega), nI_1, ← ea1, r1]
    · rw [r3 q (by omega), q6, if_neg (by omega)]
    · rcases Nat.lt_or_ge p q with z | z
      · exact r4 q (by omega) h2
      · obtain rfl : q = p := by omega
        rw [r3 q (by omega), q6, if_pos rfl]
theorem fg4 {z : Nat → Nat} (hz : ∀ k, z k < 2) : ∀ (m n k c : Nat) (br : Nat → Nat → Int32), k + m = 36 → m < n → (∀ j, k ≤ j → j < 36 → br 5 j = nI (z j)) →
    ∃ br', f_X9_forget_4 n (nI c) (nI k) br = f_X9_forget_45 5000 (nI (c + badF z m k)) 0 br' ∧ (∀ q, q ≠ 5 → br' q = br q) ∧ (∀ j, j < k → br' 5 j = br 5 j) ∧ ∀ j, k ≤ j → j < 36 → br' 5 j = nI 1 := by
  intro m
  induction m with
  | zero =>
    intro n k c br hk hn hb
    obtain ⟨n, rfl⟩ : ∃ z, n = z + 1 := ⟨n - 1, by omega⟩
    obtain rfl : k = 36 := by omega
    refine ⟨br, ?_, fun _ _ => rfl, fun _ _ => rfl, fun q h1 h2 => by omega⟩
    rw [f_X9_forget_4, if_pos (by decide)]
    rfl
  | succ m ih =>
    intro n k c br hk hn hb
    obtain ⟨n, rfl⟩ : ∃ z, n = z + 1 := ⟨n - 1, by omega⟩
    have hl : ¬ ((36 : Int32) ≤ nI k) := nI_ge (a := k) (b := 36) (by omega) (by decide)
    obtain ⟨a1, ea1⟩ : ∃ z, z = updA br 5 (upd (br 5) k (vp_nar .boolean 1)) := ⟨_, rfl⟩
    have q5 : ∀ i, a1 5 i = if i = k then nI 1 else br 5 i := fun i => by rw [ea1, updA_eq]; rfl
    have qo : ∀ q, q ≠ 5 → a1 q = br q := fun q h => by rw [ea1, updA_ne _ _ h]
    have hzk := hz k
    obtain ⟨br', r1, r2, r3, r4⟩ := ih n (k + 1) (c + (1 - z k)) a1 (by omega) (by omega) (fun j h1 h2 => by rw [q5, if_neg (by omega)]; exact hb j (by omega) h2)
    refine ⟨br', ?_, fun q h => (r2 q h).trans (qo q h), fun q hq => ?_, fun q h1 h2 => ?_⟩
    · rw [f_X9_forget_4, if_neg hl, gd_nI (by omega) (by decide), clampN (by omega), hb k (Nat.le_refl _) (by omega)]
      unfold f_X9_forget_25
      dsimp only [bindv]
      rw [gd_nI (by omega) (by decide), gd_nI (by omega) (by decide), clampN (by omega), nI_1, ← ea1]
      rw [badF, ← Nat.add_assoc]
      rcases (show z k = 0 ∨ z k = 1 by omega) with q | q
      · rw [q, if_pos (by decide)]
        rw [q] at r1
        rw [show f_X9_one 1 = nI 1 from rfl, nI_add]
        exact r1
      · rw [q, if_neg (by decide)]
        rw [q] at r1
        rw [show f_X9_one 0 = nI 0 from rfl, nI_add]
        exact r1
    · rw [r3 q (by omega), q5, if_neg (by omega)]
    · rcases Nat.lt_or_ge k q with z | z
      · exact r4 q (by omega) h2
      · obtain rfl : q = k := by omega
        rw [r3 q (by omega), q5, if_pos rfl]
theorem bad_eq (g : Nat → Nat) : ∀ (m p : Nat), badF (fun k => bN (g (k / 6)) (k % 6)) (6 * m) (6 * p) = badS g m p := by
  intro m
  induction m with
  | zero => intro p; rfl
  | succ m ih =>
    intro p
    have e : badF (fun k => bN (g (k / 6)) (k % 6)) (6 * (m + 1)) (6 * p) = (1 - bN (g p) 0) + ((1 - bN (g p) 1) + ((1 - bN (g p) 2) + ((1 - bN (g p) 3) + ((1 - bN (g p) 4) + ((1 - bN (g p) 5) + badF (fun k => bN (g (k / 6)) (k % 6)) (6 * m) (6 * (p + 1))))))) := by
      rw [show 6 * (m + 1) = 6 * m + 1 + 1 + 1 + 1 + 1 + 1 by omega, badF, badF, badF, badF, badF, badF]
      rw [show 6 * p / 6 = p by omega, show 6 * p % 6 = 0 by omega, show (6 * p + 1) / 6 = p by omega, show (6 * p + 1) % 6 = 1 by omega, show (6 * p + 1 + 1) / 6 = p by omega, show (6 * p + 1 + 1) % 6 = 2 by omega, show (6 * p + 1 + 1 + 1) / 6 = p by omega, show (6 * p + 1 + 1 + 1) % 6 = 3 by omega, show (6 * p + 1 + 1 + 1 + 1) / 6 = p by omega, show (6 * p + 1 + 1 + 1 + 1) % 6 = 4 by omega, show (6 * p + 1 + 1 + 1 + 1 + 1) / 6 = p by omega, show (6 * p + 1 + 1 + 1 + 1 + 1) % 6 = 5 by omega]
      rfl
    rw [e, ih, badS]
    have a0 := bN_lt (g p) 0
    have a1 := bN_lt (g p) 1
    have a2 := bN_lt (g p) 2
    have a3 := bN_lt (g p) 3
    have a4 := bN_lt (g p) 4
    have a5 := bN_lt (g p) 5
    omega
theorem st_forget {fi : Nat → Int32} {fl : Nat → Int64} {ar : Nat → Nat → Int32} {gi : Nat → Int32} {gl : Nat → Int64} {br : Nat → Nat → Int32} (h : Rel fi fl ar gi gl br) : ∃ (r : Int32) (ar' : Nat → Nat → Int32) (br' : Nat → Nat → Int32), f_X8_forget ar = some (r, ar') ∧ f_X9_forget br = some (r, br') ∧ Rel fi fl ar' gi gl br' := by
  have h' := h
  obtain ⟨v, -, -, -, -, ⟨g, k, hg⟩, -⟩ := h'
  obtain ⟨ar', r1, r2, -, r4⟩ := clear_loop (br := br) (g := g) (k := k) 6 5000 0 0 ar (by decide) (by decide) (fun q _ h2 => ⟨(hg q h2).1, (hg q h2).2.2.1⟩)
  obtain ⟨b1, s1, s2, -, s4⟩ := fg4 (z := fun k => bN (g (k / 6)) (k % 6)) (fun k => bN_lt _ _) 36 5000 0 0 br (by decide) (by decide) (fun j _ hj => by
    have := (hg (j / 6) (by omega)).2.2.2.2.2 (j % 6) (by omega)
    rw [show 6 * (j / 6) + j % 6 = j by omega] at this
    exact this)
  obtain ⟨b2, t1, t2, -, t4⟩ := fg45 6 5000 0 (nI (0 + badF (fun k => bN (g (k / 6)) (k % 6)) 36 0)) b1 (by decide) (by decide)
  refine ⟨nI (0 + badS g 6 0), ar', b2, ?_, ?_, h.views (g := fun _ => 63) (k := fun _ => 0) r2 (fun q h5 h6 => (t2 q h6).trans (s2 q h5)) (fun p hp => ?_)⟩
  · unfold f_X8_forget f_X5_clear
    rw [show (0 : Int32) = nI 0 from rfl, r1, bind2_some]
  · unfold f_X9_forget
    have be := bad_eq g 6 0
    rw [show badF (fun k => bN (g (k / 6)) (k % 6)) 36 0 = badS g 6 0 from be] at s1 t1
    exact s1.trans t1
  · obtain ⟨x1, x2⟩ := r4 p (Nat.zero_le _) hp
    refine ⟨(show 63 < 64 by decide), (show 0 < 64 by decide), x1, x2, t4 p (Nat.zero_le _) hp, fun c hc => ?_⟩
    rw [t2 5 (by decide), s4 _ (Nat.zero_le _) (by omega)]
    have : ∀ c, c < 6 → bN 63 c = 1 := by decide
    rw [this c hc]
