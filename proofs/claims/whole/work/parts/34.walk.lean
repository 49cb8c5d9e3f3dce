/-! walks: class go, model goFrom -/
def cntU (s : Nat → Nat) : Nat → Nat
  | 0 => 0
  | n + 1 => cntU s n + if s n = 0 then 1 else 0
def setU (s : Nat → Nat) (x c : Nat) : Nat → Nat := fun y => if y = x then c else s y
theorem cntU_out {s : Nat → Nat} {x c : Nat} : ∀ n, n ≤ x → cntU (setU s x c) n = cntU s n := by
  intro n
  induction n with
  | zero => intro _; rfl
  | succ n ih =>
    intro h
    have e : setU s x c n = s n := if_neg (by omega)
    rw [cntU, cntU, ih (by omega), e]
theorem cntU_set {s : Nat → Nat} {x c : Nat} (hs : s x = 0) (hc : c ≠ 0) : ∀ n, x < n → cntU (setU s x c) n + 1 = cntU s n := by
  intro n
  induction n with
  | zero => intro h; omega
  | succ n ih =>
    intro h
    rw [cntU, cntU]
    rcases Nat.lt_or_ge x n with q | q
    · have e : setU s x c n = s n := by unfold setU; rw [if_neg (by omega)]
      rw [e, ← ih q]; omega
    · obtain rfl : x = n := by omega
      have e : setU s x c x = c := by unfold setU; rw [if_pos rfl]
      rw [e, hs, if_neg hc, if_pos rfl, cntU_out x (Nat.le_refl _)]
theorem cntU_0 (n : Nat) : cntU (fun _ => 0) n = n := by
  induction n with
  | zero => rfl
  | succ n ih => rw [cntU, ih, if_pos rfl]
theorem goS_succ {f : Nat → Nat} {k : Nat} {s : Nat → Nat} {n x : Nat} : goS f (k + 1) s n x = if s x = 0 then goS f k (setU s x (n + 1)) (n + 1) (f x) else (s x - 1, n, x) := rfl
/-- the class's loop -/
theorem go5 {f : Nat → Nat} (hf : ∀ x, x ≤ 1000 → f x ≤ 1000) {fi : Nat → Int32} {a7 : Nat → Int32} (hn : ∀ (ar : Nat → Nat → Int32) (x : Nat), ar 7 = a7 → x ≤ 1000 → f_X1_next fi ar (nI x) = nI (f x)) :
    ∀ (m n k : Nat) (s : Nat → Nat) (c x : Nat) (ar : Nat → Nat → Int32), cntU s 1001 = m → c + m = 1001 → m < n → m < k → x ≤ 1000 → ar 7 = a7 → (∀ y, y ≤ 1000 → ar 10 y = nI (s y)) → (∀ y, s y ≤ c) → (∀ i, i < c → ∃ y, y ≤ 1000 ∧ ar 9 i = nI y) → (∀ y, y ≤ 1000 → s y ≠ 0 → ∃ i, i < c ∧ ar 9 i = nI y) →
      ∃ (l c' e : Nat) (ar' : Nat → Nat → Int32), goS f k s c x = (l, c', e) ∧ e ≤ 1000 ∧ l < c' ∧ c' ≤ 1001 ∧ f_X7_go_5 n (nI x) (nI c) fi ar = f_X7_go_57 (nI e) (nI c') fi ar' ∧ (∀ q, q ≠ 9 → q ≠ 10 → ar' q = ar q) ∧ ar' 10 e = nI (l + 1) ∧ (∀ i, i < c' → ∃ y, y ≤ 1000 ∧ ar' 9 i = nI y) ∧ (∀ y, y ≤ 1000 → ar' 10 y = 0 ∨ ∃ i, i < c' ∧ ar' 9 i = nI y) := by
  intro m
  induction m with
  | zero =>
    intro n k s c x ar hm hc hn' hk hx h7 h10 hs hp1 hp2
    obtain ⟨n, rfl⟩ : ∃ z, n = z + 1 := ⟨n - 1, by omega⟩
    obtain ⟨k, rfl⟩ : ∃ z, k = z + 1 := ⟨k - 1, by omega⟩
    have hsx : s x ≠ 0 := by
      intro h0
      have := cntU_set (c := 1) h0 (by decide) 1001 (by omega)
      omega
    have := hs x
    refine ⟨s x - 1, c, x, ar, ?_, hx, by omega, by omega, ?_, fun _ _ _ => rfl, ?_, hp1, fun y hy => ?_⟩
    · rw [goS_succ, if_neg hsx]
    · rw [f_X7_go_5, if_pos (show ((1000 : Int32) < nI (c)) from nI_lt (a := 1000) (b := c) (by omega) (by omega))]
    · rw [h10 x hx, show s x - 1 + 1 = s x by omega]
    · by_cases q : s y = 0
      · left; rw [h10 y hy, q]; rfl
      · right; exact hp2 y hy q
  | succ m ih =>
    intro n k s c x ar hm hc hn' hk hx h7 h10 hs hp1 hp2
    obtain ⟨n, rfl⟩ : ∃ z, n = z + 1 := ⟨n - 1, by omega⟩
    obtain ⟨k, rfl⟩ : ∃ z, k = z + 1 := ⟨k - 1, by omega⟩
    have hsh : f_X8_isShare (nI x) = 1 := within_k (n := 1000) (by decide) hx
    have hcx : Int32.toNatClampNeg (nI x) = x := clampN (by omega)
    have hsc := hs x
    by_cases hsx : s x = 0
    · -- not seen yet
      obtain ⟨a1, ea1⟩ : ∃ z, z = updA ar 9 (upd (ar 9) c (nI x)) := ⟨_, rfl⟩
      obtain ⟨a2, ea2⟩ : ∃ z, z = updA a1 10 (upd (a1 10) x (nI (c + 1))) := ⟨_, rfl⟩
      have q9 : ∀ i, a2 9 i = if i = c then nI x else ar 9 i := by
        intro i; rw [ea2, updA_ne _ _ (by decide), ea1, updA_eq]; rfl
      have q10 : ∀ i, a2 10 i = if i = x then nI (c + 1) else ar 10 i := by
        intro i; rw [ea2, updA_eq, ea1, updA_ne _ _ (by decide)]; rfl
      have qo : ∀ q, q ≠ 9 → q ≠ 10 → a2 q = ar q := by
        intro q h9 h10; rw [ea2, updA_ne _ _ h10, ea1, updA_ne _ _ h9]
      have step : f_X7_go_5 (n + 1) (nI x) (nI c) fi ar = f_X7_go_5 n (nI (f x)) (nI (c + 1)) fi a2 := by
        rw [f_X7_go_5, if_neg (show ¬ ((1000 : Int32) < nI (c)) from nI_nlt (a := 1000) (b := c) (by omega) (by decide))]
        dsimp only [bindv]
        rw [hsh, if_neg (by decide), gd_nI (by omega) (by decide), hcx, h10 x hx, hsx, if_pos (by decide), gd_nI (by omega) (by decide), gd_nI (by omega) (by decide), clampN (by omega), nI_1, ← ea1, ← ea2, hn a2 x ((qo 7 (by decide) (by decide)).trans h7) hx]
      have hcu := cntU_set (c := c + 1) hsx (by omega) 1001 (by omega)
      obtain ⟨l, c', e, ar', r1, r2, r3, r4, r5, r6, r7, r8, r9⟩ := ih n k (setU s x (c + 1)) (c + 1) (f x) a2 (by omega) (by omega) (by omega) (by omega) (hf x hx) ((qo 7 (by decide) (by decide)).trans h7)
        (fun y hy => by
          rw [q10]; unfold setU
          by_cases q : y = x
          · rw [if_pos q, if_pos q]
          · rw [if_neg q, if_neg q]; exact h10 y hy)
        (fun y => by unfold setU; have := hs y; split <;> omega)
        (fun i hi => by
          rw [q9]
          by_cases q : i = c
          · rw [if_pos q]; exact ⟨x, hx, rfl⟩
          · rw [if_neg q]; exact hp1 i (by omega))
        (fun y hy hy0 => by
          by_cases q : y = x
          · exact ⟨c, by omega, by rw [q9, if_pos rfl, q]⟩
          · unfold setU at hy0
            rw [if_neg q] at hy0
            obtain ⟨i, hi, hi2⟩ := hp2 y hy hy0
            exact ⟨i, by omega, by rw [q9, if_neg (by omega)]; exact hi2⟩)
      refine ⟨l, c', e, ar', ?_, r2, r3, r4, step.trans r5, fun q h9 h10 => (r6 q h9 h10).trans (qo q h9 h10), r7, r8, r9⟩
      rw [goS_succ, if_pos hsx]; exact r1
    · refine ⟨s x - 1, c, x, ar, ?_, hx, by omega, by omega, ?_, fun _ _ _ => rfl, ?_, hp1, fun y hy => ?_⟩
      · rw [goS_succ, if_neg hsx]
      · rw [f_X7_go_5, if_neg (show ¬ ((1000 : Int32) < nI (c)) from nI_nlt (a := 1000) (b := c) (by omega) (by decide))]
        dsimp only [bindv]
        rw [hsh, if_neg (by decide), gd_nI (by omega) (by decide), hcx, h10 x hx, if_neg (nI_ne0 (by omega) (by omega))]
      · rw [h10 x hx, show s x - 1 + 1 = s x by omega]
      · by_cases q : s y = 0
        · left; rw [h10 y hy, q]; rfl
        · right; exact hp2 y hy q
theorem go100 {fi : Nat → Int32} {c : Nat} (hc : c ≤ 1001) : ∀ (m n j : Nat) (ar : Nat → Nat → Int32), j + m = c → m < n → (∀ i, i < c → ∃ y, y ≤ 1000 ∧ ar 9 i = nI y) →
    ∃ ar', f_X7_go_100 n (nI c) (nI j) fi ar = some (fi, ar') ∧ (∀ q, q ≠ 10 → ar' q = ar q) ∧ ∀ y, y ≤ 1000 → (ar 10 y = 0 ∨ ∃ i, j ≤ i ∧ i < c ∧ ar 9 i = nI y) → ar' 10 y = 0 := by
  intro m
  induction m with
  | zero =>
    intro n j ar hj hn hp
    obtain ⟨n, rfl⟩ : ∃ z, n = z + 1 := ⟨n - 1, by omega⟩
    refine ⟨ar, ?_, fun _ _ => rfl, fun y hy h => ?_⟩
    · rw [f_X7_go_100, if_pos (nI_le (a := c) (b := j) (by omega) (by omega))]
    · rcases h with h | ⟨i, h1, h2, -⟩
      · exact h
      · omega
  | succ m ih =>
    intro n j ar hj hn hp
    obtain ⟨n, rfl⟩ : ∃ z, n = z + 1 := ⟨n - 1, by omega⟩
    obtain ⟨y0, hy0, ey0⟩ := hp j (by omega)
    obtain ⟨a1, ea1⟩ : ∃ z, z = updA ar 10 (upd (ar 10) y0 0) := ⟨_, rfl⟩
    have qo : ∀ q, q ≠ 10 → a1 q = ar q := fun q h => by rw [ea1, updA_ne _ _ h]
    have q10 : ∀ i, a1 10 i = if i = y0 then 0 else ar 10 i := fun i => by rw [ea1, updA_eq]; rfl
    have step : f_X7_go_100 (n + 1) (nI c) (nI j) fi ar = f_X7_go_100 n (nI c) (nI (j + 1)) fi a1 := by
      rw [f_X7_go_100, if_neg (nI_ge (a := j) (b := c) (by omega) (by omega)), gd_nI (by omega) (by decide), clampN (by omega), ey0, gd_nI (by omega) (by decide), clampN (by omega)]
      dsimp only [bindv]
      rw [nI_1, ← ea1]
    obtain ⟨ar', r1, r2, r3⟩ := ih n (j + 1) a1 (by omega) (by omega) (fun i hi => by rw [qo 9 (by decide)]; exact hp i hi)
    refine ⟨ar', step.trans r1, fun q h => (r2 q h).trans (qo q h), fun y hy h => r3 y hy ?_⟩
    by_cases q : y = y0
    · left; rw [q10, if_pos q]
    · rcases h with h | ⟨i, h1, h2, h3⟩
      · left; rw [q10, if_neg q]; exact h
      · right
        refine ⟨i, ?_, h2, by rw [qo 9 (by decide)]; exact h3⟩
        rcases Nat.lt_or_ge j i with z | z
        · omega
        · obtain rfl : i = j := by omega
          rw [ey0] at h3
          exact absurd (nI_inj (by omega) (by omega) h3).symm q
theorem go_lt {f : Nat → Nat} {x l c e : Nat} (h : goF f x = (l, c, e)) : leadS f x = l ∧ ringS f x = c - l ∧ endS f x = e := by
  unfold leadS ringS endS
  rw [h]
  exact ⟨rfl, rfl, rfl⟩
/-- go: lead, ring, end are the walk's; came is empty again -/
theorem go_ok {v : Nat → Nat} (hv : Vok v) {r x : Nat} (hx : x ≤ 1000) {fi : Nat → Int32} {ar : Nat → Nat → Int32} (h : Lived v r fi ar) (h10 : ∀ y, y ≤ 1000 → ar 10 y = 0) :
    ∃ fi' ar', f_X7_go fi ar (nI x) = some (fi', ar') ∧ fi' 28 = nI (leadS (stS v r) x) ∧ fi' 29 = nI (ringS (stS v r) x) ∧ fi' 30 = nI (endS (stS v r) x) ∧ endS (stS v r) x ≤ 1000 ∧ leadS (stS v r) x ≤ 1001 ∧ ringS (stS v r) x ≤ 1001 ∧ (∀ k, k < 28 ∨ 30 < k → fi' k = fi k) ∧ (∀ q, q ≠ 9 → q ≠ 10 → ar' q = ar q) ∧ ∀ y, y ≤ 1000 → ar' 10 y = 0 := by
  have hf : ∀ x, x ≤ 1000 → stS v r x ≤ 1000 := fun x hx => stS_le hv r hx
  have hn : ∀ (a : Nat → Nat → Int32) (x : Nat), a 7 = ar 7 → x ≤ 1000 → f_X1_next fi a (nI x) = nI (stS v r x) := by
    intro a x e hx
    have e2 : f_X1_next fi a (nI x) = f_X1_next fi ar (nI x) := by unfold f_X1_next; rw [e]
    rw [e2]; exact next_ok hv hx h
  obtain ⟨l, c, e, a1, r1, r2, r3, r4, r5, r6, r7, r8, r9⟩ := go5 hf hn 1001 5000 1002 (fun _ => 0) 0 x ar (cntU_0 1001) (by decide) (by decide) (by decide) hx rfl (fun y hy => h10 y hy) (fun _ => Nat.zero_le _) (fun i hi => by omega) (fun y hy h => absurd rfl h)
  obtain ⟨g1, g2, g3⟩ := go_lt (f := stS v r) (x := x) r1
  rw [g1, g2, g3]
  obtain ⟨f1, e1⟩ : ∃ z, z = upd fi 30 (nI e) := ⟨_, rfl⟩
  obtain ⟨f2, e2⟩ : ∃ z, z = upd f1 28 (nI l) := ⟨_, rfl⟩
  obtain ⟨f3, e3⟩ : ∃ z, z = upd f2 29 (nI c - nI l) := ⟨_, rfl⟩
  obtain ⟨a2, s1, s2, s3⟩ := go100 (fi := f3) r4 c 5000 0 a1 (by omega) (by omega) r8
  have g : ∀ k, f3 k = if k = 29 then nI (c - l) else if k = 28 then nI l else if k = 30 then nI e else fi k := by
    intro k
    rw [pk_sub (by omega : l ≤ c)] at e3
    subst e3; subst e2; subst e1
    simp [upd]
  refine ⟨f3, a2, ?_, by rw [g]; simp, by rw [g]; simp, by rw [g]; simp, r2, by omega, by omega, fun k hk => ?_, fun q h9 h10 => (s2 q h10).trans (r6 q h9 h10), fun y hy => s3 y hy ?_⟩
  · unfold f_X7_go
    refine Eq.trans r5 ?_
    unfold f_X7_go_57
    dsimp only [bindv]
    rw [show f_X8_isShare (nI e) = 1 from within_k (n := 1000) (by decide) r2, if_neg (by decide), gd_nI (by omega) (by decide), clampN (by omega), r7]
    unfold f_X7_go_83
    dsimp only [bindv]
    have el : (nI (l + 1) - 1 : Int32) = nI l := nI_pred l
    rw [el, ← e1, ← e2]
    have e28 : f2 28 = nI l := by rw [e2, upd_eq]
    rw [e28, ← e3]
    exact s1
  · rw [g]
    repeat rw [if_neg (by omega)]
  · rcases r9 y hy with h | ⟨i, h1, h2⟩
    · exact Or.inl h
    · exact Or.inr ⟨i, Nat.zero_le _, h1, h2⟩
/-- the model's loop -/
theorem go27 {f : Nat → Nat} (hf : ∀ x, x ≤ 1000 → f x ≤ 1000) {r : Nat} {b1 : Nat → Int32} (hn : ∀ (br : Nat → Nat → Int32) (x : Nat), br 1 = b1 → x ≤ 1000 → f_X9_stepOf br (nI r) (nI x) = some (nI (f x))) :
    ∀ (m n k : Nat) (s : Nat → Nat) (c x : Nat) (gi : Nat → Int32) (br : Nat → Nat → Int32), cntU s 1001 = m → c + m = 1001 → m < n → m < k → x ≤ 1000 → br 1 = b1 → (∀ y, y ≤ 1000 → br 4 y = if s y = 0 then -1 else nI (s y - 1)) → (∀ y, s y ≤ c) →
      ∃ (l c' e : Nat) (gi' : Nat → Int32) (br' : Nat → Nat → Int32), goS f k s c x = (l, c', e) ∧ e ≤ 1000 ∧ l < c' ∧ c' ≤ 1001 ∧ f_X9_goFrom_27 n (nI r) (nI x) (nI c) gi br = some (gi', br') ∧ gi' 9 = nI l ∧ gi' 10 = nI (c' - l) ∧ gi' 8 = (if c' - l = 1 then nI e else -1) ∧ (∀ q, q < 8 ∨ 10 < q → gi' q = gi q) ∧ (∀ q, q ≠ 4 → br' q = br q) := by
  intro m
  have fin : ∀ (n : Nat) (s : Nat → Nat) (c x : Nat) (gi : Nat → Int32) (br : Nat → Nat → Int32), x ≤ 1000 → s x ≠ 0 → s x ≤ c → c ≤ 1001 → (∀ y, y ≤ 1000 → br 4 y = if s y = 0 then -1 else nI (s y - 1)) →
      ∃ gi', f_X9_goFrom_27 (n + 1) (nI r) (nI x) (nI c) gi br = some (gi', br) ∧ gi' 9 = nI (s x - 1) ∧ gi' 10 = nI (c - (s x - 1)) ∧ gi' 8 = (if c - (s x - 1) = 1 then nI x else -1) ∧ ∀ q, q < 8 ∨ 10 < q → gi' q = gi q := by
    intro n s c x gi br hx hsx hsc hc h4
    obtain ⟨g1, e1⟩ : ∃ z, z = upd gi 9 (nI (s x - 1)) := ⟨_, rfl⟩
    obtain ⟨g2, e2⟩ : ∃ z, z = upd g1 10 (nI (c - (s x - 1))) := ⟨_, rfl⟩
    obtain ⟨g3, e3⟩ : ∃ z, z = upd g2 8 (if c - (s x - 1) = 1 then nI x else -1) := ⟨_, rfl⟩
    have g : ∀ k, g3 k = if k = 8 then (if c - (s x - 1) = 1 then nI x else -1) else if k = 10 then nI (c - (s x - 1)) else if k = 9 then nI (s x - 1) else gi k := by
      intro k; subst e3; subst e2; subst e1; simp [upd]
    refine ⟨g3, ?_, by rw [g]; simp, by rw [g]; simp, by rw [g]; simp, fun q hq => ?_⟩
    · have hm : br 4 x = nI (s x - 1) := by rw [h4 x hx, if_neg hsx]
      rw [f_X9_goFrom_27, gd_nI (by omega) (by decide), clampN (by omega), hm, if_pos (nI_pos' (by omega)), gd_nI (by omega) (by decide)]
      dsimp only [bindv]
      rw [← e1]
      have e9 : g1 9 = nI (s x - 1) := by rw [e1, upd_eq]
      rw [e9, pk_sub (by omega : s x - 1 ≤ c), ← e2]
      have e10 : g2 10 = nI (c - (s x - 1)) := by rw [e2, upd_eq]
      rw [e10]
      by_cases q : c - (s x - 1) = 1
      · rw [if_pos q] at e3
        rw [if_pos ((one_iff (by omega)).mpr q), ← e3]
      · rw [if_neg q] at e3
        rw [if_neg (fun h => q ((one_iff (by omega)).mp h)), ← e3]
    · rw [g]
      repeat rw [if_neg (by omega)]
  induction m with
  | zero =>
    intro n k s c x gi br hm hc hn' hk hx h1 h4 hs
    obtain ⟨n, rfl⟩ : ∃ z, n = z + 1 := ⟨n - 1, by omega⟩
    obtain ⟨k, rfl⟩ : ∃ z, k = z + 1 := ⟨k - 1, by omega⟩
    have hsx : s x ≠ 0 := by
      intro h0
      have := cntU_set (c := 1) h0 (by decide) 1001 (by omega)
      omega
    have := hs x
    obtain ⟨gi', p1, p2, p3, p4, p5⟩ := fin n s c x gi br hx hsx this (by omega) h4
    exact ⟨s x - 1, c, x, gi', br, by rw [goS_succ, if_neg hsx], hx, by omega, by omega, p1, p2, p3, p4, p5, fun _ _ => rfl⟩
  | succ m ih =>
    intro n k s c x gi br hm hc hn' hk hx h1 h4 hs
    obtain ⟨n, rfl⟩ : ∃ z, n = z + 1 := ⟨n - 1, by omega⟩
    obtain ⟨k, rfl⟩ : ∃ z, k = z + 1 := ⟨k - 1, by omega⟩
    have hsc := hs x
    by_cases hsx : s x = 0
    · obtain ⟨a1, ea1⟩ : ∃ z, z = updA br 4 (upd (br 4) x (nI c)) := ⟨_, rfl⟩
      have q4 : ∀ i, a1 4 i = if i = x then nI c else br 4 i := fun i => by rw [ea1, updA_eq]; rfl
      have qo : ∀ q, q ≠ 4 → a1 q = br q := fun q h => by rw [ea1, updA_ne _ _ h]
      have step : f_X9_goFrom_27 (n + 1) (nI r) (nI x) (nI c) gi br = f_X9_goFrom_27 n (nI r) (nI (f x)) (nI (c + 1)) gi a1 := by
        have hm : br 4 x = -1 := by rw [h4 x hx, if_pos hsx]
        rw [f_X9_goFrom_27, gd_nI (by omega) (by decide), clampN (by omega), hm, if_neg (by decide), gd_nI (by omega) (by decide)]
        dsimp only [bindv]
        rw [← ea1, hn a1 x ((qo 1 (by decide)).trans h1) hx, nI_1]
        rfl
      have hcu := cntU_set (c := c + 1) hsx (by omega) 1001 (by omega)
      obtain ⟨l, c', e, gi', br', r1, r2, r3, r4, r5, r6, r7, r8, r9, r10⟩ := ih n k (setU s x (c + 1)) (c + 1) (f x) gi a1 (by omega) (by omega) (by omega) (by omega) (hf x hx) ((qo 1 (by decide)).trans h1)
        (fun y hy => by
          rw [q4]; unfold setU
          by_cases q : y = x
          · rw [if_pos q, if_pos q, if_neg (by omega)]; rfl
          · rw [if_neg q, if_neg q]; exact h4 y hy)
        (fun y => by unfold setU; have := hs y; split <;> omega)
      refine ⟨l, c', e, gi', br', ?_, r2, r3, r4, step.trans r5, r6, r7, r8, r9, fun q h => (r10 q h).trans (qo q h)⟩
      rw [goS_succ, if_pos hsx]; exact r1
    · obtain ⟨gi', p1, p2, p3, p4, p5⟩ := fin n s c x gi br hx hsx hsc (by omega) h4
      exact ⟨s x - 1, c, x, gi', br, by rw [goS_succ, if_neg hsx], hx, by omega, by omega, p1, p2, p3, p4, p5, fun _ _ => rfl⟩
theorem go2 {r x : Int32} {gi : Nat → Int32} : ∀ (m n j : Nat) (br : Nat → Nat → Int32), j + m = 1001 → m < n → ∃ br', f_X9_goFrom_2 n r x (nI j) gi br = f_X9_goFrom_27 5000 r x 0 gi br' ∧ (∀ q, q ≠ 4 → br' q = br q) ∧ (∀ y, y < j → br' 4 y = br 4 y) ∧ ∀ y, j ≤ y → y ≤ 1000 → br' 4 y = -1 := by
  intro m
  induction m with
  | zero =>
    intro n j br hj hn
    obtain ⟨n, rfl⟩ : ∃ z, n = z + 1 := ⟨n - 1, by omega⟩
    refine ⟨br, ?_, fun _ _ => rfl, fun _ _ => rfl, fun y h1 h2 => by omega⟩
    rw [f_X9_goFrom_2, if_pos (show ((1000 : Int32) < nI (j)) from nI_lt (a := 1000) (b := j) (by omega) (by omega))]
  | succ m ih =>
    intro n j br hj hn
    obtain ⟨n, rfl⟩ : ∃ z, n = z + 1 := ⟨n - 1, by omega⟩
    obtain ⟨a1, ea1⟩ : ∃ z, z = updA br 4 (upd (br 4) j (-1)) := ⟨_, rfl⟩
    have q4 : ∀ i, a1 4 i = if i = j then -1 else br 4 i := fun i => by rw [ea1, updA_eq]; rfl
    have qo : ∀ q, q ≠ 4 → a1 q = br q := fun q h => by rw [ea1, updA_ne _ _ h]
    have step : f_X9_goFrom_2 (n + 1) r x (nI j) gi br = f_X9_goFrom_2 n r x (nI (j + 1)) gi a1 := by
      rw [f_X9_goFrom_2, if_neg (show ¬ ((1000 : Int32) < nI (j)) from nI_nlt (a := 1000) (b := j) (by omega) (by decide)), gd_nI (by omega) (by decide), clampN (by omega)]
      dsimp only [bindv]
      rw [nI_1, ← ea1]
    obtain ⟨br', r1, r2, r3, r4⟩ := ih n (j + 1) a1 (by omega) (by omega)
    refine ⟨br', step.trans r1, fun q h => (r2 q h).trans (qo q h), fun y hy => ?_, fun y h1 h2 => ?_⟩
    · rw [r3 y (by omega), q4, if_neg (by omega)]
    · rcases Nat.lt_or_ge j y with z | z
      · exact r4 y (by omega) h2
      · obtain rfl : y = j := by omega
        rw [r3 y (by omega), q4, if_pos rfl]
theorem goFrom_ok {v : Nat → Nat} (hv : Vok v) {br : Nat → Nat → Int32} (hb : ∀ k, k < 8 → br 1 k = nI (v k)) {r x : Nat} (hr : r < 4096) (hx : x ≤ 1000) (gi : Nat → Int32) :
    ∃ gi' br', f_X9_goFrom gi br (nI r) (nI x) = some (gi', br') ∧ gi' 9 = nI (leadS (stS v r) x) ∧ gi' 10 = nI (ringS (stS v r) x) ∧ gi' 8 = restI (stS v r) x ∧ (∀ q, q < 8 ∨ 10 < q → gi' q = gi q) ∧ ∀ q, q ≠ 4 → br' q = br q := by
  obtain ⟨b1, p1, p2, p3, p4⟩ := go2 (r := nI r) (x := nI x) (gi := gi) 1001 5000 0 br (by decide) (by decide)
  have hf : ∀ x, x ≤ 1000 → stS v r x ≤ 1000 := fun x hx => stS_le hv r hx
  have hn : ∀ (b : Nat → Nat → Int32) (x : Nat), b 1 = br 1 → x ≤ 1000 → f_X9_stepOf b (nI r) (nI x) = some (nI (stS v r x)) := fun b x e hx => stepOf_ok hv (fun k hk => by rw [e]; exact hb k hk) hr hx
  obtain ⟨l, c, e, gi', br', r1, r2, r3, r4, r5, r6, r7, r8, r9, r10⟩ := go27 hf hn 1001 5000 1002 (fun _ => 0) 0 x gi b1 (cntU_0 1001) (by decide) (by decide) (by decide) hx (p2 1 (by decide)) (fun y hy => by rw [if_pos rfl]; exact p4 y (Nat.zero_le _) hy) (fun _ => Nat.zero_le _)
  obtain ⟨g1, g2, g3⟩ := go_lt (f := stS v r) (x := x) r1
  refine ⟨gi', br', ?_, by rw [g1]; exact r6, by rw [g2]; exact r7, ?_, r9, fun q h => (r10 q h).trans (p2 q h)⟩
  · unfold f_X9_goFrom
    exact p1.trans r5
  · unfold restI
    rw [g2, g3]; exact r8
