/-! the class: live, next -/
def Lived (v : Nat → Nat) (r : Nat) (fi : Nat → Int32) (ar : Nat → Nat → Int32) : Prop :=
  fi 22 = nI (r % 16) ∧ fi 23 = nI (v 0) ∧ fi 24 = nI (v 1) ∧ fi 25 = nI (100 - v 2) ∧ fi 26 = nI (v 4) ∧ fi 27 = nI (v 5) ∧
  (∀ j, j < 4 → ar 6 (2 * j) = nI (odS v (r / 16) j 0) ∧ ar 6 (2 * j + 1) = nI (odS v (r / 16) j 1)) ∧ ∀ j, j < 4 → ar 7 j = nI (ownS v r j)
theorem clampN {n : Nat} (h : n < 2 ^ 31) : Int32.toNatClampNeg (nI n) = n := nI_clamp h
theorem live_loop {v : Nat → Nat} (h2 : v 2 ≤ 50) (h3 : v 3 ≤ 50) {r : Nat} (hr : r < 4096) {fi : Nat → Int32} (e22 : fi 22 = nI (r % 16)) (e25 : fi 25 = nI (100 - v 2)) (e3 : fi 3 = nI (v 2)) :
    ∀ (m n j : Nat) (ar : Nat → Nat → Int32), j + m = 4 → m < n → ∃ ar', f_X1_live_60 n (nI (v 3)) (nI (r / 16)) (nI (2 * j)) fi ar = some (fi, ar') ∧ (∀ k, k ≠ 6 → k ≠ 7 → ar' k = ar k) ∧ (∀ i, i < 2 * j → ar' 6 i = ar 6 i) ∧ (∀ i, i < j → ar' 7 i = ar 7 i) ∧
      ∀ i, j ≤ i → i < 4 → ar' 6 (2 * i) = nI (odS v (r / 16) i 0) ∧ ar' 6 (2 * i + 1) = nI (odS v (r / 16) i 1) ∧ ar' 7 i = nI (ownS v r i) := by
  intro m
  induction m with
  | zero =>
    intro n j ar hj hn
    obtain ⟨n, rfl⟩ : ∃ k, n = k + 1 := ⟨n - 1, by omega⟩
    obtain rfl : j = 4 := by omega
    refine ⟨ar, ?_, fun _ _ _ => rfl, fun _ _ => rfl, fun _ _ => rfl, fun i h1 h2 => by omega⟩
    rw [f_X1_live_60, if_pos (by decide)]
  | succ m ih =>
    intro n j ar hj hn
    obtain ⟨n, rfl⟩ : ∃ k, n = k + 1 := ⟨n - 1, by omega⟩
    have hrl : ∀ i, refS v (r / 16) i ≤ 100 := fun i => refS_le h3 _ i
    have ho0 : odS v (r / 16) j 0 = 100 * refS v (r / 16) (2 * j) := by unfold odS; rw [if_neg (by decide)]
    have ho1 : odS v (r / 16) j 1 = (100 - v 2) * refS v (r / 16) (2 * j + 1) + v 2 * refS v (r / 16) (2 * j) := by unfold odS; rw [if_pos rfl]
    -- the stores of this round
    obtain ⟨a1, ea1⟩ : ∃ a1, a1 = updA ar 6 (upd (ar 6) (2 * j) (nI (odS v (r / 16) j 0))) := ⟨_, rfl⟩
    obtain ⟨a2, ea2⟩ : ∃ a2, a2 = updA a1 6 (upd (a1 6) (2 * j + 1) (nI (odS v (r / 16) j 1))) := ⟨_, rfl⟩
    obtain ⟨a3, ea3⟩ : ∃ a3, a3 = updA a2 7 (upd (a2 7) j (nI (ownS v r j))) := ⟨_, rfl⟩
    have q6 : ∀ i, a3 6 i = if i = 2 * j + 1 then nI (odS v (r / 16) j 1) else if i = 2 * j then nI (odS v (r / 16) j 0) else ar 6 i := by
      intro i
      rw [ea3, updA_ne _ _ (by decide), ea2, updA_eq, ea1, updA_eq]
      rfl
    have q7 : ∀ i, a3 7 i = if i = j then nI (ownS v r j) else ar 7 i := by
      intro i
      rw [ea3, updA_eq, ea2, updA_ne _ _ (by decide), ea1, updA_ne _ _ (by decide)]
      rfl
    have qo : ∀ k, k ≠ 6 → k ≠ 7 → a3 k = ar k := by
      intro k h6 h7
      rw [ea3, updA_ne _ _ h7, ea2, updA_ne _ _ h6, ea1, updA_ne _ _ h6]
    have step : f_X1_live_60 (n + 1) (nI (v 3)) (nI (r / 16)) (nI (2 * j)) fi ar = f_X1_live_60 n (nI (v 3)) (nI (r / 16)) (nI (2 * (j + 1))) fi a3 := by
      rw [f_X1_live_60, if_neg (show ¬ ((8 : Int32) ≤ nI (2 * j)) from nI_ge (a := 2 * j) (b := 8) (by omega) (by decide))]
      dsimp only [bindv]
      rw [bit8 (by omega) (by omega)]
      rw [if_ref (fun t => f_X1_live_86 (f_X1_live_60 n) (nI (v 3)) (nI (r / 16)) (nI (2 * j)) t fi ar) h3]
      unfold f_X1_live_86
      dsimp only [bindv]
      rw [show (nI (2 * j) + 1 : Int32) = nI (2 * j + 1) from nI_1 _, bit8 (by omega) (by omega)]
      rw [if_ref (fun t => f_X1_live_109 (f_X1_live_60 n) (nI (v 3)) (nI (r / 16)) (nI (2 * j)) (nI (refS v (r / 16) (2 * j))) t fi ar) h3]
      unfold f_X1_live_109
      dsimp only [bindv]
      have hs : nI (2 * j) >>> (((1 : Int32)) &&& 31) = nI j := by
        have := shr_ok (a := 2 * j) (k := 1) (by omega) (by decide)
        rw [show 2 * j / 2 ^ 1 = j by omega] at this
        exact this
      rw [gd_nI (by omega) (by decide), show (nI (2 * j) + 1 : Int32) = nI (2 * j + 1) from nI_1 _, gd_nI (by omega) (by decide), hs, e22, bit8 (by omega) (by omega)]
      have hbl := bN_lt (r % 16) j
      rw [nI_add, gd_nI (by omega) (by decide), gd_nI (by omega) (by decide)]
      rw [clampN (by omega), clampN (by omega), clampN (by omega), clampN (by omega)]
      rw [e25, e3, lit_nI 100, pk_mul, pk_mul, pk_mul, nI_add, ← ho0, ← ho1, ← ea1, ← ea2]
      have hv6 : a2 6 (2 * j + bN (r % 16) j) = nI (ownS v r j) := by
        rw [ea2, updA_eq]
        unfold ownS
        rcases bN_or (r % 16) j with h | h
        · rw [h, upd_ne _ _ (by omega), ea1, updA_eq, Nat.add_zero, upd_eq]
        · rw [h, upd_eq]
      rw [hv6, ← ea3]
      exact congrArg (fun z => f_X1_live_60 n (nI (v 3)) (nI (r / 16)) z fi a3) (nI_add (2 * j) 2)
    obtain ⟨ar', h1, h2', h3', h4, h5⟩ := ih n (j + 1) a3 (by omega) (by omega)
    refine ⟨ar', step.trans h1, fun k k6 k7 => (h2' k k6 k7).trans (qo k k6 k7), fun i hi => ?_, fun i hi => ?_, fun i hi hi4 => ?_⟩
    · rw [h3' i (by omega), q6, if_neg (by omega), if_neg (by omega)]
    · rw [h4 i (by omega), q7, if_neg (by omega)]
    · rcases Nat.lt_or_ge j i with h | h
      · exact h5 i (by omega) hi4
      · obtain rfl : i = j := by omega
        refine ⟨?_, ?_, ?_⟩
        · rw [h3' _ (by omega), q6, if_neg (by omega), if_pos rfl]
        · rw [h3' _ (by omega), q6, if_pos rfl]
        · rw [h4 _ (by omega), q7, if_pos rfl]
/-- live: the village v' is v with the eye that is told -/
theorem live_ok {v : Nat → Nat} (hv : Vok v) {r e : Nat} (hr : r < 4096) (he : e ≤ 50) {fi : Nat → Int32} {ar : Nat → Nat → Int32} (hf : ∀ k, k < 8 → fi (1 + k) = nI (v k)) :
    ∃ fi' ar', f_X1_live fi ar (nI r) (nI e) = some (fi', ar') ∧ Lived (eyeV v e) r fi' ar' ∧ (∀ k, k < 22 ∨ 27 < k → fi' k = fi k) ∧ ∀ k, k ≠ 6 → k ≠ 7 → ar' k = ar k := by
  obtain ⟨h0, h1, h2, h3, h4, h5, h6, h7⟩ := hv
  obtain ⟨f1, e1⟩ : ∃ z, z = upd fi 22 (nI (r % 16)) := ⟨_, rfl⟩
  obtain ⟨f2, e2⟩ : ∃ z, z = upd f1 25 (100 - (f1 3)) := ⟨_, rfl⟩
  obtain ⟨f3, e3⟩ : ∃ z, z = upd f2 23 (f2 1) := ⟨_, rfl⟩
  obtain ⟨f4, e4⟩ : ∃ z, z = upd f3 24 (f3 2) := ⟨_, rfl⟩
  obtain ⟨f5, e5⟩ : ∃ z, z = upd f4 26 (f4 5) := ⟨_, rfl⟩
  obtain ⟨f6, e6⟩ : ∃ z, z = upd f5 27 (f5 6) := ⟨_, rfl⟩
  have g : ∀ k, f6 k = if k = 27 then fi 6 else if k = 26 then fi 5 else if k = 24 then fi 2 else if k = 23 then fi 1 else if k = 25 then 100 - fi 3 else if k = 22 then nI (r % 16) else fi k := by
    intro k
    subst e6; subst e5; subst e4; subst e3; subst e2; subst e1
    simp [upd]
  have k1 : fi 1 = nI (v 0) := hf 0 (by decide)
  have k2 : fi 2 = nI (v 1) := hf 1 (by decide)
  have k3 : fi 3 = nI (v 2) := hf 2 (by decide)
  have k5 : fi 5 = nI (v 4) := hf 4 (by decide)
  have k6 : fi 6 = nI (v 5) := hf 5 (by decide)
  have g25 : f6 25 = nI (100 - v 2) := by
    rw [g]; simp; rw [k3]; exact pk_sub (a := 100) (b := v 2) (by omega)
  have g22 : f6 22 = nI (r % 16) := by rw [g]; simp
  have g3 : f6 3 = nI (v 2) := by rw [g]; simp [k3]
  obtain ⟨ar', a1, a2, a3, a4, a5⟩ := live_loop (v := eyeV v e) (by exact h2) (by exact he) hr (fi := f6) g22 g25 g3 4 5000 0 ar (by decide) (by decide)
  refine ⟨f6, ar', ?_, ⟨g22, ?_, ?_, g25, ?_, ?_, fun j hj => ⟨(a5 j (by omega) hj).1, (a5 j (by omega) hj).2.1⟩, fun j hj => (a5 j (by omega) hj).2.2⟩, fun k hk => ?_, a2⟩
  · unfold f_X1_live
    dsimp only [bindv]
    rw [wayOf_ok hr, namOf_ok hr, ← e1, ← e2, ← e3, ← e4, ← e5, ← e6]
    exact a1
  · rw [g]; simp [k1, eyeV]
  · rw [g]; simp [k2, eyeV]
  · rw [g]; simp [k5, eyeV]
  · rw [g]; simp [k6, eyeV]
  · rw [g]
    repeat rw [if_neg (by omega)]
theorem Vok_eye {v : Nat → Nat} (hv : Vok v) {e : Nat} (he : e ≤ 50) : Vok (eyeV v e) := ⟨hv.1, hv.2.1, hv.2.2.1, he, hv.2.2.2.2⟩
theorem eye_self {v : Nat → Nat} : eyeV v (v 3) = v := by
  funext k
  unfold eyeV
  split
  · rename_i h; rw [h]
  · rfl
theorem next_ok {v : Nat → Nat} (hv : Vok v) {r x : Nat} (hx : x ≤ 1000) {fi : Nat → Int32} {ar : Nat → Nat → Int32} (h : Lived v r fi ar) : f_X1_next fi ar (nI x) = nI (stS v r x) := by
  obtain ⟨-, -, -, -, h26, h27, -, ho⟩ := h
  have o := ownS_le hv r
  have o0 : ar 7 (Int32.toNatClampNeg 0) = nI (ownS v r 0) := ho 0 (by decide)
  have o1 : ar 7 (Int32.toNatClampNeg 1) = nI (ownS v r 1) := ho 1 (by decide)
  have o2 : ar 7 (Int32.toNatClampNeg 2) = nI (ownS v r 2) := ho 2 (by decide)
  have o3 : ar 7 (Int32.toNatClampNeg 3) = nI (ownS v r 3) := ho 3 (by decide)
  have q0 := o 0
  have q1 := o 1
  have q2 := o 2
  have q3 := o 3
  unfold f_X1_next
  dsimp only [bindv]
  rw [o0, o1, o2, o3, h26, h27, nI_add, lit_nI 1000, pk_sub (a := 1000) (b := x) hx, toL (by omega), toL (by omega), toL (by omega), toL (by omega), toL (by omega)]
  rw [lN_mul, lN_mul, lN_mul, lN_mul, lN_mul, lN_mul, lN_add, lN_add]
  exact end_ok hv r hx
