/-! feed -/
theorem nI_all (y : Int32) : y = nI y.toBitVec.toNat := by
  apply Int32.toBitVec_inj.mp
  show y.toBitVec = BitVec.ofNat 32 y.toBitVec.toNat
  rw [BitVec.ofNat_toNat, BitVec.setWidth_eq]
theorem byte_ok (x : Int64) : ∃ b, b < 256 ∧ Int64.toInt32 x &&& 255 = nI b ∧ Int64.toInt32 (x &&& 255) = nI b := by
  have e1 : Int64.toInt32 (x &&& 255) = Int64.toInt32 x &&& 255 := by
    rw [Int64.toInt32_and]; rfl
  obtain ⟨n, hn, e⟩ : ∃ n, n < 2 ^ 32 ∧ Int64.toInt32 x = nI n := ⟨_, (Int64.toInt32 x).toBitVec.isLt, nI_all _⟩
  have h := pk_andN (n := n) (by omega) (m := 255) 8 (by decide)
  rw [e1, e]
  exact ⟨n % 2 ^ 8, Nat.mod_lt _ (by decide), h, h⟩
theorem nI_lei {a b : Nat} (ha : a < 2 ^ 31) (hb : b < 2 ^ 31) : nI a ≤ nI b ↔ a ≤ b := by
  rw [Int32.le_iff_toInt_le, nI_toInt ha, nI_toInt hb]; omega
theorem nI_lti {a b : Nat} (ha : a < 2 ^ 31) (hb : b < 2 ^ 31) : nI a < nI b ↔ a < b := by
  rw [Int32.lt_iff_toInt_lt, nI_toInt ha, nI_toInt hb]; omega
theorem feed_loop (z : Int64) : ∀ (m N N' n : Nat) (v4 : Int32) (fi : Nat → Int32) (ar : Nat → Nat → Int32) (gi : Nat → Int32) (br : Nat → Nat → Int32), v4 = nI m - 1 → n + m ≤ 120 → m ≤ 8 → m < N → m < N' → fi 9 = nI n → gi 1 = nI n → (∀ j, j < n → ∃ b, b < 256 ∧ ar 3 j = nI b ∧ br 3 j = nI b) →
    ∃ fi' ar' gi' br', f_X3_append_20 N z v4 fi ar = some (nI (n + m), fi', ar') ∧ f_X9_feed_36 N' z v4 gi br = some (nI (n + m), gi', br') ∧ fi' 9 = nI (n + m) ∧ gi' 1 = nI (n + m) ∧ (∀ j, j < n + m → ∃ b, b < 256 ∧ ar' 3 j = nI b ∧ br' 3 j = nI b) ∧ (∀ k, k ≠ 9 → fi' k = fi k) ∧ (∀ k, k ≠ 1 → gi' k = gi k) ∧ (∀ k, k ≠ 3 → ar' k = ar k) ∧ ∀ k, k ≠ 3 → br' k = br k := by
  intro m
  induction m with
  | zero =>
    intro N N' n v4 fi ar gi br hv hn h8 hN hN' h9 h1 ht
    obtain ⟨N, rfl⟩ : ∃ z, N = z + 1 := ⟨N - 1, by omega⟩
    obtain ⟨N', rfl⟩ : ∃ z, N' = z + 1 := ⟨N' - 1, by omega⟩
    have hv0 : v4 < 0 := by rw [hv]; decide
    refine ⟨fi, ar, gi, br, ?_, ?_, h9, h1, ht, fun _ _ => rfl, fun _ _ => rfl, fun _ _ => rfl, fun _ _ => rfl⟩
    · rw [f_X3_append_20, if_pos hv0, h9]; rfl
    · rw [f_X9_feed_36, if_pos hv0, h1]; rfl
  | succ m ih =>
    intro N N' n v4 fi ar gi br hv hn h8 hN hN' h9 h1 ht
    obtain ⟨N, rfl⟩ : ∃ z, N = z + 1 := ⟨N - 1, by omega⟩
    obtain ⟨N', rfl⟩ : ∃ z, N' = z + 1 := ⟨N' - 1, by omega⟩
    have hv1 : v4 = nI m := hv.trans (nI_pred m)
    have hv0 : ¬ v4 < 0 := by rw [hv1]; exact nI_pos (by omega)
    obtain ⟨b, hb, b1, b2⟩ := byte_ok (z >>> (Int32.toInt64 (8 * v4) &&& 63))
    obtain ⟨a1, ea1⟩ : ∃ q, q = updA ar 3 (upd (ar 3) n (nI b)) := ⟨_, rfl⟩
    obtain ⟨d1, ed1⟩ : ∃ q, q = updA br 3 (upd (br 3) n (nI b)) := ⟨_, rfl⟩
    obtain ⟨f1, ef1⟩ : ∃ q, q = upd fi 9 (nI (n + 1)) := ⟨_, rfl⟩
    obtain ⟨g1, eg1⟩ : ∃ q, q = upd gi 1 (nI (n + 1)) := ⟨_, rfl⟩
    have s1 : f_X3_append_20 (N + 1) z v4 fi ar = f_X3_append_20 N z (v4 + (-1)) f1 a1 := by
      rw [f_X3_append_20, if_neg hv0, h9, gd_nI (by omega) (by decide), bindv_def, bindv_def, bindv_def, clampN (by omega), b1, nI_1, ← ea1, ← ef1]
    have s2 : f_X9_feed_36 (N' + 1) z v4 gi br = f_X9_feed_36 N' z (v4 + (-1)) g1 d1 := by
      rw [f_X9_feed_36, if_neg hv0, h1, gd_nI (by omega) (by decide), bindv_def, bindv_def, bindv_def, clampN (by omega), b2, nI_1, ← ed1, ← eg1]
    obtain ⟨fi', ar', gi', br', r1, r2, r3, r4, r5, r6, r7, r8, r9⟩ := ih N N' (n + 1) (v4 + (-1)) f1 a1 g1 d1 (by rw [hv1, Int32.sub_eq_add_neg]) (by omega) (by omega) (by omega) (by omega) (by rw [ef1, upd_eq]) (by rw [eg1, upd_eq])
      (fun j hj => by
        rw [ea1, ed1, updA_eq, updA_eq]
        by_cases q : j = n
        · rw [q, upd_eq, upd_eq]; exact ⟨b, hb, rfl, rfl⟩
        · rw [upd_ne _ _ q, upd_ne _ _ q]; exact ht j (by omega))
    rw [show n + 1 + m = n + (m + 1) by omega] at r1 r2 r3 r4 r5
    refine ⟨fi', ar', gi', br', s1.trans r1, s2.trans r2, r3, r4, r5, fun k hk => ?_, fun k hk => ?_, fun k hk => ?_, fun k hk => ?_⟩
    · rw [r6 k hk, ef1, upd_ne _ _ hk]
    · rw [r7 k hk, eg1, upd_ne _ _ hk]
    · rw [r8 k hk, ea1, updA_ne _ _ hk]
    · rw [r9 k hk, ed1, updA_ne _ _ hk]
theorem w18 (v : Int32) : f_X8_within v 1 8 = 0 ∨ (f_X8_within v 1 8 = 1 ∧ ∃ k, 1 ≤ k ∧ k ≤ 8 ∧ v = nI k) := by
  unfold f_X8_within
  by_cases c1 : v < 1
  · rw [if_pos c1]; exact Or.inl rfl
  · rw [if_neg c1]
    by_cases c2 : (8 : Int32) < v
    · rw [if_pos c2]; exact Or.inl rfl
    · rw [if_neg c2]
      rw [Int32.lt_iff_toInt_lt] at c1 c2
      have d1 : (1 : Int32).toInt = 1 := by decide
      have d8 : (8 : Int32).toInt = 8 := by decide
      obtain ⟨k, hk, e⟩ := nI_of2 (n := 8) (M := (8 : Int32)) (x := v) (by decide) (by rw [Int32.lt_iff_toInt_lt, show (0 : Int32).toInt = 0 by decide]; omega) (by rw [Int32.le_iff_toInt_le]; omega)
      refine Or.inr ⟨rfl, k, ?_, hk, e⟩
      rcases Nat.eq_zero_or_pos k with q | q
      · rw [e, q] at c1; exact absurd (by decide) c1
      · exact q
theorem st_feed {fi : Nat → Int32} {fl : Nat → Int64} {ar : Nat → Nat → Int32} {gi : Nat → Int32} {gl : Nat → Int64} {br : Nat → Nat → Int32} (h : Rel fi fl ar gi gl br) (a0 : Int32) (a1 : Int64) : ∃ (r : Int32) (fi' : Nat → Int32) (ar' : Nat → Nat → Int32) (gi' : Nat → Int32) (br' : Nat → Nat → Int32), f_X8_feed fi ar a0 a1 = some (r, fi', ar') ∧ f_X9_feed gi br a0 a1 = some (r, gi', br') ∧ Rel fi' fl ar' gi' gl br' := by
  have e9 : f_X9_in (Int32.toInt64 a0) 1 8 = f_X8_within a0 1 8 := within_in a0 1 8 1 8 (by decide) (by decide)
  obtain ⟨F, hF⟩ : ∃ n : Nat, n = 5000 := ⟨_, rfl⟩
  unfold f_X8_feed f_X9_feed f_X3_append
  rw [bindv_def, bindv_def, bindv_def, bindv_def, e9, ← hF]
  rcases w18 a0 with q | ⟨q, m, hm1, hm, rfl⟩
  · rw [q, if_pos rfl, if_pos rfl]
    exact ⟨_, _, _, _, _, rfl, rfl, h⟩
  rw [q, if_neg n10, if_neg n10]
  have h' := h
  obtain ⟨v, ⟨hv, hf, hb⟩, hl, ⟨n, hn, t2, t3, t4⟩, h10, hw, h3, hs⟩ := h'
  have e1 : (nI m ≤ (120 - fi 9 : Int32)) ↔ n + m ≤ 120 := by
    rw [t2, lit_nI 120, pk_sub (a := 120) (b := n) hn, nI_lei (by omega) (by omega)]; omega
  have e2 : ((gi 1 + nI m) ≤ (120 : Int32)) ↔ n + m ≤ 120 := by
    rw [t3, nI_add, lit_nI 120, nI_lei (by omega) (by omega)]
  by_cases c : n + m ≤ 120
  · rw [if_pos (e1.mpr c), if_pos (e2.mpr c)]
    obtain ⟨fi', ar', gi', br', r1, r2, r3, r4, r5, r6, r7, r8, r9⟩ := feed_loop a1 m F F n (nI m - 1) fi ar gi br rfl c hm (by omega) (by omega) t2 t3 t4
    rw [r1, bind3_some]
    refine ⟨_, fi', ar', gi', br', rfl, r2, v, ⟨hv, fun k hk => ?_, fun k hk => ?_⟩, ?_, ⟨n + m, c, r3, r4, r5⟩, ?_, ?_, fun j hj => ?_, ?_⟩
    · rw [r6 _ (by omega)]; exact hf k hk
    · rw [r9 _ (by decide)]; exact hb k hk
    · unfold RLst; rw [r6 0 (by decide), r7 0 (by decide)]; exact hl
    · rw [r6 10 (by decide), r7 6 (by decide)]; exact h10
    · unfold RVw
      rw [r8 16 (by decide), r8 17 (by decide), r9 5 (by decide), r9 6 (by decide)]; exact hw
    · rw [r8 10 (by decide)]; exact h3 j hj
    · unfold RSv
      rw [r8 14 (by decide), r6 31 (by decide), r6 32 (by decide), r6 33 (by decide)]; exact hs
  · rw [if_neg (fun z => c (e1.mp z)), if_neg (fun z => c (e2.mp z)), bind3_some]
    exact ⟨_, _, _, _, _, rfl, rfl, h⟩
