/-! numbers: ints as naturals, bounds, bits -/
theorem fa_lit (n : Nat) : (OfNat.ofNat n : Int32) = nI n := rfl
theorem fa_litL (n : Nat) : (OfNat.ofNat n : Int64) = lN n := rfl
theorem bN_lt (n k : Nat) : bN n k < 2 := Nat.mod_lt _ (by decide)
theorem bN_or (n k : Nat) : bN n k = 0 ∨ bN n k = 1 := by have := bN_lt n k; omega
theorem s_l : ∀ n, n < 32 → ((nI n &&& 31).toBitVec.smod 32).toNat = n := by decide +kernel
theorem shr_ok {a k : Nat} (ha : a < 2 ^ 31) (hk : k < 32) : nI a >>> (nI k &&& 31) = nI (a / 2 ^ k) := pk_shrN ha _ k (s_l k hk)
theorem shl_ok {a k : Nat} (hk : k < 32) (h : a * 2 ^ k < 2 ^ 32) : nI a <<< (nI k &&& 31) = nI (a * 2 ^ k) := pk_shlN _ k (s_l k hk) h
theorem and1_ok {a : Nat} (ha : a < 2 ^ 31) : nI a &&& 1 = nI (a % 2) := by
  have h := pk_andN (n := a) (by omega) (m := 1) 1 (by decide)
  simpa using h
theorem bit_ok {a k : Nat} (ha : a < 2 ^ 31) (hk : k < 32) : (nI a >>> (nI k &&& 31)) &&& 1 = nI (bN a k) := by
  rw [shr_ok ha hk, and1_ok (Nat.lt_of_le_of_lt (Nat.div_le_self _ _) ha)]
  rfl
theorem bit8 {a k : Nat} (ha : a < 2 ^ 31) (hk : k < 32) : f_X8_bit (nI a) (nI k) = nI (bN a k) := bit_ok ha hk
theorem nI_inj {a b : Nat} (ha : a < 2 ^ 31) (hb : b < 2 ^ 31) (h : nI a = nI b) : a = b := (nI_eq ha hb).mp h
theorem nI_nm1 {a : Nat} (ha : a < 2 ^ 31) : ¬ nI a = -1 := by
  intro h
  have h2 := congrArg Int32.toInt h
  rw [nI_toInt ha] at h2
  have : (-1 : Int32).toInt = -1 := by decide
  omega
theorem within_in (v lo hi : Int32) (lo' hi' : Int64) (h1 : lo'.toInt = lo.toInt) (h2 : hi'.toInt = hi.toInt) : f_X9_in v.toInt64 lo' hi' = f_X8_within v lo hi := by
  unfold f_X9_in f_X8_within
  have e1 : (lg_cmp v.toInt64 lo' < 0) ↔ v < lo := by rw [lg_cmp_lt, Int64.lt_iff_toInt_lt, Int32.lt_iff_toInt_lt, Int32.toInt_toInt64, h1]
  have e2 : (0 < lg_cmp v.toInt64 hi') ↔ hi < v := by rw [lg_cmp_gt, Int64.lt_iff_toInt_lt, Int32.lt_iff_toInt_lt, Int32.toInt_toInt64, h2]
  by_cases c1 : v < lo
  · rw [if_pos (e1.mpr c1), if_pos c1]
  · rw [if_neg (fun h => c1 (e1.mp h)), if_neg c1]
    by_cases c2 : hi < v
    · rw [if_pos (e2.mpr c2), if_pos c2]
    · rw [if_neg (fun h => c2 (e2.mp h)), if_neg c2]
theorem within_c (v : Int32) (n : Nat) (hn : n < 2 ^ 31) : f_X8_within v 0 (nI n) = 0 ∨ (f_X8_within v 0 (nI n) = 1 ∧ ∃ k, k ≤ n ∧ v = nI k) := by
  unfold f_X8_within
  by_cases c1 : v < 0
  · rw [if_pos c1]; exact Or.inl rfl
  · rw [if_neg c1]
    by_cases c2 : nI n < v
    · rw [if_pos c2]; exact Or.inl rfl
    · rw [if_neg c2]
      refine Or.inr ⟨rfl, nI_of2 (nI_toInt hn) c1 ?_⟩
      rw [Int32.le_iff_toInt_le]
      rw [Int32.lt_iff_toInt_lt] at c2
      omega
theorem within_k {k n : Nat} (hn : n < 2 ^ 31) (h : k ≤ n) : f_X8_within (nI k) 0 (nI n) = 1 := by
  unfold f_X8_within
  rw [if_neg (nI_pos (by omega)), if_neg (nI_nlt h hn)]
theorem rule_c (v : Int32) : f_X8_isRule v = 0 ∨ (f_X8_isRule v = 1 ∧ ∃ k, k < 4096 ∧ v = nI k) := by
  rcases within_c v 4095 (by decide) with h | ⟨h, k, hk, e⟩
  · exact Or.inl h
  · exact Or.inr ⟨h, k, by omega, e⟩
theorem share_c (v : Int32) : f_X8_isShare v = 0 ∨ (f_X8_isShare v = 1 ∧ ∃ k, k ≤ 1000 ∧ v = nI k) := within_c v 1000 (by decide)
theorem way_c (v : Int32) : f_X8_isWay v = 0 ∨ (f_X8_isWay v = 1 ∧ ∃ k, k < 16 ∧ v = nI k) := by
  rcases within_c v 15 (by decide) with h | ⟨h, k, hk, e⟩
  · exact Or.inl h
  · exact Or.inr ⟨h, k, by omega, e⟩
theorem person_c (v : Int32) : f_X5_isPerson v = 0 ∨ (f_X5_isPerson v = 1 ∧ ∃ k, k < 6 ∧ v = nI k) := by
  rcases within_c v 5 (by decide) with h | ⟨h, k, hk, e⟩
  · exact Or.inl h
  · exact Or.inr ⟨h, k, by omega, e⟩
theorem set_c (v : Int32) : f_X5_isSet v = 0 ∨ (f_X5_isSet v = 1 ∧ ∃ k, k < 64 ∧ v = nI k) := by
  rcases within_c v 63 (by decide) with h | ⟨h, k, hk, e⟩
  · exact Or.inl h
  · exact Or.inr ⟨h, k, by omega, e⟩
theorem rule9 (v : Int32) : f_X9_isRule v = f_X8_isRule v := within_in v 0 4095 0 4095 (by decide) (by decide)
theorem share9 (v : Int32) : f_X9_isShare v = f_X8_isShare v := within_in v 0 1000 0 1000 (by decide) (by decide)
theorem way9 (v : Int32) : f_X9_in (Int32.toInt64 v) 0 15 = f_X8_isWay v := within_in v 0 15 0 15 (by decide) (by decide)
theorem person9 (v : Int32) : f_X9_isPerson v = f_X5_isPerson v := within_in v 0 5 0 5 (by decide) (by decide)
theorem set9 (v : Int32) : f_X9_in (Int32.toInt64 v) 0 63 = f_X5_isSet v := within_in v 0 63 0 63 (by decide) (by decide)
theorem name9 (v : Int32) : f_X9_isName v = f_X8_within v 0 1 := within_in v 0 1 0 1 (by decide) (by decide)
theorem wayOf_ok {r : Nat} (h : r < 4096) : f_X8_wayOf (nI r) = nI (r % 16) := by
  have := pk_andN (n := r) (by omega) (m := 15) 4 (by decide)
  simpa [f_X8_wayOf] using this
theorem namOf_ok {r : Nat} (h : r < 4096) : f_X8_namingOf (nI r) = nI (r / 16) := by
  show nI r >>> (nI 4 &&& 31) = nI (r / 16)
  exact shr_ok (a := r) (k := 4) (by omega) (by decide)
theorem mod16_ok {r : Nat} (h : r < 4096) : nI r - nI r / 16 * 16 = nI (r % 16) := pk_rem (a := r) (d := 16) (by omega) (by decide) (by decide)
theorem div16_ok {r : Nat} (h : r < 4096) : nI r / 16 = nI (r / 16) := pk_div (a := r) (d := 16) (by omega) (by decide) (by decide)
theorem upd_eq (f : Nat → Int32) (k : Nat) (x : Int32) : upd f k x k = x := pk_us
theorem upd_ne (f : Nat → Int32) {k j : Nat} (x : Int32) (h : j ≠ k) : upd f k x j = f j := pk_un h
theorem updA_eq (a : Nat → Nat → Int32) (k : Nat) (f : Nat → Int32) : updA a k f k = f := if_pos rfl
theorem updA_ne (a : Nat → Nat → Int32) {k j : Nat} (f : Nat → Int32) (h : j ≠ k) : updA a k f j = a j := if_neg h
theorem gd_nI {α : Type} {k n : Nat} {o : Option α} (h : k < n) (hn : n < 2 ^ 31) : gd (nI k) n o = o := gd_in (vp_in_nI h hn)
theorem bind1_some {α β : Type} (a : α) (f : α → Option β) : bind1 (some a) f = f a := rfl
theorem bind2_some {α β γ : Type} (a : α) (b : β) (f : α → β → Option γ) : bind2 (some (a, b)) f = f a b := rfl
theorem bind3_some {α β γ δ : Type} (a : α) (b : β) (c : γ) (f : α → β → γ → Option δ) : bind3 (some (a, b, c)) f = f a b c := rfl
theorem bind4_some {α β γ δ ε : Type} (a : α) (b : β) (c : γ) (d : δ) (f : α → β → γ → δ → Option ε) : bind4 (some (a, b, c, d)) f = f a b c d := rfl
