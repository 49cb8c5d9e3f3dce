set_option maxRecDepth 100000 in
theorem turn_dec : ∀ a, a < 256 → ∀ b, b < 16 → (f_X8_turnedAbout (nI (16 * a + b)) = f_X9_turnedOf (nI (16 * a + b)) ∧ (f_X8_turnedAbout (nI (16 * a + b))).any (fun y => decide (0 ≤ y ∧ y ≤ 4095)) = true) := by decide +kernel
theorem turn_ok {r : Nat} (hr : r < 4096) : ∃ k, k < 4096 ∧ f_X8_turnedAbout (nI r) = some (nI k) ∧ f_X9_turnedOf (nI r) = some (nI k) := by
  have h := turn_dec (r / 16) (by omega) (r % 16) (by omega)
  rw [show 16 * (r / 16) + r % 16 = r by omega] at h
  obtain ⟨h1, h2⟩ := h
  cases hz : f_X8_turnedAbout (nI r) with
  | none => rw [hz] at h2; cases h2
  | some y =>
    rw [hz] at h2
    have h3 : 0 ≤ y ∧ y ≤ 4095 := by simpa using h2
    have h0 : ¬ y < 0 := by
      intro hn
      rw [Int32.lt_iff_toInt_lt] at hn
      have := h3.1
      rw [Int32.le_iff_toInt_le] at this
      omega
    obtain ⟨k, hk, rfl⟩ := nI_of2 (n := 4095) (by decide) h0 h3.2
    exact ⟨k, by omega, rfl, by rw [← h1, hz]⟩
theorem st_turned {fi : Nat → Int32} {fl : Nat → Int64} {ar : Nat → Nat → Int32} {gi : Nat → Int32} {gl : Nat → Int64} {br : Nat → Nat → Int32} (h : Rel fi fl ar gi gl br) (a0 : Int32) : ∃ (r : Int32), f_X8_turned a0 = some r ∧ f_X9_turned a0 = some r ∧ Rel fi fl ar gi gl br := by
  unfold f_X8_turned f_X9_turned
  dsimp only [bindv]
  rw [rule9]
  rcases rule_c a0 with q | ⟨q, r, hr, rfl⟩
  · rw [q, if_pos rfl, if_pos rfl]
    exact ⟨_, rfl, rfl, h⟩
  · obtain ⟨k, -, e1, e2⟩ := turn_ok hr
    rw [q, if_neg n10, if_neg n10, e1, e2]
    exact ⟨_, rfl, rfl, h⟩
