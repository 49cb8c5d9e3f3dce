/-! plain, turned: finite -/
set_option maxRecDepth 100000 in
theorem hang_w : ∀ a, a < 16 → f_X8_hangs (nI a) 4 2 = f_X9_hangs (nI a) 4 2 ∧ f_X8_hangs (nI a) 4 1 = f_X9_hangs (nI a) 4 1 := by decide +kernel
set_option maxRecDepth 100000 in
theorem hang_n : ∀ a, a < 256 → f_X8_hangs (nI a) 8 4 = f_X9_hangs (nI a) 8 4 ∧ f_X8_hangs (nI a) 8 2 = f_X9_hangs (nI a) 8 2 ∧ f_X8_hangs (nI a) 8 1 = f_X9_hangs (nI a) 8 1 := by decide +kernel
set_option maxRecDepth 100000 in
theorem hang_ws : ∀ a, a < 16 → ∃ b, b < 2 ∧ ∃ c, c < 2 ∧ f_X8_hangs (nI a) 4 2 = some (nI b) ∧ f_X8_hangs (nI a) 4 1 = some (nI c) := by decide +kernel
set_option maxRecDepth 100000 in
theorem hang_ns : ∀ a, a < 256 → ∃ b, b < 2 ∧ ∃ c, c < 2 ∧ ∃ d, d < 2 ∧ f_X8_hangs (nI a) 8 4 = some (nI b) ∧ f_X8_hangs (nI a) 8 2 = some (nI c) ∧ f_X8_hangs (nI a) 8 1 = some (nI d) := by decide +kernel
theorem plain_ok {r : Nat} (hr : r < 4096) : ∃ k, k ≤ 5 ∧ f_X8_plainness (nI r) = some (nI k) ∧ f_X9_plainOf (nI r) = some (nI k) := by
  obtain ⟨b, hb, c, hc, e1, e2⟩ := hang_ws (r % 16) (by omega)
  obtain ⟨d, hd, e, he, f, hf, e3, e4, e5⟩ := hang_ns (r / 16) (by omega)
  have w := hang_w (r % 16) (by omega)
  have n := hang_n (r / 16) (by omega)
  refine ⟨b + c + d + e + f, by omega, ?_, ?_⟩
  · unfold f_X8_plainness
    dsimp only [bindv]
    rw [wayOf_ok hr, namOf_ok hr, e1, bind1_some, e2, bind1_some, e3, bind1_some, e4, bind1_some, e5, bind1_some, nI_add, nI_add, nI_add, nI_add]
  · unfold f_X9_plainOf
    dsimp only [bindv]
    rw [mod16_ok hr, div16_ok hr, ← w.1, e1, bind1_some, ← w.2, e2, bind1_some, ← n.1, e3, bind1_some, ← n.2.1, e4, bind1_some, ← n.2.2, e5, bind1_some, nI_add, nI_add, nI_add, nI_add]
theorem st_plain {fi : Nat → Int32} {fl : Nat → Int64} {ar : Nat → Nat → Int32} {gi : Nat → Int32} {gl : Nat → Int64} {br : Nat → Nat → Int32} (h : Rel fi fl ar gi gl br) (a0 : Int32) : ∃ (r : Int32), f_X8_plain a0 = some r ∧ f_X9_plain a0 = some r ∧ Rel fi fl ar gi gl br := by
  unfold f_X8_plain f_X9_plain
  dsimp only [bindv]
  rw [rule9]
  rcases rule_c a0 with q | ⟨q, r, hr, rfl⟩
  · rw [q, if_pos rfl, if_pos rfl]
    exact ⟨_, rfl, rfl, h⟩
  · obtain ⟨k, -, e1, e2⟩ := plain_ok hr
    rw [q, if_neg n10, if_neg n10, e1, e2]
    exact ⟨_, rfl, rfl, h⟩
