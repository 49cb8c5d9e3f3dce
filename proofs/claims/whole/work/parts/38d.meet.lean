theorem bindv_def {α β : Type} (x : α) (f : α → β) : bindv x f = f x := by unfold bindv; exact rfl
theorem meet_both {v : Nat → Nat} {fi : Nat → Int32} {ar br : Nat → Nat → Int32} {g k : Nat → Nat} (h6 : v 6 ≤ 15) (h7 : v 7 ≤ 255) (e7 : fi 7 = nI (v 6)) (e8 : fi 8 = nI (v 7)) (g6 : br 1 6 = nI (v 6)) (g7 : br 1 7 = nI (v 7)) (hg : RV1 ar br g k) {a b w : Nat} (ha : a < 6) (hb : b < 6) (hw : w < 64) :
    ∃ (d : Nat) (ar' br' : Nat → Nat → Int32) (g' : Nat → Nat), f_X5_meeting fi ar (nI a) (nI b) (nI w) = some (nI d, ar') ∧ (bind1 (f_X9_nameOf br (nI a) (nI a)) (fun r_23 => bind1 (f_X9_nameOf br (nI a) (nI b)) (fun r_25 => bindv (f_X9_means (br 1 (Int32.toNatClampNeg 6)) r_23 r_25) (fun r_27 => f_X9_meet_62 5000 (nI a) (nI b) (nI w) r_27 0 br)))) = some (nI d, br') ∧ RV1 ar' br' g' k ∧ (∀ q, q ≠ 16 → ar' q = ar q) ∧ (∀ q, q ≠ 5 → br' q = br q) := by
  have b1 := bN_lt (g a) a
  have b2 := bN_lt (g a) b
  obtain ⟨d, hd⟩ : ∃ d, d = bN (v 6) (2 * bN (g a) a + bN (g a) b) := ⟨_, rfl⟩
  have hd2 : d < 2 := by rw [hd]; exact bN_lt _ _
  obtain ⟨F, hF⟩ : ∃ n : Nat, n = 5000 := ⟨_, rfl⟩
  obtain ⟨ar', br', g', r1, r2, r3, r4, r5⟩ := meet_loop (v := v) (fi := fi) h7 e8 ha hb hw hd2 (k := k) 6 F F 0 ar br g (by decide) (by omega) (by omega) g7 hg
  refine ⟨d, ar', br', g', ?_, ?_, r3, r4, r5⟩
  · unfold f_X5_meeting
    rw [name8 hg ha ha, bind1_some, name8 hg ha hb, bind1_some, bindv_def, e7, lit_nI 2, pk_mul, nI_add, bit8 (by omega) (by omega), ← hd, ← hF]
    exact r1
  · rw [nameOf_ok hg ha ha, bind1_some, nameOf_ok hg ha hb, bind1_some, bindv_def, show br 1 (Int32.toNatClampNeg 6) = nI (v 6) from g6, means_ok (by omega) b1 b2, ← hd, ← hF]
    exact r2
theorem st_meet {fi : Nat → Int32} {fl : Nat → Int64} {ar : Nat → Nat → Int32} {gi : Nat → Int32} {gl : Nat → Int64} {br : Nat → Nat → Int32} (h : Rel fi fl ar gi gl br) (a0 : Int32) (a1 : Int32) (a2 : Int32) : ∃ (r : Int32) (ar' : Nat → Nat → Int32) (br' : Nat → Nat → Int32), f_X8_meet fi ar a0 a1 a2 = some (r, ar') ∧ f_X9_meet br a0 a1 a2 = some (r, br') ∧ Rel fi fl ar' gi gl br' := by
  have c9 : f_X9_meet br a0 a1 a2 = if f_X5_arePair a0 a1 = 0 then some (-1001, br) else if f_X5_isSet a2 = 0 then some (-1001, br) else (bind1 (f_X9_nameOf br a0 a0) (fun r_23 => bind1 (f_X9_nameOf br a0 a1) (fun r_25 => bindv (f_X9_means (br 1 (Int32.toNatClampNeg 6)) r_23 r_25) (fun r_27 => f_X9_meet_62 5000 a0 a1 a2 r_27 0 br)))) := by
    unfold f_X9_meet
    rw [← pairM, bindv_def, person9]
    by_cases q : f_X5_isPerson a0 = 0
    · rw [if_pos q, if_pos q]
    rw [if_neg q, if_neg q, bindv_def, person9]
    by_cases q1 : f_X5_isPerson a1 = 0
    · rw [if_pos q1, if_pos q1]
    rw [if_neg q1, if_neg q1]
    by_cases q2 : a0 = a1
    · rw [if_pos q2, if_pos q2]
    rw [if_neg q2, if_neg q2, bindv_def, set9]
  have c8 : f_X8_meet fi ar a0 a1 a2 = if f_X5_arePair a0 a1 = 0 then some (-1001, ar) else if f_X5_isSet a2 = 0 then some (-1001, ar) else (bind2 (f_X5_meeting fi ar a0 a1 a2) (fun r_7 ar_8 => some (r_7, ar_8))) := by
    unfold f_X8_meet
    rw [bindv_def]
    by_cases q : f_X5_arePair a0 a1 = 0
    · rw [if_pos q, if_pos q]
    rw [if_neg q, if_neg q, bindv_def]
  rw [c8, c9]
  rcases pair9 a0 a1 with q | ⟨q, a, b, ha, hb, hab, rfl, rfl⟩
  · rw [q, if_pos rfl, if_pos rfl]; exact ⟨_, _, _, rfl, rfl, h⟩
  rw [q, if_neg n10, if_neg n10]
  rcases set_c a2 with q1 | ⟨q1, w, hw, rfl⟩
  · rw [q1, if_pos rfl, if_pos rfl]; exact ⟨_, _, _, rfl, rfl, h⟩
  rw [q1, if_neg n10, if_neg n10]
  have h' := h
  obtain ⟨v, ⟨hv, hf, hbv⟩, -, -, -, ⟨g, k, hg⟩, -⟩ := h'
  obtain ⟨d, ar', br', g', r1, r2, r3, r4, r5⟩ := meet_both (v := v) (fi := fi) hv.2.2.2.2.2.2.1 hv.2.2.2.2.2.2.2 (hf 6 (by decide)) (hf 7 (by decide)) (hbv 6 (by decide)) (hbv 7 (by decide)) hg ha hb hw
  rw [r1, bind2_some, r2]
  exact ⟨_, ar', br', rfl, rfl, h.views (fun q h16 h17 => r4 q h16) (fun q h5 h6 => r5 q h5) r3⟩
