/-! views: view, call, kin, forget, meet -/
def setB (g c t : Nat) : Nat := g - bN g c * 2 ^ c + t * 2 ^ c
theorem setB_dec : ∀ g, g < 64 → ∀ c, c < 6 → ∀ t, t < 2 → (setB g c t < 64 ∧ ((nI g &&& (((1 : Int32) <<< (nI c &&& 31)) ^^^ (-1))) ||| (nI t <<< (nI c &&& 31))) = nI (setB g c t)) := by decide +kernel
theorem setB_bit : ∀ g, g < 64 → ∀ c, c < 6 → ∀ t, t < 2 → ∀ j, j < 6 → bN (setB g c t) j = if j = c then t else bN g j := by decide +kernel
theorem one9 {b : Nat} (h : b < 2) : f_X9_one (nI b) = nI b := by
  rcases (show b = 0 ∨ b = 1 by omega) with rfl | rfl <;> rfl
theorem ix_ok {p c : Nat} : (6 * nI p + nI c : Int32) = nI (6 * p + c) := by rw [lit_nI 6, pk_mul, nI_add]
def RV1 (ar br : Nat → Nat → Int32) (g k : Nat → Nat) : Prop := ∀ p, p < 6 → g p < 64 ∧ k p < 64 ∧ ar 16 p = nI (g p) ∧ ar 17 p = nI (k p) ∧ br 6 p = nI (k p) ∧ ∀ c, c < 6 → br 5 (6 * p + c) = nI (bN (g p) c)
theorem name8 {ar br : Nat → Nat → Int32} {g k : Nat → Nat} (h : RV1 ar br g k) {p c : Nat} (hp : p < 6) (hc : c < 6) : f_X5_name ar (nI p) (nI c) = some (nI (bN (g p) c)) := by
  obtain ⟨h1, h2, h3, h4, h5, h6⟩ := h p hp
  unfold f_X5_name
  dsimp only [bindv]
  rw [gd_nI hp (by decide), clampN (by omega), h3, bit8 (by omega) (by omega)]
theorem nameOf_ok {ar br : Nat → Nat → Int32} {g k : Nat → Nat} (h : RV1 ar br g k) {p c : Nat} (hp : p < 6) (hc : c < 6) : f_X9_nameOf br (nI p) (nI c) = some (nI (bN (g p) c)) := by
  obtain ⟨h1, h2, h3, h4, h5, h6⟩ := h p hp
  unfold f_X9_nameOf
  dsimp only [bindv]
  rw [ix_ok, gd_nI (by omega) (by decide), clampN (by omega), h6 c hc, one9 (bN_lt _ _)]
/-- Rel with other views -/
theorem Rel.views {fi : Nat → Int32} {fl : Nat → Int64} {ar ar' : Nat → Nat → Int32} {gi : Nat → Int32} {gl : Nat → Int64} {br br' : Nat → Nat → Int32} (h : Rel fi fl ar gi gl br) (h2 : ∀ q, q ≠ 16 → q ≠ 17 → ar' q = ar q) (h5 : ∀ q, q ≠ 5 → q ≠ 6 → br' q = br q) {g k : Nat → Nat} (hv : RV1 ar' br' g k) : Rel fi fl ar' gi gl br' := by
  obtain ⟨v, ⟨hvk, hf, hb⟩, hl, ⟨n, t1, t2, t3, t4⟩, h10, hw, hc, hs⟩ := h
  refine ⟨v, ⟨hvk, hf, fun k hk => by rw [h5 1 (by decide) (by decide)]; exact hb k hk⟩, hl, ⟨n, t1, t2, t3, ?_⟩, h10, ⟨g, k, hv⟩, fun j hj => by rw [h2 10 (by decide) (by decide)]; exact hc j hj, ?_⟩
  · rw [h2 3 (by decide) (by decide), h5 3 (by decide) (by decide)]; exact t4
  · unfold RSv
    rw [h2 14 (by decide) (by decide)]; exact hs
theorem st_view {fi : Nat → Int32} {fl : Nat → Int64} {ar : Nat → Nat → Int32} {gi : Nat → Int32} {gl : Nat → Int64} {br : Nat → Nat → Int32} (h : Rel fi fl ar gi gl br) (a0 : Int32) (a1 : Int32) : ∃ (r : Int32), f_X8_view ar a0 a1 = some r ∧ f_X9_view br a0 a1 = some r ∧ Rel fi fl ar gi gl br := by
  unfold f_X8_view f_X9_view
  dsimp only [bindv]
  rw [person9, person9]
  rcases person_c a0 with q | ⟨q, p, hp, rfl⟩
  · rw [q, if_pos rfl, if_pos rfl]; exact ⟨_, rfl, rfl, h⟩
  rw [q, if_neg n10, if_neg n10]
  rcases person_c a1 with q1 | ⟨q1, c, hc, rfl⟩
  · rw [q1, if_pos rfl, if_pos rfl]; exact ⟨_, rfl, rfl, h⟩
  rw [q1, if_neg n10, if_neg n10]
  have h' := h
  obtain ⟨v, -, -, -, -, ⟨g, k, hv⟩, -⟩ := h'
  rw [name8 hv hp hc, nameOf_ok hv hp hc]
  exact ⟨_, rfl, rfl, h⟩
theorem put_ok {ar br : Nat → Nat → Int32} {g k : Nat → Nat} (h : RV1 ar br g k) {p c t : Nat} (hp : p < 6) (hc : c < 6) (ht : t < 2) : f_X5_put ar (nI p) (nI c) (nI t) = some (updA ar 16 (upd (ar 16) p (nI (setB (g p) c t)))) := by
  obtain ⟨h1, h2, h3, h4, h5, h6⟩ := h p hp
  unfold f_X5_put
  dsimp only [bindv]
  rw [gd_nI hp (by decide), gd_nI hp (by decide), clampN (by omega), h3, (setB_dec (g p) h1 c hc t ht).2]
def updN (f : Nat → Nat) (k x : Nat) : Nat → Nat := fun j => if j = k then x else f j
/-- a name is put on both sides -/
theorem RV1.put {ar br : Nat → Nat → Int32} {g k : Nat → Nat} (h : RV1 ar br g k) {p c t : Nat} (hp : p < 6) (hc : c < 6) (ht : t < 2) : RV1 (updA ar 16 (upd (ar 16) p (nI (setB (g p) c t)))) (updA br 5 (upd (br 5) (6 * p + c) (nI t))) (updN g p (setB (g p) c t)) k := by
  intro p' hp'
  obtain ⟨h1, h2, h3, h4, h5, h6⟩ := h p' hp'
  rw [updA_eq, updA_ne _ _ (by decide), updA_ne _ _ (by decide), updA_eq]
  unfold updN
  by_cases q : p' = p
  · subst q
    rw [if_pos rfl, upd_eq]
    refine ⟨(setB_dec _ h1 c hc t ht).1, h2, rfl, h4, h5, fun c' hc' => ?_⟩
    rw [setB_bit _ h1 c hc t ht c' hc']
    by_cases q2 : c' = c
    · rw [if_pos q2, q2, upd_eq]
    · rw [if_neg q2, upd_ne _ _ (by omega)]; exact h6 c' hc'
  · rw [if_neg q, upd_ne _ _ q]
    refine ⟨h1, h2, h3, h4, h5, fun c' hc' => ?_⟩
    rw [upd_ne _ _ (by omega)]; exact h6 c' hc'
theorem nar_b {t : Nat} (ht : t < 2) : vp_nar .boolean (nI t) = nI t := by
  rcases (show t = 0 ∨ t = 1 by omega) with rfl | rfl <;> rfl
theorem st_call {fi : Nat → Int32} {fl : Nat → Int64} {ar : Nat → Nat → Int32} {gi : Nat → Int32} {gl : Nat → Int64} {br : Nat → Nat → Int32} (h : Rel fi fl ar gi gl br) (a0 : Int32) (a1 : Int32) (a2 : Int32) : ∃ (r : Int32) (ar' : Nat → Nat → Int32) (br' : Nat → Nat → Int32), f_X8_call ar a0 a1 a2 = some (r, ar') ∧ f_X9_call br a0 a1 a2 = some (r, br') ∧ Rel fi fl ar' gi gl br' := by
  unfold f_X8_call f_X9_call
  dsimp only [bindv]
  rw [person9, person9, name9]
  rcases person_c a0 with q | ⟨q, p, hp, rfl⟩
  · rw [q, if_pos rfl, if_pos rfl]; exact ⟨_, _, _, rfl, rfl, h⟩
  rw [q, if_neg n10, if_neg n10]
  rcases person_c a1 with q1 | ⟨q1, c, hc, rfl⟩
  · rw [q1, if_pos rfl, if_pos rfl]; exact ⟨_, _, _, rfl, rfl, h⟩
  rw [q1, if_neg n10, if_neg n10]
  rcases within_c a2 1 (by decide) with q2 | ⟨q2, t, ht, rfl⟩
  · have q2' : f_X8_within a2 0 1 = 0 := q2
    rw [q2', if_pos rfl, if_pos rfl]; exact ⟨_, _, _, rfl, rfl, h⟩
  have q2' : f_X8_within (nI t) 0 1 = 1 := q2
  rw [q2', if_neg n10, if_neg n10]
  have h' := h
  obtain ⟨v, -, -, -, -, ⟨g, k, hv⟩, -⟩ := h'
  rw [name8 hv hp hc, nameOf_ok hv hp hc, bind1_some, bind1_some, put_ok hv hp hc (by omega : t < 2), bind1_some, ix_ok, gd_nI (by omega) (by decide), clampN (by omega)]
  have hr := RV1.put hv hp hc (by omega : t < 2)
  have e : (if nI t = 1 then some (nI (bN (g p) c), updA br 5 (upd (br 5) (6 * p + c) (vp_nar .boolean 1))) else (gd (nI (6 * p + c)) 36 (some (nI (bN (g p) c), updA br 5 (upd (br 5) (6 * p + c) (vp_nar .boolean 0)))))) = some (nI (bN (g p) c), updA br 5 (upd (br 5) (6 * p + c) (nI t))) := by
    rcases (show t = 0 ∨ t = 1 by omega) with rfl | rfl
    · rw [if_neg (by decide), gd_nI (by omega) (by decide)]; rfl
    · rw [if_pos (by decide)]; rfl
  refine ⟨_, _, _, rfl, e, h.views (fun q h16 h17 => updA_ne _ _ h16) (fun q h5 h6 => updA_ne _ _ h5) hr⟩
theorem bit_lit {s p : Nat} (hs : s < 64) (hp : p < 6) : ((nI s >>> (nI p &&& 31)) &&& 1) = nI (bN s p) := bit_ok (by omega) (by omega)
theorem st_kin {fi : Nat → Int32} {fl : Nat → Int64} {ar : Nat → Nat → Int32} {gi : Nat → Int32} {gl : Nat → Int64} {br : Nat → Nat → Int32} (h : Rel fi fl ar gi gl br) (a0 : Int32) (a1 : Int32) : ∃ (r : Int32) (ar' : Nat → Nat → Int32) (br' : Nat → Nat → Int32), f_X8_kin ar a0 a1 = some (r, ar') ∧ f_X9_kin br a0 a1 = some (r, br') ∧ Rel fi fl ar' gi gl br' := by
  unfold f_X8_kin f_X9_kin
  dsimp only [bindv]
  rw [person9, set9]
  rcases person_c a0 with q | ⟨q, p, hp, rfl⟩
  · rw [q, if_pos rfl, if_pos rfl]; exact ⟨_, _, _, rfl, rfl, h⟩
  rw [q, if_neg n10, if_neg n10]
  rcases set_c a1 with q1 | ⟨q1, s, hs, rfl⟩
  · rw [q1, if_pos rfl, if_pos rfl]; exact ⟨_, _, _, rfl, rfl, h⟩
  rw [q1, if_neg n10, if_neg n10]
  unfold f_X8_bit
  by_cases q2 : ((nI s >>> (nI p &&& 31)) &&& 1) = 1
  · rw [if_pos q2, if_pos q2]; exact ⟨_, _, _, rfl, rfl, h⟩
  rw [if_neg q2, if_neg q2]
  have h' := h
  obtain ⟨v, -, -, -, -, ⟨g, k, hv⟩, -⟩ := h'
  obtain ⟨h1, h2, h3, h4, h5, h6⟩ := hv p hp
  unfold f_X5_setKin
  dsimp only [bindv]
  rw [gd_nI hp (by decide), gd_nI hp (by decide), gd_nI hp (by decide), gd_nI hp (by decide), clampN (by omega), h4, h5, bind2_some]
  refine ⟨_, _, _, rfl, rfl, h.views (g := g) (k := updN k p s) (fun q h16 h17 => updA_ne _ _ h17) (fun q h5 h6 => updA_ne _ _ h6) ?_⟩
  intro p' hp'
  obtain ⟨g1, g2, g3, g4, g5, g6⟩ := hv p' hp'
  rw [updA_eq, updA_ne _ _ (by decide), updA_eq, updA_ne _ _ (by decide)]
  unfold updN
  by_cases z : p' = p
  · subst z
    rw [if_pos rfl, upd_eq, upd_eq]
    exact ⟨g1, hs, g3, rfl, rfl, g6⟩
  · rw [if_neg z, upd_ne _ _ z, upd_ne _ _ z]
    exact ⟨g1, g2, g3, g4, g5, g6⟩
