/-! the text: a clause -/
def DrS (d : Nat → Nat) (fi : Nat → Int32) (br : Nat → Nat → Int32) : Prop := Vok d ∧ ∀ k, k < 8 → fi (14 + k) = nI (d k) ∧ br 2 k = nI (d k)
def KB (fi fi' : Nat → Int32) : Prop := ∀ k, k < 10 ∨ k = 13 ∨ 21 < k → fi' k = fi k
theorem KR.b {a b : Nat → Int32} (h : KR a b) : KB a b := fun k hk => h k (by omega) (by omega) (by omega)
theorem KB.tr {a b c : Nat → Int32} (h : KB a b) (h' : KB b c) : KB a c := fun k x => (h' k x).trans (h k x)
def BO (n : Nat) (fi gi : Nat → Int32) (br : Nat → Nat → Int32) (fi1 gi1 : Nat → Int32) (br1 : Nat → Nat → Int32) : Prop := KB fi fi1 ∧ KG gi gi1 ∧ (∀ q, q ≠ 2 → br1 q = br q) ∧ ((∃ p d, GdS n p fi1 gi1 ∧ DrS d fi1 br1) ∨ FdS n fi1 gi1)
theorem GdS.up {n p : Nat} {fi gi : Nat → Int32} (h : GdS n p fi gi) {k : Nat} (hk : 13 ≤ k) (x : Int32) : GdS n p (upd fi k x) gi := by
  obtain ⟨hp, h9, h1, h12, h2, h11, h5, h10⟩ := h
  exact ⟨hp, by rw [upd_ne _ _ (by omega)]; exact h9, h1, by rw [upd_ne _ _ (by omega)]; exact h12, h2, by rw [upd_ne _ _ (by omega)]; exact h11, h5, by rw [upd_ne _ _ (by omega)]; exact h10⟩
theorem FdS.up {n : Nat} {fi gi : Nat → Int32} (h : FdS n fi gi) {k : Nat} (hk : 13 ≤ k) (x : Int32) : FdS n (upd fi k x) gi := by
  obtain ⟨a1, a2, a3, ⟨p, hp, a4⟩, w, a5, a6, a7, a8⟩ := h
  exact ⟨by rw [upd_ne _ _ (by omega)]; exact a1, a2, by rw [upd_ne _ _ (by omega)]; exact a3, ⟨p, hp, by rw [upd_ne _ _ (by omega)]; exact a4⟩, w, a5, a6, by rw [upd_ne _ _ (by omega)]; exact a7, a8⟩
theorem store {n : Nat} {d : Nat → Nat} {fi gi fi' gi' : Nat → Int32} {br : Nat → Nat → Int32} (hD : DrS d fi br) (h8 : KR fi fi') (h9 : KG gi gi') {j : Nat} (hj : j < 8) {P : Nat → Prop} (hV : ∀ a, P a → Vok (setU d j a)) {x y : Int32} (out : (∃ p' a, GdS n p' fi' gi' ∧ P a ∧ x = nI a ∧ y = nI a) ∨ FdS n fi' gi') : BO n fi gi br (upd fi' (14 + j) x) gi' (updA br 2 (upd (br 2) j y)) := by
  refine ⟨fun k hk => by rw [upd_ne _ _ (by omega)]; exact h8.b k hk, h9, fun q hq => updA_ne _ _ hq, ?_⟩
  rcases out with ⟨p', a, hG, hP, hx, hy⟩ | hF
  · left
    refine ⟨p', setU d j a, hG.up (by omega) x, hV a hP, fun k hk => ?_⟩
    rw [updA_eq, hx, hy]
    unfold setU
    by_cases c : k = j
    · rw [c, if_pos rfl, upd_eq, upd_eq]; exact ⟨rfl, rfl⟩
    · rw [if_neg c, upd_ne _ _ (by omega), upd_ne _ _ c, h8 (14 + k) (by omega) (by omega) (by omega)]
      exact hD.2 k hk
  · exact Or.inr (hF.up (by omega) x)
def mB (v2 : Int32) (gi : Nat → Int32) (br : Nat → Nat → Int32) : Option ((Nat → Int32) × (Nat → Nat → Int32)) := (if (v2 = 6 : Prop) then (bind2 (f_X9_takeBits gi br 4 1) (fun r_34 fi_35 => bindv (updA br 2 (upd (br 2) (Int32.toNatClampNeg 6) r_34)) (fun ar_37 => f_X9_takeClause_154 fi_35 ar_37))) else (if (v2 = 7 : Prop) then (bind2 (f_X9_takeBits gi br 8 0) (fun r_30 fi_31 => bindv (updA br 2 (upd (br 2) (Int32.toNatClampNeg 7) r_30)) (fun ar_33 => f_X9_takeClause_154 fi_31 ar_33))) else (if (v2 = 4 : Prop) then (bind2 (f_X9_takeFade gi br) (fun fi_27 ar_28 => f_X9_takeClause_154 fi_27 ar_28)) else (if (v2 = 2 : Prop) then (f_X9_takeClause_143 v2 0 gi br) else (if (v2 = 3 : Prop) then (f_X9_takeClause_143 v2 0 gi br) else (f_X9_takeClause_150 v2 0 99 gi br))))))
theorem Tx.kp {t : Nat → Nat} {n : Nat} {a b : Nat → Nat → Int32} (h : Tx t n a) (e : b 3 = a 3) : Tx t n b := ⟨h.1, fun j hj => by rw [e]; exact h.2 j hj⟩
theorem nb8 {fi fi' : Nat → Int32} {ar : Nat → Nat → Int32} {T x : Int32} (h : f_X3_takeNumber fi ar T = some (x, fi')) (j : Nat) : bind2 (f_X3_takeNumber fi ar T) (fun r f => bindv (upd f j r) (fun z => some z)) = some (upd fi' j x) := by rw [h]; rfl
theorem nb9 {gi gi' : Nat → Int32} {br : Nat → Nat → Int32} {T y : Int32} (h : f_X9_takeNumber gi br 0 T = some (y, gi')) {j : Nat} (hj : j < 8) : f_X9_takeClause_150 (nI j) 0 T gi br = f_X9_takeClause_154 gi' (updA br 2 (upd (br 2) j y)) := by
  unfold f_X9_takeClause_150
  rw [h, bind2_some, gd_nI hj (by decide), bindv_def, clampN (by omega)]
theorem body_ok {t : Nat → Nat} {n p : Nat} {ar br : Nat → Nat → Int32} (hT8 : Tx t n ar) (hT9 : Tx t n br) {fi gi : Nat → Int32} (h : GdS n p fi gi) {d : Nat → Nat} (hD : DrS d fi br) {c : Nat} (hc : c < 7) : ∃ fi1 gi1 br1, f_X3_takeBody fi ar (nI c) = some fi1 ∧ mB (nI (kp c)) gi br = f_X9_takeClause_154 gi1 br1 ∧ BO n fi gi br fi1 gi1 br1 := by
  have hV := hD.1
  obtain ⟨v0, v1, v2, v3, v4, v5, v6, v7⟩ := hV
  obtain ⟨x99, y99, f99, g99, m1, m2, m3, m4, m5⟩ := num_ok hT8 hT9 h (T := 99) (by decide)
  obtain ⟨x50, y50, f50, g50, l1, l2, l3, l4, l5⟩ := num_ok hT8 hT9 h (T := 50) (by decide)
  rcases (show c = 0 ∨ c = 1 ∨ c = 2 ∨ c = 3 ∨ c = 4 ∨ c = 5 ∨ c = 6 by omega) with rfl | rfl | rfl | rfl | rfl | rfl | rfl
  · refine ⟨_, _, _, ?_, ?_, store hD m3 m4 (j := 0) (by decide) (P := fun a => a ≤ 99) (fun a ha => ⟨ha, v1, v2, v3, v4, v5, v6, v7⟩) m5⟩
    · unfold f_X3_takeBody
      rw [if_pos (by decide)]
      exact nb8 m1 14
    · unfold mB
      rw [if_neg (by decide), if_neg (by decide), if_neg (by decide), if_neg (by decide), if_neg (by decide)]
      exact nb9 m2 (j := 0) (by decide)
  · refine ⟨_, _, _, ?_, ?_, store hD m3 m4 (j := 1) (by decide) (P := fun a => a ≤ 99) (fun a ha => ⟨v0, ha, v2, v3, v4, v5, v6, v7⟩) m5⟩
    · unfold f_X3_takeBody
      rw [if_neg (by decide), if_pos (by decide)]
      exact nb8 m1 15
    · unfold mB
      rw [if_neg (by decide), if_neg (by decide), if_neg (by decide), if_neg (by decide), if_neg (by decide)]
      exact nb9 m2 (j := 1) (by decide)
  · refine ⟨_, _, _, ?_, ?_, store hD l3 l4 (j := 2) (by decide) (P := fun a => a ≤ 50) (fun a ha => ⟨v0, v1, ha, v3, v4, v5, v6, v7⟩) l5⟩
    · unfold f_X3_takeBody
      rw [if_neg (by decide), if_neg (by decide), if_pos (by decide)]
      exact nb8 l1 16
    · unfold mB
      rw [if_neg (by decide), if_neg (by decide), if_neg (by decide), if_pos (by decide)]
      exact nb9 l2 (j := 2) (by decide)
  · refine ⟨_, _, _, ?_, ?_, store hD l3 l4 (j := 3) (by decide) (P := fun a => a ≤ 50) (fun a ha => ⟨v0, v1, v2, ha, v4, v5, v6, v7⟩) l5⟩
    · unfold f_X3_takeBody
      rw [if_neg (by decide), if_neg (by decide), if_neg (by decide), if_pos (by decide)]
      exact nb8 l1 17
    · unfold mB
      rw [if_neg (by decide), if_neg (by decide), if_neg (by decide), if_neg (by decide), if_pos (by decide)]
      exact nb9 l2 (j := 3) (by decide)
  · -- fade
    have hst := store hD m3 m4 (j := 4) (by decide) (P := fun a => a ≤ 99) (fun a ha => ⟨v0, v1, v2, v3, ha, v5, v6, v7⟩) m5
    obtain ⟨f1, ef⟩ : ∃ z, z = upd f99 (14 + 4) x99 := ⟨_, rfl⟩
    obtain ⟨b1, eb⟩ : ∃ z, z = updA br 2 (upd (br 2) 4 y99) := ⟨_, rfl⟩
    rw [← ef, ← eb] at hst
    have eb' : updA br 2 (upd (br 2) (Int32.toNatClampNeg 4) y99) = b1 := eb.symm
    have ef' : upd f99 18 x99 = f1 := ef.symm
    have m1' : f_X3_takeNumber fi ar 99 = some (x99, f99) := m1
    have m2' : f_X9_takeNumber gi br 0 99 = some (y99, g99) := m2
    obtain ⟨s1, s2, s3, s4⟩ := hst
    have hT9' : Tx t n b1 := hT9.kp (s3 3 (by decide))
    unfold f_X3_takeBody mB f_X9_takeFade
    rw [if_neg (by decide), if_neg (by decide), if_neg (by decide), if_neg (by decide), if_pos (by decide), if_neg (by decide), if_neg (by decide), if_pos (by decide), m1', m2', bind2_some, bind2_some, bindv_def, bindv_def, ef', eb']
    rcases s4 with ⟨p1, d1, hG, hD1⟩ | hF
    · have hG' := hG
      obtain ⟨hp, h9, h1, h12, h2, h11, h5, h10⟩ := hG'
      have hV1 := hD1.1
      obtain ⟨u0, u1, u2, u3, u4, u5, u6, u7⟩ := hV1
      have q1 := SK_le (t := t) hp
      have q2 := LE_le (t := t) q1.2
      have t8 := tw8 hT8 wk7 hp h9 h12
      obtain ⟨g1, e9, k2, k3, k4, ko⟩ := tw9 hT9' hp h1 h2
      obtain ⟨q, hq⟩ : ∃ q, q = SK t n p1 := ⟨_, rfl⟩
      rw [← hq] at q1 q2 t8 k2 k3 k4
      obtain ⟨e, he⟩ : ∃ e, e = LE t n q := ⟨_, rfl⟩
      rw [← he] at q2 t8 k2 k4
      have i7 : f_X9_isWord g1 b1 3 110 101 119 0 0 0 = some (if wm t wd7 q e = true then 1 else 0) := iw9 hT9' wk7.1 (fun k hk => (wk7.2.2 k hk).1) q2.1 q2.2 k3 k4
      have g5 : g1 5 = 0 := by rw [ko 5 (by decide) (by decide) (by decide)]; exact h5
      have g1n : g1 1 = nI n := by rw [ko 1 (by decide) (by decide) (by decide)]; exact h1
      have g6 : g1 6 = g99 6 := ko 6 (by decide) (by decide) (by decide)
      have KGg : KG g99 g1 := fun k hk => ko k (by omega) (by omega) (by omega)
      rw [if_pos h11, if_pos h5, t8, e9, bind1_some, i7, bind1_some]
      by_cases c7 : wm t wd7 q e = true
      · have hGe : GdS n e (upd f1 12 (nI e)) g1 := ⟨q2.2, by rw [upd_ne _ _ (by decide)]; exact h9, g1n, upd_eq _ _ _, k2, by rw [upd_ne _ _ (by decide)]; exact h11, g5, by rw [upd_ne _ _ (by decide), g6]; exact h10⟩
        have hDe : DrS d1 (upd f1 12 (nI e)) b1 := ⟨hD1.1, fun k hk => by rw [upd_ne _ _ (by omega)]; exact hD1.2 k hk⟩
        obtain ⟨x1, y1, f3, g3, r1, r2, r3, r4, r5⟩ := num_ok hT8 hT9' hGe (T := 1) (by decide)
        have r1' : f_X3_takeNumber (upd f1 12 (nI e)) ar 1 = some (x1, f3) := r1
        have r2' : f_X9_takeNumber g1 b1 0 1 = some (y1, g3) := r2
        have hst2 := store hDe r3 r4 (j := 5) (by decide) (P := fun a => a ≤ 1) (fun a ha => ⟨u0, u1, u2, u3, u4, ha, u6, u7⟩) r5
        rw [if_pos c7, if_pos c7, bind2_some, if_neg n10, if_neg n10, r1', r2', bind2_some, bind2_some, bindv_def, bindv_def, bind2_some]
        obtain ⟨z1, z2, z3, z4⟩ := hst2
        exact ⟨_, _, _, rfl, rfl, (s1.tr (KR.one _).b).tr z1, (s2.tr KGg).tr z2, fun k hk => (z3 k hk).trans (s3 k hk), z4⟩
      · rw [if_neg c7, if_neg c7, bind2_some, if_pos rfl, if_pos rfl, bindv_def, bind2_some, k3]
        refine ⟨_, _, _, rfl, rfl, s1.tr (KR.one _).b, fun k hk => by rw [upd_ne _ _ (by omega)]; exact s2.tr KGg k hk, s3, Or.inl ⟨q, d1, ⟨q1.2, by rw [upd_ne _ _ (by decide)]; exact h9, by rw [upd_ne _ _ (by decide)]; exact g1n, upd_eq _ _ _, upd_eq _ _ _, by rw [upd_ne _ _ (by decide)]; exact h11, by rw [upd_ne _ _ (by decide)]; exact g5, ?_⟩, hD1.1, fun k hk => by rw [upd_ne _ _ (by omega)]; exact hD1.2 k hk⟩⟩
        rw [upd_ne _ _ (by decide), upd_ne _ _ (by decide), g6]; exact h10
    · have hF' := hF
      obtain ⟨a1, a2, a3, a4, w, a5, a6, a7, a8⟩ := hF'
      rw [if_neg (by rw [a7]; exact nI_ne0 (by omega) (by omega)), if_neg (by rw [a8]; exact nI_ne0 (by omega) (by omega)), bind2_some]
      exact ⟨_, _, _, rfl, rfl, s1, s2, s3, Or.inr hF⟩
  · obtain ⟨x, y, f2, g2, r1, r2, r3, r4, r5⟩ := way_ok hT8 hT9 h
    refine ⟨_, _, _, ?_, ?_, store hD r3 r4 (j := 6) (by decide) (P := fun a => a < 2 ^ 4) (fun a ha => ⟨v0, v1, v2, v3, v4, v5, Nat.le_of_lt_succ ha, v7⟩) r5⟩
    · unfold f_X3_takeBody
      rw [if_neg (by decide), if_neg (by decide), if_neg (by decide), if_neg (by decide), if_neg (by decide), if_pos (by decide), r1]
      rfl
    · unfold mB
      rw [if_pos (by decide), r2]
      rfl
  · obtain ⟨x, y, f2, g2, r1, r2, r3, r4, r5⟩ := naming_ok hT8 hT9 h
    refine ⟨_, _, _, ?_, ?_, store hD r3 r4 (j := 7) (by decide) (P := fun a => a < 2 ^ 8) (fun a ha => ⟨v0, v1, v2, v3, v4, v5, v6, Nat.le_of_lt_succ ha⟩) r5⟩
    · unfold f_X3_takeBody
      rw [if_neg (by decide), if_neg (by decide), if_neg (by decide), if_neg (by decide), if_neg (by decide), if_neg (by decide), r1]
      rfl
    · unfold mB
      rw [if_neg (by decide), if_pos (by decide), r2]
      rfl
