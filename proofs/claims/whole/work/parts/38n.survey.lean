/-! the survey, all, kinds -/
def Mk (v : Nat → Nat) (fi : Nat → Int32) (ar : Nat → Nat → Int32) : Prop := fi 31 = 1 ∧ (∀ r, r < 4096 → ar 14 r = aidI v r) ∧ fi 32 = topI v 4096 ∧ (fi 33 = -2 ∨ fi 33 = fmI v)
def KpS (fi : Nat → Int32) (ar : Nat → Nat → Int32) (fi' : Nat → Int32) (ar' : Nat → Nat → Int32) : Prop := (∀ k, k < 22 → fi' k = fi k) ∧ ∀ q, q ≠ 6 → q ≠ 7 → q ≠ 9 → q ≠ 10 → q ≠ 14 → ar' q = ar q
theorem KpS.tr {f1 f2 f3 : Nat → Int32} {a1 a2 a3 : Nat → Nat → Int32} (h : KpS f1 a1 f2 a2) (h' : KpS f2 a2 f3 a3) : KpS f1 a1 f3 a3 := ⟨fun k hk => (h'.1 k hk).trans (h.1 k hk), fun q q6 q7 q9 q10 q14 => (h'.2 q q6 q7 q9 q10 q14).trans (h.2 q q6 q7 q9 q10 q14)⟩
theorem KpC.s {f1 f2 : Nat → Int32} {a1 a2 : Nat → Nat → Int32} (h : KpC f1 a1 f2 a2) : KpS f1 a1 f2 a2 := ⟨fun k hk => h.1 k (by omega), fun q q6 q7 q9 q10 _ => h.2 q q6 q7 q9 q10⟩
theorem relS {v : Nat → Nat} {fi fi' : Nat → Int32} {fl' : Nat → Int64} {ar ar' : Nat → Nat → Int32} {gi gi' : Nat → Int32} {gl' : Nat → Int64} {br br' : Nat → Nat → Int32} (h : RVil v fi br ∧ RLst fi gi ∧ RTxt fi ar gi br ∧ fi 10 = gi 6 ∧ RVw ar br ∧ (∀ j, j ≤ 1000 → ar 10 j = 0) ∧ RSv v fi ar) (hc : KpS fi ar fi' ar') (h10 : ∀ y, y ≤ 1000 → ar' 10 y = 0) (hm : KpM gi br gi' br') (hs : RSv v fi' ar') : Rel fi' fl' ar' gi' gl' br' := by
  obtain ⟨⟨hv, hf, hb⟩, ⟨l, hl, hl1, hl2⟩, ⟨n, t1, t2, t3, t4⟩, h6, hw, -, -⟩ := h
  obtain ⟨h1, h2⟩ := hc
  obtain ⟨h4, h5⟩ := hm
  refine ⟨v, ⟨hv, fun j hj => by rw [h1 _ (by omega)]; exact hf j hj, fun k hk => by rw [h5 1 (by decide)]; exact hb k hk⟩, ⟨l, hl, by rw [h1 _ (by omega)]; exact hl1, by rw [h4 _ (by omega)]; exact hl2⟩, ⟨n, t1, by rw [h1 _ (by omega)]; exact t2, by rw [h4 _ (by omega)]; exact t3, ?_⟩, by rw [h1 _ (by omega), h4 _ (by omega)]; exact h6, ?_, h10, hs⟩
  · rw [h2 3 (by decide) (by decide) (by decide) (by decide) (by decide), h5 3 (by decide)]; exact t4
  · unfold RVw
    rw [h2 16 (by decide) (by decide) (by decide) (by decide) (by decide), h2 17 (by decide) (by decide) (by decide) (by decide) (by decide), h5 5 (by decide), h5 6 (by decide)]; exact hw
theorem make_loop {v : Nat → Nat} (hv : Vok v) : ∀ (m n r : Nat) (fi : Nat → Int32) (fl : Nat → Int64) (ar : Nat → Nat → Int32), r + m = 4096 → m < n → StC v fi ar → fi 32 = topI v r → (∀ j, j < r → ar 14 j = aidI v j) →
    ∃ fi' fl' ar', f_X4_make_26 n (nI (v 3)) (nI r) fi fl ar = some (fi', fl', ar') ∧ KpS fi ar fi' ar' ∧ StC v fi' ar' ∧ Mk v fi' ar' := by
  intro m
  induction m with
  | zero =>
    intro n r fi fl ar hr hn hs ht ha
    obtain ⟨n, rfl⟩ : ∃ z, n = z + 1 := ⟨n - 1, by omega⟩
    obtain rfl : r = 4096 := by omega
    rw [f_X4_make_26, if_pos (by decide), bindv_def, bindv_def]
    obtain ⟨f1, e1⟩ : ∃ z, z = upd (upd fi 33 (-2)) 31 1 := ⟨_, rfl⟩
    have g : ∀ k, f1 k = if k = 31 then 1 else if k = 33 then -2 else fi k := by intro k; rw [e1]; rfl
    rw [← e1]
    refine ⟨f1, fl, ar, rfl, ⟨fun k hk => ?_, fun _ _ _ _ _ _ => rfl⟩, ⟨fun k hk => ?_, hs.2⟩, ⟨?_, ha, ?_, Or.inl ?_⟩⟩
    · rw [g, if_neg (by omega), if_neg (by omega)]
    · rw [g, if_neg (by omega), if_neg (by omega)]; exact hs.1 k hk
    · rw [g, if_pos rfl]
    · rw [g, if_neg (by decide), if_neg (by decide)]; exact ht
    · rw [g, if_neg (by decide), if_pos rfl]
  | succ m ih =>
    intro n r fi fl ar hr hn hs ht ha
    obtain ⟨n, rfl⟩ : ∃ z, n = z + 1 := ⟨n - 1, by omega⟩
    obtain ⟨f1, l1, c1, r1, r2, r3, r4⟩ := verdict_ok hv (show r < 4096 by omega) hv.2.2.2.1 hs fl
    rw [eye_self] at r1 r4
    obtain ⟨f2, e2⟩ : ∃ z, z = upd f1 32 (topI v (r + 1)) := ⟨_, rfl⟩
    obtain ⟨c2, d2⟩ : ∃ z, z = updA c1 14 (upd (c1 14) r (aidI v r)) := ⟨_, rfl⟩
    have k14 : c1 14 = ar 14 := r2.2 14 (by decide) (by decide) (by decide) (by decide)
    have h32 : f1 32 = topI v r := (r2.1 32 (by omega)).trans ht
    have q14 : c2 14 r = aidI v r := by rw [d2, updA_eq, upd_eq]
    have q62 : f_X4_make_62 (f_X4_make_26 n) (nI (v 3)) (nI r) (nI r) (aidI v r) f1 l1 c1 = f_X4_make_26 n (nI (v 3)) (nI (r + 1)) f2 l1 c2 := by
      unfold f_X4_make_62
      simp only [bindv_def]
      rw [gd_nI (by omega) (by decide), gd_nI (by omega) (by decide), clampN (by omega), ← d2, q14, h32, nI_1, e2]
      rfl
    have step : f_X4_make_26 (n + 1) (nI (v 3)) (nI r) fi fl ar = f_X4_make_26 n (nI (v 3)) (nI (r + 1)) f2 l1 c2 := by
      rw [f_X4_make_26, if_neg (show ¬ ((4096 : Int32) ≤ nI r) from nI_ge (a := r) (b := 4096) (by omega) (by decide)), r1, bind4_some, bindv_def]
      by_cases c : vdS v r = 1
      · have ea : aidI v r = nI (hpS v r (endS (stS v r) 500)) := if_pos c
        rw [if_pos c, r4 c, ← ea, q62]
      · have ea : aidI v r = -1 := if_neg c
        rw [if_neg c, ← ea, q62]
    have kq : KpS f1 c1 f2 c2 := ⟨fun k hk => by rw [e2, upd_ne _ _ (by omega)], fun q _ _ _ _ h14 => by rw [d2, updA_ne _ _ h14]⟩
    obtain ⟨f3, l3, c3, t1, t2, t3, t4⟩ := ih n (r + 1) f2 l1 c2 (by omega) (by omega) ⟨fun k hk => by rw [e2, upd_ne _ _ (by omega)]; exact r3.1 k hk, fun y hy => by rw [d2, updA_ne _ _ (by decide)]; exact r3.2 y hy⟩ (by rw [e2, upd_eq]) (fun j hj => by
      by_cases c : j = r
      · rw [c]; exact q14
      · rw [d2, updA_eq, upd_ne _ _ c, k14]; exact ha j (by omega))
    exact ⟨f3, l3, c3, step.trans t1, (r2.s.tr kq).tr t2, t3, t4⟩
theorem make_ok {v : Nat → Nat} (hv : Vok v) {fi : Nat → Int32} (fl : Nat → Int64) {ar : Nat → Nat → Int32} (hs : StC v fi ar) (hr : RSv v fi ar) : ∃ fi' fl' ar', f_X4_make fi fl ar = some (fi', fl', ar') ∧ KpS fi ar fi' ar' ∧ StC v fi' ar' ∧ Mk v fi' ar' := by
  unfold f_X4_make
  rcases hr with h0 | h1
  · obtain ⟨F, hF⟩ : ∃ n : Nat, n = 5000 := ⟨_, rfl⟩
    rw [if_pos h0, bindv_def, bindv_def, ← hF]
    have e4 : upd fi 32 (-1) 4 = nI (v 3) := (upd_ne _ _ (by decide)).trans (vil_e hs.1)
    rw [e4]
    obtain ⟨f1, l1, c1, r1, r2, r3, r4⟩ := make_loop hv 4096 F 0 (upd fi 32 (-1)) fl ar (by decide) (by omega) ⟨fun k hk => by rw [upd_ne _ _ (by omega)]; exact hs.1 k hk, hs.2⟩ (upd_eq _ _ _) (fun j hj => by omega)
    refine ⟨f1, l1, c1, r1, KpS.tr ⟨fun k hk => upd_ne _ _ (by omega), fun _ _ _ _ _ _ => rfl⟩ r2, r3, r4⟩
  · rw [if_neg (by rw [h1.1]; decide)]
    exact ⟨fi, fl, ar, rfl, ⟨fun _ _ => rfl, fun _ _ _ _ _ _ => rfl⟩, hs, h1⟩
theorem vd_ring {v : Nat → Nat} {r : Nat} (h : vdS v r = 1) : ringS (stS v r) 500 = 1 := by
  unfold vdS at h
  by_cases c : ringS (stS v r) 500 = 1
  · exact c
  · rw [if_neg c] at h; exact absurd h (by decide)
def hdI (v : Nat → Nat) (r : Nat) (L : Int32) : Int32 := if aidI v r ≤ L then 0 else 1
theorem isHolding_ok {v : Nat → Nat} (hv : Vok v) {br : Nat → Nat → Int32} (hb : StM v br) {r l : Nat} (hr : r < 4096) (hl : l ≤ 999999) {gi : Nat → Int32} (g0 : gi 0 = nI l) (gl : Nat → Int64) :
    ∃ gi' gl' br', f_X9_isHolding gi gl br (nI r) = some (hdI v r (nI l), gi', gl', br') ∧ KpM gi br gi' br' ∧ (¬ aidI v r ≤ nI l → f_X9_helpedBy br' (nI r) (gi' 8) = some (aidI v r)) := by
  obtain ⟨g1, l1, c1, s1, s2, s3⟩ := holdsOf_ok hv hb hr gi gl
  unfold f_X9_isHolding hdI
  rw [s1, bind4_some]
  have he := end_le hv r (x := 500) (by decide)
  by_cases c : vdS v r = 1
  · have ea : aidI v r = nI (hpS v r (endS (stS v r) 500)) := if_pos c
    have e8 : g1 8 = nI (endS (stS v r) 500) := s3.trans (if_pos (vd_ring c))
    have hh : f_X9_helpedBy c1 (nI r) (g1 8) = some (aidI v r) := by rw [e8, ea]; exact helpedBy_ok hv.2.2.1 (hb.kp s2) hr he
    rw [if_pos c, hh, bind1_some, s2.1 0 (by omega), g0]
    by_cases d : aidI v r ≤ nI l
    · rw [if_pos d, if_pos d]; exact ⟨_, _, _, rfl, s2, fun z => absurd d z⟩
    · rw [if_neg d, if_neg d]; exact ⟨_, _, _, rfl, s2, fun _ => hh⟩
  · have ea : aidI v r = -1 := if_neg c
    have d : aidI v r ≤ nI l := by
      rw [ea, Int32.le_iff_toInt_le, nI_toInt (by omega)]
      exact Int.le_trans (by decide) (Int.natCast_nonneg l)
    rw [if_neg c, if_pos d]
    exact ⟨_, _, _, rfl, s2, fun z => absurd d z⟩
theorem all_loop {v : Nat → Nat} (hv : Vok v) {l : Nat} (hl : l ≤ 999999) {ar : Nat → Nat → Int32} (ha : ∀ r, r < 4096 → ar 14 r = aidI v r) (i : Int32) : ∀ (m n n' r c : Nat) (gi : Nat → Int32) (gl : Nat → Int64) (br : Nat → Nat → Int32), r + m = 4096 → m < n → m < n' → c ≤ r → StM v br → gi 0 = nI l →
    ∃ z gi' gl' br', (i = -1 → f_X4_count_4 ar n (nI l) (nI c) (nI r) = some z) ∧ (¬ i = -1 → f_X4_nth_5 ar n i (nI l) (nI c) (nI r) = some z) ∧ f_X9_all_4 n' i (nI c) (nI r) gi gl br = some (z, gi', gl', br') ∧ KpM gi br gi' br' := by
  intro m
  induction m with
  | zero =>
    intro n n' r c gi gl br hr hn hn' hc hb g0
    obtain ⟨n, rfl⟩ : ∃ z, n = z + 1 := ⟨n - 1, by omega⟩
    obtain ⟨n', rfl⟩ : ∃ z, n' = z + 1 := ⟨n' - 1, by omega⟩
    obtain rfl : r = 4096 := by omega
    rw [f_X4_count_4, f_X4_nth_5, f_X9_all_4, if_pos (by decide), if_pos (by decide), if_pos (by decide)]
    by_cases q : i = -1
    · rw [if_pos q]; exact ⟨_, _, _, _, fun _ => rfl, fun z => absurd q z, rfl, fun _ _ => rfl, fun _ _ => rfl⟩
    · rw [if_neg q]; exact ⟨_, _, _, _, fun z => absurd z q, fun _ => rfl, rfl, fun _ _ => rfl, fun _ _ => rfl⟩
  | succ m ih =>
    intro n n' r c gi gl br hr hn hn' hc hb g0
    obtain ⟨n, rfl⟩ : ∃ z, n = z + 1 := ⟨n - 1, by omega⟩
    obtain ⟨n', rfl⟩ : ∃ z, n' = z + 1 := ⟨n' - 1, by omega⟩
    obtain ⟨g1, l1, c1, s1, s2, s3⟩ := isHolding_ok hv hb (show r < 4096 by omega) hl g0 gl
    have hl4 : ¬ ((4096 : Int32) ≤ nI r) := nI_ge (a := r) (b := 4096) (by omega) (by decide)
    rw [f_X4_count_4, f_X4_nth_5, f_X9_all_4, if_neg hl4, if_neg hl4, if_neg hl4, gd_nI (by omega) (by decide), gd_nI (by omega) (by decide), clampN (by omega), ha r (by omega), s1, bind4_some]
    unfold hdI f_X4_count_24 f_X4_nth_38 f_X9_all_29
    simp only [bindv_def]
    rw [nI_1, nI_1]
    by_cases d : aidI v r ≤ nI l
    · rw [if_pos d, if_pos d, if_pos rfl, if_neg (Int32.not_lt.mpr d)]
      obtain ⟨z, g2, l2, c2, t1, t2, t3, t4⟩ := ih n n' (r + 1) c g1 l1 c1 (by omega) (by omega) (by omega) (by omega) (hb.kp s2) ((s2.1 0 (by omega)).trans g0)
      exact ⟨z, g2, l2, c2, t1, t2, t3, s2.tr t4⟩
    · rw [if_neg d, if_neg d, if_neg n10, if_pos (Int32.not_le.mp d)]
      obtain ⟨z, g2, l2, c2, t1, t2, t3, t4⟩ := ih n n' (r + 1) (c + 1) g1 l1 c1 (by omega) (by omega) (by omega) (by omega) (hb.kp s2) ((s2.1 0 (by omega)).trans g0)
      by_cases q : nI c = i
      · rw [if_pos q, if_pos q]
        exact ⟨nI r, g1, l1, c1, fun z => absurd (q.trans z) (nI_nm1 (by omega)), fun _ => rfl, rfl, s2⟩
      · rw [if_neg q, if_neg q]
        exact ⟨z, g2, l2, c2, t1, t2, t3, s2.tr t4⟩
theorem st_all {fi : Nat → Int32} {fl : Nat → Int64} {ar : Nat → Nat → Int32} {gi : Nat → Int32} {gl : Nat → Int64} {br : Nat → Nat → Int32} (h : Rel fi fl ar gi gl br) (a0 : Int32) : ∃ (r : Int32) (fi' : Nat → Int32) (fl' : Nat → Int64) (ar' : Nat → Nat → Int32) (gi' : Nat → Int32) (gl' : Nat → Int64) (br' : Nat → Nat → Int32), f_X8_all fi fl ar a0 = some (r, fi', fl', ar') ∧ f_X9_all gi gl br a0 = some (r, gi', gl', br') ∧ Rel fi' fl' ar' gi' gl' br' := by
  obtain ⟨v, hR⟩ := h
  have hR' := hR
  obtain ⟨⟨hv, hf, hb⟩, ⟨l, hl, hl1, hl2⟩, -, -, -, hc, hsv⟩ := hR'
  obtain ⟨f1, l1, c1, r1, r2, r3, r4⟩ := make_ok hv fl ⟨hf, hc⟩ hsv
  obtain ⟨F, hF⟩ : ∃ n : Nat, n = 5000 := ⟨_, rfl⟩
  obtain ⟨z, g2, l2, c2, t1, t2, t3, t4⟩ := all_loop hv hl r4.2.1 a0 4096 F F 0 0 gi gl br (by decide) (by omega) (by omega) (by decide) hb hl2
  have e0 : f1 0 = nI l := (r2.1 0 (by decide)).trans hl1
  refine ⟨z, f1, l1, c1, g2, l2, c2, ?_, ?_, relS hR r2 r3.2 t4 (Or.inr r4)⟩
  · unfold f_X8_all f_X4_count f_X4_nth
    rw [r1, bind3_some, e0, ← hF]
    by_cases q : a0 = -1
    · have t1' : f_X4_count_4 c1 F (nI l) 0 0 = some z := t1 q
      rw [if_pos q, t1', bind1_some]
    · have t2' : f_X4_nth_5 c1 F a0 (nI l) 0 0 = some z := t2 q
      rw [if_neg q, t2', bind1_some]
  · unfold f_X9_all
    rw [← hF]
    exact t3
theorem kinds_loop {v : Nat → Nat} (hv : Vok v) {l : Nat} (hl : l ≤ 999999) {ar : Nat → Nat → Int32} (ha : ∀ r, r < 4096 → ar 14 r = aidI v r) : ∀ (m n n' r : Nat) (c : Int32) (gi : Nat → Int32) (gl : Nat → Int64) (br : Nat → Nat → Int32), r + m = 4096 → m < n → m < n' → StM v br → gi 0 = nI l →
    ∃ z gi' gl' br', f_X4_countKinds_4 ar n (nI l) c (nI r) = some z ∧ f_X9_kinds_4 n' c (nI r) gi gl br = some (z, gi', gl', br') ∧ KpM gi br gi' br' := by
  intro m
  induction m with
  | zero =>
    intro n n' r c gi gl br hr hn hn' hb g0
    obtain ⟨n, rfl⟩ : ∃ z, n = z + 1 := ⟨n - 1, by omega⟩
    obtain ⟨n', rfl⟩ : ∃ z, n' = z + 1 := ⟨n' - 1, by omega⟩
    obtain rfl : r = 4096 := by omega
    rw [f_X4_countKinds_4, f_X9_kinds_4, if_pos (by decide), if_pos (by decide)]
    exact ⟨_, _, _, _, rfl, rfl, fun _ _ => rfl, fun _ _ => rfl⟩
  | succ m ih =>
    intro n n' r c gi gl br hr hn hn' hb g0
    obtain ⟨n, rfl⟩ : ∃ z, n = z + 1 := ⟨n - 1, by omega⟩
    obtain ⟨n', rfl⟩ : ∃ z, n' = z + 1 := ⟨n' - 1, by omega⟩
    obtain ⟨g1, l1, c1, s1, s2, s3⟩ := isHolding_ok hv hb (show r < 4096 by omega) hl g0 gl
    obtain ⟨t, ht, e1, e2⟩ := turn_ok (show r < 4096 by omega)
    obtain ⟨g2, l2, c2, u1, u2, u3⟩ := isHolding_ok hv (hb.kp s2) ht hl ((s2.1 0 (by omega)).trans g0) l1
    have hl4 : ¬ ((4096 : Int32) ≤ nI r) := nI_ge (a := r) (b := 4096) (by omega) (by decide)
    rw [f_X4_countKinds_4, f_X9_kinds_4, if_neg hl4, if_neg hl4, gd_nI (by omega) (by decide), clampN (by omega), ha r (by omega), s1, bind4_some, e1, e2, bind1_some, bind1_some, gd_nI ht (by decide), clampN (by omega), ha t ht, u1, bind4_some]
    unfold hdI f_X9_kinds_38 f_X9_kinds_43 f_X9_kinds_48 f_X4_countKinds_47 f_X4_countKinds_50
    simp only [bindv_def]
    rw [nI_1, show f_X9_one 1 = 1 from rfl, show f_X9_one 0 = 0 from rfl, Int32.add_zero]
    by_cases d : aidI v r ≤ nI l
    · rw [if_neg (Int32.not_lt.mpr d), if_pos d, if_pos rfl]
      obtain ⟨z, g3, l3, c3, t1, t2, t3⟩ := ih n n' (r + 1) c g1 l1 c1 (by omega) (by omega) (by omega) (hb.kp s2) ((s2.1 0 (by omega)).trans g0)
      exact ⟨z, g3, l3, c3, t1, t2, s2.tr t3⟩
    · rw [if_pos (Int32.not_le.mp d), if_neg d, if_neg n10]
      by_cases q : nI r ≤ nI t
      · rw [if_pos q, if_pos q]
        obtain ⟨z, g3, l3, c3, t1, t2, t3⟩ := ih n n' (r + 1) (c + 1) g1 l1 c1 (by omega) (by omega) (by omega) (hb.kp s2) ((s2.1 0 (by omega)).trans g0)
        exact ⟨z, g3, l3, c3, t1, t2, s2.tr t3⟩
      · rw [if_neg q, if_neg q]
        have k := s2.tr u2
        by_cases w : aidI v t ≤ nI l
        · rw [if_neg (Int32.not_lt.mpr w), if_pos w, if_pos rfl]
          obtain ⟨z, g3, l3, c3, t1, t2, t3⟩ := ih n n' (r + 1) (c + 1) g2 l2 c2 (by omega) (by omega) (by omega) (hb.kp k) ((k.1 0 (by omega)).trans g0)
          exact ⟨z, g3, l3, c3, t1, t2, k.tr t3⟩
        · rw [if_pos (Int32.not_le.mp w), if_neg w, if_neg n10]
          obtain ⟨z, g3, l3, c3, t1, t2, t3⟩ := ih n n' (r + 1) c g2 l2 c2 (by omega) (by omega) (by omega) (hb.kp k) ((k.1 0 (by omega)).trans g0)
          exact ⟨z, g3, l3, c3, t1, t2, k.tr t3⟩
theorem st_kinds {fi : Nat → Int32} {fl : Nat → Int64} {ar : Nat → Nat → Int32} {gi : Nat → Int32} {gl : Nat → Int64} {br : Nat → Nat → Int32} (h : Rel fi fl ar gi gl br) : ∃ (r : Int32) (fi' : Nat → Int32) (fl' : Nat → Int64) (ar' : Nat → Nat → Int32) (gi' : Nat → Int32) (gl' : Nat → Int64) (br' : Nat → Nat → Int32), f_X8_kinds fi fl ar = some (r, fi', fl', ar') ∧ f_X9_kinds gi gl br = some (r, gi', gl', br') ∧ Rel fi' fl' ar' gi' gl' br' := by
  obtain ⟨v, hR⟩ := h
  have hR' := hR
  obtain ⟨⟨hv, hf, hb⟩, ⟨l, hl, hl1, hl2⟩, -, -, -, hc, hsv⟩ := hR'
  obtain ⟨f1, l1, c1, r1, r2, r3, r4⟩ := make_ok hv fl ⟨hf, hc⟩ hsv
  obtain ⟨F, hF⟩ : ∃ n : Nat, n = 5000 := ⟨_, rfl⟩
  obtain ⟨z, g2, l2, c2, t1, t2, t3⟩ := kinds_loop hv hl r4.2.1 4096 F F 0 0 gi gl br (by decide) (by omega) (by omega) hb hl2
  have e0 : f1 0 = nI l := (r2.1 0 (by decide)).trans hl1
  refine ⟨z, f1, l1, c1, g2, l2, c2, ?_, ?_, relS hR r2 r3.2 t3 (Or.inr r4)⟩
  · unfold f_X8_kinds f_X4_countKinds
    rw [r1, bind3_some, e0, ← hF]
    have t1' : f_X4_countKinds_4 c1 F (nI l) 0 0 = some z := t1
    rw [t1', bind1_some]
  · unfold f_X9_kinds
    rw [← hF]
    exact t2
