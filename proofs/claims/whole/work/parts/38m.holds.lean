/-! holds, bears -/
theorem goS_le {f : Nat → Nat} (hf : ∀ x, x ≤ 1000 → f x ≤ 1000) : ∀ (k : Nat) (s : Nat → Nat) (n x : Nat), x ≤ 1000 → (goS f k s n x).2.2 ≤ 1000 := by
  intro k
  induction k with
  | zero => intro s n x hx; exact hx
  | succ k ih =>
    intro s n x hx
    rw [goS_succ]
    by_cases c : s x = 0
    · rw [if_pos c]; exact ih _ _ _ (hf x hx)
    · rw [if_neg c]; exact hx
theorem end_le {v : Nat → Nat} (hv : Vok v) (r : Nat) {x : Nat} (hx : x ≤ 1000) : endS (stS v r) x ≤ 1000 := goS_le (fun x hx => stS_le hv r hx) 1002 _ 0 x hx
theorem gn_or (v : Nat → Nat) (r q x : Nat) : gnS v r q x = 1 ∨ (gnS v r q x ≤ 0 ∧ ¬ gnS v r q x = 1) := by
  unfold gnS
  split
  · exact Or.inr (by decide)
  · split
    · exact Or.inr (by decide)
    · exact Or.inl rfl
theorem gn_own (v : Nat → Nat) (r x : Nat) : ¬ gnS v r (r % 16) x = 1 := by
  rw [gn_cs, cs_eq rfl]; decide
theorem vd8_loop {v : Nat → Nat} (hv : Vok v) {r x : Nat} (hx : x ≤ 1000) {fi : Nat → Int32} {ar : Nat → Nat → Int32} (h : Lived v r fi ar) : ∀ (m n q : Nat) (fl : Nat → Int64), q + m = 16 → m < n → Ms v r x fl → ∃ fl', f_X2_verdict_50 n (nI x) (nI q) fi fl ar = some (vdG v r x m q, fi, fl', ar) := by
  intro m
  induction m with
  | zero =>
    intro n q fl hq hn hm
    obtain ⟨n, rfl⟩ : ∃ z, n = z + 1 := ⟨n - 1, by omega⟩
    obtain rfl : q = 16 := by omega
    rw [f_X2_verdict_50, if_pos (by decide)]; exact ⟨fl, rfl⟩
  | succ m ih =>
    intro n q fl hq hn hm
    obtain ⟨n, rfl⟩ : ∃ z, n = z + 1 := ⟨n - 1, by omega⟩
    rw [f_X2_verdict_50, if_neg (show ¬ ((16 : Int32) ≤ nI q) from nI_ge (a := q) (b := 16) (by omega) (by decide)), h.1, vdG]
    unfold f_X2_verdict_85
    simp only [bindv_def]
    rw [nI_1]
    by_cases c : q = r % 16
    · rw [if_pos (by rw [c]), if_neg (by rw [c]; exact gn_own v r x)]
      exact ih n (q + 1) fl (by omega) (by omega) hm
    · rw [if_neg (fun z => c (nI_inj (by omega) (by omega) z))]
      obtain ⟨l1, s1, s2⟩ := compare8_ok hv (q := q) (by omega) hx h hm
      rw [s1, bind2_some]
      rcases gn_or v r q x with g | ⟨g1, g2⟩
      · rw [g, if_neg (by decide), if_pos rfl]; exact ⟨l1, rfl⟩
      · rw [if_pos g1, if_neg g2]
        exact ih n (q + 1) l1 (by omega) (by omega) s2
def StC (v : Nat → Nat) (fi : Nat → Int32) (ar : Nat → Nat → Int32) : Prop := (∀ k, k < 8 → fi (1 + k) = nI (v k)) ∧ ∀ y, y ≤ 1000 → ar 10 y = 0
def KpC (fi : Nat → Int32) (ar : Nat → Nat → Int32) (fi' : Nat → Int32) (ar' : Nat → Nat → Int32) : Prop := (∀ k, k < 22 ∨ 30 < k → fi' k = fi k) ∧ ∀ q, q ≠ 6 → q ≠ 7 → q ≠ 9 → q ≠ 10 → ar' q = ar q
theorem KpC.tr {f1 f2 f3 : Nat → Int32} {a1 a2 a3 : Nat → Nat → Int32} (h : KpC f1 a1 f2 a2) (h' : KpC f2 a2 f3 a3) : KpC f1 a1 f3 a3 := ⟨fun k hk => (h'.1 k hk).trans (h.1 k hk), fun q q6 q7 q9 q10 => (h'.2 q q6 q7 q9 q10).trans (h.2 q q6 q7 q9 q10)⟩
theorem StC.kp {v : Nat → Nat} {fi fi' : Nat → Int32} {ar ar' : Nat → Nat → Int32} (h : StC v fi ar) (k : KpC fi ar fi' ar') (h10 : ∀ y, y ≤ 1000 → ar' 10 y = 0) : StC v fi' ar' := ⟨fun j hj => (k.1 _ (by omega)).trans (h.1 j hj), h10⟩
theorem verdict_ok {v : Nat → Nat} (hv : Vok v) {r e : Nat} (hr : r < 4096) (he : e ≤ 50) {fi : Nat → Int32} {ar : Nat → Nat → Int32} (h : StC v fi ar) (fl : Nat → Int64) :
    ∃ fi' fl' ar', f_X2_verdict fi fl ar (nI r) (nI e) = some (vdS (eyeV v e) r, fi', fl', ar') ∧ KpC fi ar fi' ar' ∧ StC v fi' ar' ∧ (vdS (eyeV v e) r = 1 → f_X2_aidAtRest fi' = nI (hpS (eyeV v e) r (endS (stS (eyeV v e) r) 500))) := by
  obtain ⟨f1, c1, r1, r2, r3, r4⟩ := live_ok (ar := ar) hv hr he h.1
  have hv' := Vok_eye hv he
  obtain ⟨w, hw⟩ : ∃ w, w = eyeV v e := ⟨_, rfl⟩
  rw [← hw] at r2 hv' ⊢
  obtain ⟨f2, b2, s1, s28, s29, s30, s4, s5, s6, s7, s8, s9⟩ := go_ok hv' (x := 500) (by decide) r2 (fun y hy => by rw [r4 10 (by decide) (by decide)]; exact h.2 y hy)
  have s1' : f_X7_go f1 c1 500 = some (f2, b2) := s1
  have hk : KpC fi ar f2 b2 := ⟨fun k hk => (s7 k (by omega)).trans (r3 k (by omega)), fun q h6 h7 h9 h10 => (s8 q h9 h10).trans (r4 q h6 h7)⟩
  have hl : Lived w r f2 b2 := by
    unfold Lived
    rw [s7 22 (by omega), s7 23 (by omega), s7 24 (by omega), s7 25 (by omega), s7 26 (by omega), s7 27 (by omega), s8 6 (by decide) (by decide), s8 7 (by decide) (by decide)]
    exact r2
  have hst : StC v f2 b2 := h.kp hk s9
  have hrest := rest_ok s29 s30 s6
  unfold f_X2_verdict
  rw [r1, bind2_some, s1', bind2_some, bindv_def, hrest]
  unfold vdS restI
  by_cases c : ringS (stS w r) 500 = 1
  · rw [if_pos c, if_neg (nI_nm1 (by omega)), if_pos c]
    obtain ⟨l1, t1, t2⟩ := measure_ok hv' s4 hl fl
    rw [t1, bind1_some]
    obtain ⟨F, hF⟩ : ∃ n : Nat, n = 5000 := ⟨_, rfl⟩
    obtain ⟨l2, u1⟩ := vd8_loop hv' s4 hl 16 F 0 l1 (by decide) (by omega) t2
    rw [← hF]
    refine ⟨f2, l2, b2, u1, hk, hst, fun _ => ?_⟩
    unfold f_X2_aidAtRest
    rw [bindv_def, bindv_def, hrest]
    unfold restI
    rw [if_pos c, aid_ok hv'.2.2.1 s4 hl.1 hl.2.2.2.1]
  · rw [if_neg c, if_pos rfl, if_neg c]
    exact ⟨f2, fl, b2, rfl, hk, hst, fun z => absurd z (by decide)⟩
theorem vd9_loop {v : Nat → Nat} (hv : Vok v) {br : Nat → Nat → Int32} (hb : ∀ k, k < 8 → br 1 k = nI (v k)) {r x : Nat} (hr : r < 4096) (hx : x ≤ 1000) {gi : Nat → Int32} (g8 : gi 8 = nI x) : ∀ (m n q : Nat) (gl : Nat → Int64), q + m = 16 → m < n → ∃ gl', f_X9_holdsOf_19 n (nI r) (nI q) gi gl br = some (vdG v r x m q, gi, gl', br) := by
  intro m
  induction m with
  | zero =>
    intro n q gl hq hn
    obtain ⟨n, rfl⟩ : ∃ z, n = z + 1 := ⟨n - 1, by omega⟩
    obtain rfl : q = 16 := by omega
    rw [f_X9_holdsOf_19, if_pos (by decide)]; exact ⟨gl, rfl⟩
  | succ m ih =>
    intro n q gl hq hn
    obtain ⟨n, rfl⟩ : ∃ z, n = z + 1 := ⟨n - 1, by omega⟩
    obtain ⟨l1, s1⟩ := gainOf_ok hv hb hr (q := q) (by omega) hx gl
    rw [f_X9_holdsOf_19, if_neg (show ¬ ((16 : Int32) ≤ nI q) from nI_ge (a := q) (b := 16) (by omega) (by decide)), g8, s1, bind2_some, bindv_def, nI_1, vdG]
    rcases gn_or v r q x with g | ⟨g1, g2⟩
    · rw [g, if_neg (by decide), if_pos rfl]; exact ⟨l1, rfl⟩
    · rw [if_pos g1, if_neg g2]
      exact ih n (q + 1) l1 (by omega) (by omega)
def KpM (gi : Nat → Int32) (br : Nat → Nat → Int32) (gi' : Nat → Int32) (br' : Nat → Nat → Int32) : Prop := (∀ q, q < 8 ∨ 10 < q → gi' q = gi q) ∧ ∀ q, q ≠ 4 → br' q = br q
theorem KpM.tr {f1 f2 f3 : Nat → Int32} {a1 a2 a3 : Nat → Nat → Int32} (h : KpM f1 a1 f2 a2) (h' : KpM f2 a2 f3 a3) : KpM f1 a1 f3 a3 := ⟨fun k hk => (h'.1 k hk).trans (h.1 k hk), fun q q4 => (h'.2 q q4).trans (h.2 q q4)⟩
def StM (v : Nat → Nat) (br : Nat → Nat → Int32) : Prop := ∀ k, k < 8 → br 1 k = nI (v k)
theorem StM.kp {v : Nat → Nat} {gi gi' : Nat → Int32} {br br' : Nat → Nat → Int32} (h : StM v br) (k : KpM gi br gi' br') : StM v br' := fun j hj => by rw [k.2 1 (by decide)]; exact h j hj
theorem holdsOf_ok {v : Nat → Nat} (hv : Vok v) {br : Nat → Nat → Int32} (hb : StM v br) {r : Nat} (hr : r < 4096) (gi : Nat → Int32) (gl : Nat → Int64) :
    ∃ gi' gl' br', f_X9_holdsOf gi gl br (nI r) = some (vdS v r, gi', gl', br') ∧ KpM gi br gi' br' ∧ gi' 8 = restI (stS v r) 500 := by
  obtain ⟨g2, c2, t1, t9, t10, t8, t4, t5⟩ := goFrom_ok hv hb hr (x := 500) (by decide) gi
  have t1' : f_X9_goFrom gi br (nI r) 500 = some (g2, c2) := t1
  have hk : KpM gi br g2 c2 := ⟨t4, t5⟩
  unfold f_X9_holdsOf
  rw [t1', bind2_some, t8]
  unfold vdS
  have he := end_le hv r (x := 500) (by decide)
  by_cases c : ringS (stS v r) 500 = 1
  · have e8 : restI (stS v r) 500 = nI (endS (stS v r) 500) := if_pos c
    rw [e8, if_pos (nI_pos' (by omega)), if_pos c]
    obtain ⟨F, hF⟩ : ∃ n : Nat, n = 5000 := ⟨_, rfl⟩
    obtain ⟨l2, u1⟩ := vd9_loop hv (hb.kp hk) hr he (t8.trans e8) 16 F 0 gl (by decide) (by omega)
    rw [← hF]
    exact ⟨g2, l2, c2, u1, hk, t8.trans e8⟩
  · have e8 : restI (stS v r) 500 = -1 := if_neg c
    rw [e8, if_neg (by decide), if_neg c]
    exact ⟨g2, gl, c2, rfl, hk, t8.trans e8⟩
theorem Rel.kp {fi fi' : Nat → Int32} {fl fl' : Nat → Int64} {ar ar' : Nat → Nat → Int32} {gi gi' : Nat → Int32} {gl gl' : Nat → Int64} {br br' : Nat → Nat → Int32} (h : Rel fi fl ar gi gl br) (hc : KpC fi ar fi' ar') (h10 : ∀ y, y ≤ 1000 → ar' 10 y = 0) (hm : KpM gi br gi' br') : Rel fi' fl' ar' gi' gl' br' := h.keep hc.1 hc.2 h10 hm.1 hm.2
theorem st_holds {fi : Nat → Int32} {fl : Nat → Int64} {ar : Nat → Nat → Int32} {gi : Nat → Int32} {gl : Nat → Int64} {br : Nat → Nat → Int32} (h : Rel fi fl ar gi gl br) (a0 : Int32) : ∃ (r : Int32) (fi' : Nat → Int32) (fl' : Nat → Int64) (ar' : Nat → Nat → Int32) (gi' : Nat → Int32) (gl' : Nat → Int64) (br' : Nat → Nat → Int32), f_X8_holds fi fl ar a0 = some (r, fi', fl', ar') ∧ f_X9_holds gi gl br a0 = some (r, gi', gl', br') ∧ Rel fi' fl' ar' gi' gl' br' := by
  unfold f_X8_holds f_X9_holds
  rw [bindv_def, bindv_def, rule9]
  rcases rule_c a0 with q | ⟨q, r, hr, rfl⟩
  · rw [q, if_pos rfl, if_pos rfl]; exact ⟨_, _, _, _, _, _, _, rfl, rfl, h⟩
  rw [q, if_neg n10, if_neg n10]
  have h' := h
  obtain ⟨v, ⟨hv, hf, hb⟩, -, -, -, -, hc, -⟩ := h'
  obtain ⟨f1, l1, c1, r1, r2, r3, r4⟩ := verdict_ok hv hr hv.2.2.2.1 ⟨hf, hc⟩ fl
  obtain ⟨g1, m1, d1, s1, s2, s3⟩ := holdsOf_ok hv hb hr gi gl
  rw [eye_self] at r1
  rw [vil_e hf, r1, bind4_some, s1, bind4_some]
  exact ⟨_, _, _, _, _, _, _, rfl, rfl, h.kp r2 r3.2 s2⟩
theorem eye8_loop {v : Nat → Nat} (hv : Vok v) {r : Nat} (hr : r < 4096) : ∀ (m n e : Nat) (fi : Nat → Int32) (fl : Nat → Int64) (ar : Nat → Nat → Int32), e + m = 51 → m < n → StC v fi ar → ∃ fi' fl' ar', f_X2_greatestEye_2 n (nI r) (nI e) fi fl ar = some (nI (brG v r m e) - 1, fi', fl', ar') ∧ KpC fi ar fi' ar' ∧ StC v fi' ar' := by
  intro m
  induction m with
  | zero =>
    intro n e fi fl ar he hn hs
    obtain ⟨n, rfl⟩ : ∃ z, n = z + 1 := ⟨n - 1, by omega⟩
    obtain rfl : e = 51 := by omega
    rw [f_X2_greatestEye_2, if_pos (by decide)]
    exact ⟨fi, fl, ar, rfl, ⟨fun _ _ => rfl, fun _ _ _ _ _ => rfl⟩, hs⟩
  | succ m ih =>
    intro n e fi fl ar he hn hs
    obtain ⟨n, rfl⟩ : ∃ z, n = z + 1 := ⟨n - 1, by omega⟩
    obtain ⟨f1, l1, c1, r1, r2, r3, r4⟩ := verdict_ok hv hr (show e ≤ 50 by omega) hs fl
    rw [f_X2_greatestEye_2, if_neg (show ¬ ((50 : Int32) < nI e) from nI_nlt (a := 50) (b := e) (by omega) (by decide)), r1, bind4_some, bindv_def, nI_1, brG]
    by_cases c : vdS (eyeV v e) r = 1
    · rw [if_pos c, if_pos c]
      obtain ⟨f2, l2, c2, s1, s2, s3⟩ := ih n (e + 1) f1 l1 c1 (by omega) (by omega) r3
      exact ⟨f2, l2, c2, s1, r2.tr s2, s3⟩
    · rw [if_neg c, if_neg c]
      exact ⟨f1, l1, c1, rfl, r2, r3⟩
theorem greatestEye_ok {v : Nat → Nat} (hv : Vok v) {r : Nat} (hr : r < 4096) {fi : Nat → Int32} (fl : Nat → Int64) {ar : Nat → Nat → Int32} (h : StC v fi ar) : ∃ fi' fl' ar', f_X2_greatestEye fi fl ar (nI r) = some (brI v r, fi', fl', ar') ∧ KpC fi ar fi' ar' ∧ StC v fi' ar' := by
  obtain ⟨F, hF⟩ : ∃ n : Nat, n = 5000 := ⟨_, rfl⟩
  unfold f_X2_greatestEye
  rw [← hF]
  exact eye8_loop hv hr 51 F 0 fi fl ar (by decide) (by omega) h
theorem eye9_loop {v : Nat → Nat} (hv : Vok v) {r : Nat} (hr : r < 4096) : ∀ (m n e : Nat) (gi : Nat → Int32) (gl : Nat → Int64) (br : Nat → Nat → Int32), e + m = 51 → m + 1 < n → (∀ k, k < 8 → k ≠ 3 → br 1 k = nI (v k)) → ∃ gi' gl' br', f_X9_bearsOf_12 n (nI r) (nI (v 3)) (nI e) 1 gi gl br = some (nI (brG v r m e) - 1, gi', gl', br') ∧ (∀ q, q < 8 ∨ 10 < q → gi' q = gi q) ∧ (∀ q, q ≠ 4 → q ≠ 1 → br' q = br q) ∧ br' 1 3 = nI (v 3) ∧ ∀ k, k ≠ 3 → br' 1 k = br 1 k := by
  have ex : ∀ (E : Int32) (gi : Nat → Int32) (gl : Nat → Int64) (br : Nat → Nat → Int32), ∃ gi' gl' br', f_X9_bearsOf_57 (nI (v 3)) E gi gl br = some (E - 1, gi', gl', br') ∧ (∀ q, q < 8 ∨ 10 < q → gi' q = gi q) ∧ (∀ q, q ≠ 4 → q ≠ 1 → br' q = br q) ∧ br' 1 3 = nI (v 3) ∧ ∀ k, k ≠ 3 → br' 1 k = br 1 k := by
    intro E gi gl br
    unfold f_X9_bearsOf_57
    rw [bindv_def]
    refine ⟨gi, gl, _, rfl, fun _ _ => rfl, fun q h4 h1 => updA_ne _ _ h1, ?_, fun k hk => ?_⟩
    · rw [updA_eq]; exact upd_eq _ _ _
    · rw [updA_eq]; exact upd_ne _ _ hk
  intro m
  induction m with
  | zero =>
    intro n e gi gl br he hn hb
    obtain ⟨n, rfl⟩ : ∃ z, n = z + 1 := ⟨n - 1, by omega⟩
    obtain rfl : e = 51 := by omega
    rw [f_X9_bearsOf_12, if_neg n10, if_pos (by decide)]
    exact ex _ gi gl br
  | succ m ih =>
    intro n e gi gl br he hn hb
    obtain ⟨n, rfl⟩ : ∃ z, n = z + 1 := ⟨n - 1, by omega⟩
    obtain ⟨b1, eb1⟩ : ∃ z, z = updA br 1 (upd (br 1) 3 (nI e)) := ⟨_, rfl⟩
    have hb1 : StM (eyeV v e) b1 := by
      intro k hk
      rw [eb1, updA_eq]
      unfold eyeV
      by_cases c : k = 3
      · rw [if_pos c, c, upd_eq]
      · rw [if_neg c, upd_ne _ _ c]; exact hb k hk c
    obtain ⟨g1, l1, c1, s1, s2, s3⟩ := holdsOf_ok (Vok_eye hv (show e ≤ 50 by omega)) hb1 hr gi gl
    have q1 : ∀ q, q ≠ 4 → q ≠ 1 → c1 q = br q := fun q h4 h1 => by rw [s2.2 q h4, eb1, updA_ne _ _ h1]
    have q2 : ∀ k, k ≠ 3 → c1 1 k = br 1 k := fun k hk => by rw [s2.2 1 (by decide), eb1, updA_eq, upd_ne _ _ hk]
    have step : f_X9_bearsOf_12 (n + 1) (nI r) (nI (v 3)) (nI e) 1 gi gl br = if vdS (eyeV v e) r = 1 then f_X9_bearsOf_12 n (nI r) (nI (v 3)) (nI (e + 1)) 1 g1 l1 c1 else f_X9_bearsOf_12 n (nI r) (nI (v 3)) (nI e) 0 g1 l1 c1 := by
      rw [f_X9_bearsOf_12, if_neg n10, if_neg (show ¬ ((50 : Int32) < nI e) from nI_nlt (a := 50) (b := e) (by omega) (by decide)), bindv_def, show Int32.toNatClampNeg 3 = 3 from rfl, ← eb1, s1, bind4_some]
      unfold f_X9_bearsOf_44
      simp only [bindv_def]
      rw [show f_X9_one 1 = 1 from rfl, show f_X9_one 0 = 0 from rfl, nI_1, Int32.add_zero]
    rw [step, brG]
    by_cases c : vdS (eyeV v e) r = 1
    · rw [if_pos c, if_pos c]
      obtain ⟨g2, l2, c2, t1, t2, t3, t4, t5⟩ := ih n (e + 1) g1 l1 c1 (by omega) (by omega) (fun k hk h3 => by rw [q2 k h3]; exact hb k hk h3)
      exact ⟨g2, l2, c2, t1, fun q hq => (t2 q hq).trans (s2.1 q hq), fun q h4 h1 => (t3 q h4 h1).trans (q1 q h4 h1), t4, fun k hk => (t5 k hk).trans (q2 k hk)⟩
    · rw [if_neg c, if_neg c]
      obtain ⟨n, rfl⟩ : ∃ z, n = z + 1 := ⟨n - 1, by omega⟩
      rw [f_X9_bearsOf_12, if_pos rfl]
      obtain ⟨g2, l2, c2, t1, t2, t3, t4, t5⟩ := ex (nI e) g1 l1 c1
      exact ⟨g2, l2, c2, t1, fun q hq => (t2 q hq).trans (s2.1 q hq), fun q h4 h1 => (t3 q h4 h1).trans (q1 q h4 h1), t4, fun k hk => (t5 k hk).trans (q2 k hk)⟩
theorem bearsOf_ok {v : Nat → Nat} (hv : Vok v) {br : Nat → Nat → Int32} (hb : StM v br) {r : Nat} (hr : r < 4096) (gi : Nat → Int32) (gl : Nat → Int64) : ∃ gi' gl' br', f_X9_bearsOf gi gl br (nI r) = some (brI v r, gi', gl', br') ∧ KpM gi br gi' br' := by
  obtain ⟨F, hF⟩ : ∃ n : Nat, n = 5000 := ⟨_, rfl⟩
  have hb3 : br 1 (Int32.toNatClampNeg 3) = nI (v 3) := hb 3 (by decide)
  unfold f_X9_bearsOf
  rw [bindv_def, hb3, ← hF]
  obtain ⟨g2, l2, c2, t1, t2, t3, t4, t5⟩ := eye9_loop hv hr 51 F 0 gi gl br (by decide) (by omega) (fun k hk _ => hb k hk)
  refine ⟨g2, l2, c2, t1, t2, fun q hq => ?_⟩
  by_cases c : q = 1
  · rw [c]
    funext k
    by_cases d : k = 3
    · rw [d, t4]; exact (hb 3 (by decide)).symm
    · exact t5 k d
  · exact t3 q hq c
theorem st_bears {fi : Nat → Int32} {fl : Nat → Int64} {ar : Nat → Nat → Int32} {gi : Nat → Int32} {gl : Nat → Int64} {br : Nat → Nat → Int32} (h : Rel fi fl ar gi gl br) (a0 : Int32) : ∃ (r : Int32) (fi' : Nat → Int32) (fl' : Nat → Int64) (ar' : Nat → Nat → Int32) (gi' : Nat → Int32) (gl' : Nat → Int64) (br' : Nat → Nat → Int32), f_X8_bears fi fl ar a0 = some (r, fi', fl', ar') ∧ f_X9_bears gi gl br a0 = some (r, gi', gl', br') ∧ Rel fi' fl' ar' gi' gl' br' := by
  unfold f_X8_bears f_X9_bears
  rw [bindv_def, bindv_def, rule9]
  rcases rule_c a0 with q | ⟨q, r, hr, rfl⟩
  · rw [q, if_pos rfl, if_pos rfl]; exact ⟨_, _, _, _, _, _, _, rfl, rfl, h⟩
  rw [q, if_neg n10, if_neg n10]
  have h' := h
  obtain ⟨v, ⟨hv, hf, hb⟩, -, -, -, -, hc, -⟩ := h'
  obtain ⟨f1, l1, c1, r1, r2, r3⟩ := greatestEye_ok hv hr fl ⟨hf, hc⟩
  obtain ⟨g1, m1, d1, s1, s2⟩ := bearsOf_ok hv hb hr gi gl
  rw [r1, bind4_some, s1, bind4_some]
  exact ⟨_, _, _, _, _, _, _, rfl, rfl, h.kp r2 r3.2 s2⟩
