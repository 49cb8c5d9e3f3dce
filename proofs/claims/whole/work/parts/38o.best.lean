/-! best -/
theorem i32_lt_of_not_le {a b : Int32} (h : ¬ a ≤ b) : b < a := Int32.not_le.mp h
theorem i32_le_trans {a b c : Int32} (h : a ≤ b) (h' : b ≤ c) : a ≤ c := by
  rw [Int32.le_iff_toInt_le] at *; omega
theorem i32_lt_ne {a b c : Int32} (h : a ≤ b) (h' : b < c) : ¬ a = c := by
  intro e
  rw [Int32.le_iff_toInt_le] at h
  rw [Int32.lt_iff_toInt_lt] at h'
  rw [e] at h; omega
theorem i32_le_lt {a b c : Int32} (h : a ≤ b) (h' : b < c) : a < c := by
  rw [Int32.le_iff_toInt_le] at h
  rw [Int32.lt_iff_toInt_lt] at *
  omega
theorem i32_lt_le {a b c : Int32} (h : a < b) (h' : b ≤ c) : a < c := by
  rw [Int32.le_iff_toInt_le] at h'
  rw [Int32.lt_iff_toInt_lt] at *
  omega
theorem i32_le_of_lt {a b : Int32} (h : a < b) : a ≤ b := by
  rw [Int32.le_iff_toInt_le]
  rw [Int32.lt_iff_toInt_lt] at h
  omega
theorem i32_refl (a : Int32) : a ≤ a := by rw [Int32.le_iff_toInt_le]; omega
theorem nI_m1lt (l : Nat) (h : l < 2 ^ 31) : (-1 : Int32) < nI l := by
  rw [Int32.lt_iff_toInt_lt, nI_toInt h, show (-1 : Int32).toInt = -1 by decide]; omega
theorem top_ge (v : Nat → Nat) : ∀ n r, r < n → aidI v r ≤ topI v n := by
  intro n
  induction n with
  | zero => intro r h; omega
  | succ n ih =>
    intro r h
    rw [topI]
    by_cases c : topI v n < aidI v n
    · rw [if_pos c]
      by_cases e : r = n
      · rw [e]; exact i32_refl _
      · exact i32_le_of_lt (i32_le_lt (ih r (by omega)) c)
    · rw [if_neg c]
      by_cases e : r = n
      · rw [e]; exact Int32.not_lt.mp c
      · exact ih r (by omega)
def Bst (v : Nat → Nat) (L : Int32) (r : Nat) (b most : Int32) : Prop := (topI v r ≤ L ∧ b = -1 ∧ most = -1) ∨ (L < topI v r ∧ most = topI v r ∧ ∃ j, j < r ∧ b = nI j ∧ aidI v j = topI v r ∧ ∀ i, i < j → ¬ aidI v i = topI v r)
theorem bst_skip {v : Nat → Nat} {L : Int32} {r : Nat} {b most : Int32} (h : Bst v L r b most) (ha : aidI v r ≤ L) : Bst v L (r + 1) b most := by
  unfold Bst
  rw [topI]
  rcases h with ⟨h1, h2, h3⟩ | ⟨h1, h2, j, hj, h3, h4, h5⟩
  · left
    by_cases c : topI v r < aidI v r
    · rw [if_pos c]; exact ⟨ha, h2, h3⟩
    · rw [if_neg c]; exact ⟨h1, h2, h3⟩
  · right
    have c : ¬ topI v r < aidI v r := Int32.not_lt.mpr (i32_le_trans ha (i32_le_of_lt h1))
    rw [if_neg c]
    exact ⟨h1, h2, j, by omega, h3, h4, h5⟩
theorem bst_take {v : Nat → Nat} {L : Int32} (hL : -1 ≤ L) {r : Nat} {b most : Int32} (h : Bst v L r b most) (ha : L < aidI v r) (hm : ¬ aidI v r ≤ most) : Bst v L (r + 1) (nI r) (aidI v r) := by
  unfold Bst
  rw [topI]
  have c : topI v r < aidI v r := by
    rcases h with ⟨h1, h2, h3⟩ | ⟨h1, h2, j, hj, h3, h4, h5⟩
    · exact i32_le_lt h1 ha
    · rw [← h2]; exact i32_lt_of_not_le hm
  right
  rw [if_pos c]
  exact ⟨ha, rfl, r, by omega, rfl, rfl, fun i hi => i32_lt_ne (top_ge v r i hi) c⟩
theorem bst_keep {v : Nat → Nat} {L : Int32} (hL : -1 ≤ L) {r : Nat} {b most : Int32} (h : Bst v L r b most) (ha : L < aidI v r) (hm : aidI v r ≤ most) : Bst v L (r + 1) b most := by
  unfold Bst
  rw [topI]
  rcases h with ⟨h1, h2, h3⟩ | ⟨h1, h2, j, hj, h3, h4, h5⟩
  · rw [h3] at hm
    exact absurd rfl (i32_lt_ne (i32_le_trans hm hL) ha)
  · right
    have c : ¬ topI v r < aidI v r := by rw [← h2]; exact Int32.not_lt.mpr hm
    rw [if_neg c]
    exact ⟨h1, h2, j, by omega, h3, h4, h5⟩
theorem mh9_loop {v : Nat → Nat} (hv : Vok v) {l : Nat} (hl : l ≤ 999999) : ∀ (m n r : Nat) (b most : Int32) (gi : Nat → Int32) (gl : Nat → Int64) (br : Nat → Nat → Int32), r + m = 4096 → m < n → StM v br → gi 0 = nI l → Bst v (nI l) r b most →
    ∃ b' most' gi' gl' br', f_X9_mostHelped_6 n b most (nI r) gi gl br = some (b', gi', gl', br') ∧ Bst v (nI l) 4096 b' most' ∧ KpM gi br gi' br' := by
  intro m
  induction m with
  | zero =>
    intro n r b most gi gl br hr hn hb g0 hB
    obtain ⟨n, rfl⟩ : ∃ z, n = z + 1 := ⟨n - 1, by omega⟩
    obtain rfl : r = 4096 := by omega
    rw [f_X9_mostHelped_6, if_pos (by decide)]
    exact ⟨_, most, _, _, _, rfl, hB, fun _ _ => rfl, fun _ _ => rfl⟩
  | succ m ih =>
    intro n r b most gi gl br hr hn hb g0 hB
    obtain ⟨n, rfl⟩ : ∃ z, n = z + 1 := ⟨n - 1, by omega⟩
    obtain ⟨g1, l1, c1, s1, s2, s3⟩ := isHolding_ok hv hb (show r < 4096 by omega) hl g0 gl
    have hl4 : ¬ ((4096 : Int32) ≤ nI r) := nI_ge (a := r) (b := 4096) (by omega) (by decide)
    rw [f_X9_mostHelped_6, if_neg hl4, s1, bind4_some]
    unfold hdI f_X9_mostHelped_43 f_X9_mostHelped_56 f_X9_mostHelped_57
    simp only [bindv_def]
    rw [nI_1]
    have go : ∀ (b2 m2 : Int32), Bst v (nI l) (r + 1) b2 m2 → ∃ b' most' gi' gl' br', f_X9_mostHelped_6 n b2 m2 (nI (r + 1)) g1 l1 c1 = some (b', gi', gl', br') ∧ Bst v (nI l) 4096 b' most' ∧ KpM gi br gi' br' := by
      intro b2 m2 hB2
      obtain ⟨b', m', g2, l2, c2, t1, t2, t3⟩ := ih n (r + 1) b2 m2 g1 l1 c1 (by omega) (by omega) (hb.kp s2) ((s2.1 0 (by omega)).trans g0) hB2
      exact ⟨b', m', g2, l2, c2, t1, t2, s2.tr t3⟩
    by_cases d : aidI v r ≤ nI l
    · rw [if_pos d, if_pos rfl]
      exact go b most (bst_skip hB d)
    · have hLa : -1 ≤ nI l := i32_le_of_lt (nI_m1lt l (by omega))
      rw [if_neg d, if_neg n10, s3 d, bind1_some]
      by_cases q : aidI v r ≤ most
      · rw [if_pos q, if_pos q]
        exact go b most (bst_keep hLa hB (i32_lt_of_not_le d) q)
      · rw [if_neg q, if_neg q]
        exact go (nI r) (aidI v r) (bst_take hLa hB (i32_lt_of_not_le d) q)
theorem mostHelped9 {v : Nat → Nat} (hv : Vok v) {l : Nat} (hl : l ≤ 999999) {gi : Nat → Int32} (gl : Nat → Int64) {br : Nat → Nat → Int32} (hb : StM v br) (g0 : gi 0 = nI l) : ∃ b' most' gi' gl' br', f_X9_mostHelped gi gl br = some (b', gi', gl', br') ∧ Bst v (nI l) 4096 b' most' ∧ KpM gi br gi' br' := by
  obtain ⟨F, hF⟩ : ∃ n : Nat, n = 5000 := ⟨_, rfl⟩
  unfold f_X9_mostHelped
  rw [← hF]
  exact mh9_loop hv hl 4096 F 0 (-1) (-1) gi gl br (by decide) (by omega) hb g0 (Or.inl ⟨i32_le_of_lt (nI_m1lt l (by omega)), rfl, rfl⟩)
theorem mh8_none {v : Nat → Nat} {fi : Nat → Int32} {ar : Nat → Nat → Int32} (ha : ∀ r, r < 4096 → ar 14 r = aidI v r) {L : Int32} (hL : ∀ r, r < 4096 → aidI v r ≤ L) : ∀ (m n i : Nat), i + m = 4096 → m < n → f_X4_mostHelped_2 fi ar n L (nI i) = some (-1) := by
  intro m
  induction m with
  | zero =>
    intro n i hi hn
    obtain ⟨n, rfl⟩ : ∃ z, n = z + 1 := ⟨n - 1, by omega⟩
    obtain rfl : i = 4096 := by omega
    rw [f_X4_mostHelped_2, if_pos (by decide)]
  | succ m ih =>
    intro n i hi hn
    obtain ⟨n, rfl⟩ : ∃ z, n = z + 1 := ⟨n - 1, by omega⟩
    rw [f_X4_mostHelped_2, if_neg (show ¬ ((4096 : Int32) ≤ nI i) from nI_ge (a := i) (b := 4096) (by omega) (by decide)), gd_nI (by omega) (by decide), clampN (by omega), ha i (by omega), if_pos (hL i (by omega))]
    unfold f_X4_mostHelped_34
    rw [bindv_def, nI_1]
    exact ih n (i + 1) (by omega) (by omega)
theorem mh8_first {v : Nat → Nat} {fi : Nat → Int32} {ar : Nat → Nat → Int32} (ha : ∀ r, r < 4096 → ar 14 r = aidI v r) {L : Int32} {j : Nat} (hj : j < 4096) (h32 : fi 32 = aidI v j) (hL : L < aidI v j) (hf : ∀ i, i < j → ¬ aidI v i = aidI v j) : ∀ (m n i : Nat), i + m = j → m < n → f_X4_mostHelped_2 fi ar n L (nI i) = some (nI j) := by
  intro m
  induction m with
  | zero =>
    intro n i hi hn
    obtain ⟨n, rfl⟩ : ∃ z, n = z + 1 := ⟨n - 1, by omega⟩
    obtain rfl : i = j := by omega
    rw [f_X4_mostHelped_2, if_neg (show ¬ ((4096 : Int32) ≤ nI i) from nI_ge (a := i) (b := 4096) (by omega) (by decide)), gd_nI (by omega) (by decide), gd_nI (by omega) (by decide), clampN (by omega), ha i (by omega), if_neg (Int32.not_le.mpr hL), if_pos h32.symm]
  | succ m ih =>
    intro n i hi hn
    obtain ⟨n, rfl⟩ : ∃ z, n = z + 1 := ⟨n - 1, by omega⟩
    rw [f_X4_mostHelped_2, if_neg (show ¬ ((4096 : Int32) ≤ nI i) from nI_ge (a := i) (b := 4096) (by omega) (by decide)), gd_nI (by omega) (by decide), gd_nI (by omega) (by decide), clampN (by omega), ha i (by omega), h32, if_neg (hf i (by omega))]
    unfold f_X4_mostHelped_34
    rw [bindv_def, nI_1]
    have := ih n (i + 1) (by omega) (by omega)
    by_cases q : aidI v i ≤ L
    · rw [if_pos q]; exact this
    · rw [if_neg q]; exact this
theorem mostHelped8 {v : Nat → Nat} {fi : Nat → Int32} {ar : Nat → Nat → Int32} (hm : Mk v fi ar) {L b most : Int32} (h : Bst v L 4096 b most) : f_X4_mostHelped fi ar L = some b := by
  obtain ⟨F, hF⟩ : ∃ n : Nat, n = 5000 := ⟨_, rfl⟩
  unfold f_X4_mostHelped
  rw [← hF]
  rcases h with ⟨h1, h2, h3⟩ | ⟨h1, h2, j, hj, h3, h4, h5⟩
  · rw [h2]
    exact mh8_none hm.2.1 (fun r hr => i32_le_trans (top_ge v 4096 r hr) h1) 4096 F 0 (by decide) (by omega)
  · rw [h3]
    rw [← h4] at h1 h5
    exact mh8_first hm.2.1 hj (hm.2.2.1.trans h4.symm) h1 h5 j F 0 (by omega) (by omega)
theorem pl_dec : ∀ p, p < 6 → ∀ k, k < 6 → ((0 - nI p ≤ 0 - nI k) ↔ k ≤ p) := by decide +kernel
theorem pl_loop {v : Nat → Nat} (hv : Vok v) {l : Nat} (hl : l ≤ 999999) {ar : Nat → Nat → Int32} (ha : ∀ r, r < 4096 → ar 14 r = aidI v r) : ∀ (m n n' r : Nat) (b few val : Int32) (gi : Nat → Int32) (gl : Nat → Int64) (br : Nat → Nat → Int32), r + m = 4096 → m < n → m < n' → StM v br → gi 0 = nI l → ((b = -1 ∧ few = 6) ∨ ∃ j k, j < 4096 ∧ k < 6 ∧ b = nI j ∧ few = nI k ∧ val = 0 - nI k) →
    ∃ z gi' gl' br', f_X4_plainest_8 ar n (nI l) b few (nI r) = some z ∧ f_X9_best_69 n' 1 0 b val (nI r) gi gl br = some (z, gi', gl', br') ∧ KpM gi br gi' br' := by
  intro m
  induction m with
  | zero =>
    intro n n' r b few val gi gl br hr hn hn' hb g0 hi
    obtain ⟨n, rfl⟩ : ∃ z, n = z + 1 := ⟨n - 1, by omega⟩
    obtain ⟨n', rfl⟩ : ∃ z, n' = z + 1 := ⟨n' - 1, by omega⟩
    obtain rfl : r = 4096 := by omega
    rw [f_X4_plainest_8, f_X9_best_69, if_pos (by decide), if_pos (by decide)]
    exact ⟨_, _, _, _, rfl, rfl, fun _ _ => rfl, fun _ _ => rfl⟩
  | succ m ih =>
    intro n n' r b few val gi gl br hr hn hn' hb g0 hi
    obtain ⟨n, rfl⟩ : ∃ z, n = z + 1 := ⟨n - 1, by omega⟩
    obtain ⟨n', rfl⟩ : ∃ z, n' = z + 1 := ⟨n' - 1, by omega⟩
    obtain ⟨g1, l1, c1, s1, s2, s3⟩ := isHolding_ok hv hb (show r < 4096 by omega) hl g0 gl
    obtain ⟨p, hp, e1, e2⟩ := plain_ok (show r < 4096 by omega)
    have hl4 : ¬ ((4096 : Int32) ≤ nI r) := nI_ge (a := r) (b := 4096) (by omega) (by decide)
    rw [f_X4_plainest_8, f_X9_best_69, if_neg hl4, if_neg hl4, gd_nI (by omega) (by decide), clampN (by omega), ha r (by omega), s1, bind4_some, e1, bind1_some, bind1_some, if_pos rfl]
    unfold hdI f_X9_best_105 f_X9_best_126 f_X9_best_140 f_X9_best_148 f_X4_plainest_48
    simp only [bindv_def]
    rw [if_pos trivial, e2, bind1_some, nI_1]
    have go : ∀ (b2 few2 val2 : Int32), ((b2 = -1 ∧ few2 = 6) ∨ ∃ j k, j < 4096 ∧ k < 6 ∧ b2 = nI j ∧ few2 = nI k ∧ val2 = 0 - nI k) → ∃ z gi' gl' br', f_X4_plainest_8 ar n (nI l) b2 few2 (nI (r + 1)) = some z ∧ f_X9_best_69 n' 1 0 b2 val2 (nI (r + 1)) g1 l1 c1 = some (z, gi', gl', br') ∧ KpM gi br gi' br' := by
      intro b2 few2 val2 h2
      obtain ⟨z, g2, l2, c2, t1, t2, t3⟩ := ih n n' (r + 1) b2 few2 val2 g1 l1 c1 (by omega) (by omega) (by omega) (hb.kp s2) ((s2.1 0 (by omega)).trans g0) h2
      exact ⟨z, g2, l2, c2, t1, t2, s2.tr t3⟩
    by_cases d : aidI v r ≤ nI l
    · rw [if_pos d, if_pos d, if_pos rfl]
      exact go b few val hi
    · rw [if_neg d, if_neg d, if_neg n10]
      rcases hi with ⟨h1, h2⟩ | ⟨j, k, hj, hk, h1, h2, h3⟩
      · rw [h1, h2, if_pos (show nI p < (6 : Int32) from nI_lt (a := p) (b := 6) (by omega) (by decide)), if_pos (show (-1 : Int32) < 0 by decide)]
        exact go _ _ _ (Or.inr ⟨r, p, by omega, by omega, rfl, rfl, rfl⟩)
      · rw [h1, h2, h3, if_neg (nI_pos (by omega) : ¬ nI j < 0)]
        by_cases q : p < k
        · rw [if_pos (nI_lt (by omega) (by omega)), if_neg (fun z => by have := (pl_dec p (by omega) k hk).mp z; omega)]
          exact go _ _ _ (Or.inr ⟨r, p, by omega, by omega, rfl, rfl, rfl⟩)
        · rw [if_neg (nI_nlt (by omega) (by omega)), if_pos ((pl_dec p (by omega) k hk).mpr (by omega))]
          exact go _ _ _ (Or.inr ⟨j, k, hj, hk, rfl, rfl, rfl⟩)
theorem brG_le (v : Nat → Nat) (r : Nat) : ∀ m e, brG v r m e ≤ e + m := by
  intro m
  induction m with
  | zero => intro e; exact Nat.le_refl _
  | succ m ih =>
    intro e
    rw [brG]
    have := ih (e + 1)
    split <;> omega
theorem brI_b (v : Nat → Nat) (r : Nat) : (-2 : Int32) < brI v r ∧ brI v r ≤ 50 := by
  have h := brG_le v r 51 0
  have d : ∀ k, k < 52 → (-2 : Int32) < nI k - 1 ∧ nI k - 1 ≤ 50 := by decide +kernel
  exact d _ (by omega)
theorem fm_stop (v : Nat → Nat) (top : Int32) : ∀ (m r : Nat) (f most : Int32), 50 ≤ most → fmG v top m r f most = f := by
  intro m
  induction m with
  | zero => intro r f most h; rfl
  | succ m ih =>
    intro r f most h
    have c : ¬ most < brI v r := Int32.not_lt.mpr (i32_le_trans (brI_b v r).2 h)
    rw [fmG, if_neg c, ih (r + 1) f most h]
    split <;> rfl
theorem fm8_loop {v : Nat → Nat} (hv : Vok v) {top : Int32} : ∀ (m n r : Nat) (most : Int32) (fi : Nat → Int32) (fl : Nat → Int64) (ar : Nat → Nat → Int32), r + m = 4096 → m < n → StC v fi ar → (∀ r, r < 4096 → ar 14 r = aidI v r) → fi 32 = top →
    ∃ fi' fl' ar', f_X4_firmest_29 n most (nI r) fi fl ar = some (fmG v top m r (fi 33) most, fi', fl', ar') ∧ fi' 33 = fmG v top m r (fi 33) most ∧ (∀ k, k < 22 ∨ k = 31 ∨ k = 32 → fi' k = fi k) ∧ (∀ q, q ≠ 6 → q ≠ 7 → q ≠ 9 → q ≠ 10 → ar' q = ar q) ∧ StC v fi' ar' := by
  intro m
  induction m with
  | zero =>
    intro n r most fi fl ar hr hn hs ha ht
    obtain ⟨n, rfl⟩ : ∃ z, n = z + 1 := ⟨n - 1, by omega⟩
    obtain rfl : r = 4096 := by omega
    rw [f_X4_firmest_29, if_pos (by decide)]
    exact ⟨fi, fl, ar, rfl, rfl, fun _ _ => rfl, fun _ _ _ _ _ => rfl, hs⟩
  | succ m ih =>
    intro n r most fi fl ar hr hn hs ha ht
    obtain ⟨n, rfl⟩ : ∃ z, n = z + 1 := ⟨n - 1, by omega⟩
    have hl4 : ¬ ((4096 : Int32) ≤ nI r) := nI_ge (a := r) (b := 4096) (by omega) (by decide)
    rw [f_X4_firmest_29, if_neg hl4]
    by_cases c50 : 50 ≤ most
    · rw [if_pos c50, fm_stop v top _ _ _ _ c50]
      exact ⟨fi, fl, ar, rfl, rfl, fun _ _ => rfl, fun _ _ _ _ _ => rfl, hs⟩
    · rw [if_neg c50, gd_nI (by omega) (by decide), clampN (by omega), ha r (by omega), ht, fmG]
      unfold f_X4_firmest_85
      simp only [bindv_def]
      rw [nI_1]
      by_cases q : aidI v r = top
      · rw [if_pos q, if_pos q]
        obtain ⟨f1, l1, c1, r1, r2, r3⟩ := greatestEye_ok hv (show r < 4096 by omega) fl hs
        rw [r1, bind4_some]
        have ha1 : ∀ r, r < 4096 → c1 14 r = aidI v r := fun j hj => by rw [r2.2 14 (by decide) (by decide) (by decide) (by decide)]; exact ha j hj
        by_cases w : most < brI v r
        · rw [if_pos w, if_pos w]
          obtain ⟨f2, l2, c2, t1, t2, t3, t4, t5⟩ := ih n (r + 1) (brI v r) (upd f1 33 (nI r)) l1 c1 (by omega) (by omega) ⟨fun k hk => by rw [upd_ne _ _ (by omega)]; exact r3.1 k hk, r3.2⟩ ha1 (by rw [upd_ne _ _ (by decide), r2.1 32 (by omega)]; exact ht)
          rw [upd_eq] at t1 t2
          exact ⟨f2, l2, c2, t1, t2, fun k hk => by rw [t3 k hk, upd_ne _ _ (by omega)]; exact r2.1 k (by omega), fun q q6 q7 q9 q10 => (t4 q q6 q7 q9 q10).trans (r2.2 q q6 q7 q9 q10), t5⟩
        · rw [if_neg w, if_neg w]
          obtain ⟨f2, l2, c2, t1, t2, t3, t4, t5⟩ := ih n (r + 1) most f1 l1 c1 (by omega) (by omega) r3 ha1 ((r2.1 32 (by omega)).trans ht)
          rw [r2.1 33 (by omega)] at t1 t2
          exact ⟨f2, l2, c2, t1, t2, fun k hk => by rw [t3 k hk]; exact r2.1 k (by omega), fun q q6 q7 q9 q10 => (t4 q q6 q7 q9 q10).trans (r2.2 q q6 q7 q9 q10), t5⟩
      · rw [if_neg q, if_neg q]
        exact ih n (r + 1) most fi fl ar (by omega) (by omega) hs ha ht
theorem fm9_loop {v : Nat → Nat} (hv : Vok v) {l : Nat} (hl : l ≤ 999999) {top : Int32} (hL : nI l < top) : ∀ (m n r : Nat) (b val f most : Int32) (gi : Nat → Int32) (gl : Nat → Int64) (br : Nat → Nat → Int32), r + m = 4096 → m < n → StM v br → gi 0 = nI l → ((b = f ∧ ¬ b < 0 ∧ val = most) ∨ (b = -1 ∧ f = -2 ∧ most = -2 ∧ ∃ j, r ≤ j ∧ j < 4096 ∧ aidI v j = top)) →
    ∃ gi' gl' br', f_X9_best_69 n 2 top b val (nI r) gi gl br = some (fmG v top m r f most, gi', gl', br') ∧ KpM gi br gi' br' := by
  intro m
  induction m with
  | zero =>
    intro n r b val f most gi gl br hr hn hb g0 hi
    obtain ⟨n, rfl⟩ : ∃ z, n = z + 1 := ⟨n - 1, by omega⟩
    obtain rfl : r = 4096 := by omega
    rw [f_X9_best_69, if_pos (by decide)]
    rcases hi with ⟨h1, -, -⟩ | ⟨-, -, -, j, h1, h2, -⟩
    · rw [h1]; exact ⟨_, _, _, rfl, fun _ _ => rfl, fun _ _ => rfl⟩
    · omega
  | succ m ih =>
    intro n r b val f most gi gl br hr hn hb g0 hi
    obtain ⟨n, rfl⟩ : ∃ z, n = z + 1 := ⟨n - 1, by omega⟩
    obtain ⟨g1, l1, c1, s1, s2, s3⟩ := isHolding_ok hv hb (show r < 4096 by omega) hl g0 gl
    have hl4 : ¬ ((4096 : Int32) ≤ nI r) := nI_ge (a := r) (b := 4096) (by omega) (by decide)
    rw [f_X9_best_69, if_neg hl4, s1, bind4_some, if_neg (show ¬ (2 : Int32) = 1 by decide)]
    unfold hdI f_X9_best_105 f_X9_best_126 f_X9_best_140 f_X9_best_148
    simp only [bindv_def]
    rw [if_neg (show ¬ (2 : Int32) = 1 by decide), nI_1, fmG]
    have skip : ¬ aidI v r = top → ∃ gi' gl' br', f_X9_best_69 n 2 top b val (nI (r + 1)) g1 l1 c1 = some (fmG v top m (r + 1) f most, gi', gl', br') ∧ KpM gi br gi' br' := by
      intro hne
      obtain ⟨g2, l2, c2, t1, t2⟩ := ih n (r + 1) b val f most g1 l1 c1 (by omega) (by omega) (hb.kp s2) ((s2.1 0 (by omega)).trans g0) (by
        rcases hi with h | ⟨h1, h2, h3, j, h4, h5, h6⟩
        · exact Or.inl h
        · refine Or.inr ⟨h1, h2, h3, j, ?_, h5, h6⟩
          rcases Nat.lt_or_ge r j with z | z
          · omega
          · obtain rfl : j = r := by omega
            exact absurd h6 hne)
      exact ⟨g2, l2, c2, t1, s2.tr t2⟩
    by_cases d : aidI v r ≤ nI l
    · have hne := i32_lt_ne d hL
      rw [if_pos d, if_pos rfl, if_neg hne]
      exact skip hne
    · rw [if_neg d, if_neg n10, s3 d, bind1_some]
      by_cases q : aidI v r = top
      · rw [if_pos q, if_pos q]
        obtain ⟨g2, l2, c2, u1, u2⟩ := bearsOf_ok hv (hb.kp s2) (show r < 4096 by omega) g1 l1
        have k := s2.tr u2
        rw [u1, bind4_some]
        have go : ∀ (b2 val2 f2 most2 : Int32), (b2 = f2 ∧ ¬ b2 < 0 ∧ val2 = most2) → ∃ gi' gl' br', f_X9_best_69 n 2 top b2 val2 (nI (r + 1)) g2 l2 c2 = some (fmG v top m (r + 1) f2 most2, gi', gl', br') ∧ KpM gi br gi' br' := by
          intro b2 val2 f2 most2 h2
          obtain ⟨g3, l3, c3, t1, t2⟩ := ih n (r + 1) b2 val2 f2 most2 g2 l2 c2 (by omega) (by omega) (hb.kp k) ((k.1 0 (by omega)).trans g0) (Or.inl h2)
          exact ⟨g3, l3, c3, t1, k.tr t2⟩
        have take := go (nI r) (brI v r) (nI r) (brI v r) ⟨rfl, nI_pos (by omega), rfl⟩
        rcases hi with ⟨h1, h2, h3⟩ | ⟨h1, h2, h3, -⟩
        · rw [if_neg h2, ← h3]
          by_cases w : brI v r ≤ val
          · rw [if_pos w, if_neg (Int32.not_lt.mpr w)]
            exact go b val f val ⟨h1, h2, rfl⟩
          · rw [if_neg w, if_pos (Int32.not_le.mp w)]
            exact take
        · rw [h1, h3, if_pos (show (-1 : Int32) < 0 by decide), if_pos (brI_b v r).1]
          exact take
      · rw [if_neg q, if_neg q]
        exact skip q
theorem helpedAtRest_ok {v : Nat → Nat} (hv : Vok v) {br : Nat → Nat → Int32} (hb : StM v br) {r : Nat} (hr : r < 4096) (h : ¬ aidI v r = -1) (gi : Nat → Int32) : ∃ gi' br', f_X9_helpedAtRest gi br (nI r) = some (aidI v r, gi', br') ∧ KpM gi br gi' br' := by
  obtain ⟨g2, c2, t1, t9, t10, t8, t4, t5⟩ := goFrom_ok hv hb hr (x := 500) (by decide) gi
  have t1' : f_X9_goFrom gi br (nI r) 500 = some (g2, c2) := t1
  have c : vdS v r = 1 := by
    by_cases c : vdS v r = 1
    · exact c
    · exact absurd (if_neg c) h
  have ea : aidI v r = nI (hpS v r (endS (stS v r) 500)) := if_pos c
  have e8 : g2 8 = nI (endS (stS v r) 500) := t8.trans (if_pos (vd_ring c))
  have hk : KpM gi br g2 c2 := ⟨t4, t5⟩
  unfold f_X9_helpedAtRest
  rw [t1', bind2_some, e8, helpedBy_ok hv.2.2.1 (hb.kp hk) hr (end_le hv r (by decide)), bind1_some, ea]
  exact ⟨_, _, rfl, hk⟩
theorem st_best {fi : Nat → Int32} {fl : Nat → Int64} {ar : Nat → Nat → Int32} {gi : Nat → Int32} {gl : Nat → Int64} {br : Nat → Nat → Int32} (h : Rel fi fl ar gi gl br) (a0 : Int32) : ∃ (r : Int32) (fi' : Nat → Int32) (fl' : Nat → Int64) (ar' : Nat → Nat → Int32) (gi' : Nat → Int32) (gl' : Nat → Int64) (br' : Nat → Nat → Int32), f_X8_best fi fl ar a0 = some (r, fi', fl', ar') ∧ f_X9_best gi gl br a0 = some (r, gi', gl', br') ∧ Rel fi' fl' ar' gi' gl' br' := by
  have e9 : f_X9_in (Int32.toInt64 a0) 0 2 = f_X8_within a0 0 2 := within_in a0 0 2 0 2 (by decide) (by decide)
  unfold f_X8_best f_X9_best
  rw [bindv_def, bindv_def, e9]
  rcases within_c a0 2 (by decide) with q | ⟨q, t, ht, rfl⟩
  · have q' : f_X8_within a0 0 2 = 0 := q
    rw [q', if_pos rfl, if_pos rfl]; exact ⟨_, _, _, _, _, _, _, rfl, rfl, h⟩
  have q' : f_X8_within (nI t) 0 2 = 1 := q
  rw [q', if_neg n10, if_neg n10]
  obtain ⟨v, hR⟩ := h
  have hR' := hR
  obtain ⟨⟨hv, hf, hb⟩, ⟨l, hl, hl1, hl2⟩, -, -, -, hc, hsv⟩ := hR'
  obtain ⟨f1, l1, c1, r1, r2, r3, r4⟩ := make_ok hv fl ⟨hf, hc⟩ hsv
  obtain ⟨F, hF⟩ : ∃ n : Nat, n = 5000 := ⟨_, rfl⟩
  have e0 : f1 0 = nI l := (r2.1 0 (by decide)).trans hl1
  rw [r1, bind3_some, e0]
  rcases (show t = 0 ∨ t = 1 ∨ t = 2 by omega) with rfl | rfl | rfl
  · -- the most helped
    obtain ⟨b, mo, g2, l2, c2, s1, s2, s3⟩ := mostHelped9 hv hl gl hb hl2
    rw [if_pos (by decide), if_neg (by decide), s1, bind4_some, mostHelped8 r4 s2, bind1_some]
    unfold f_X9_best_29
    rw [if_pos (by decide)]
    exact ⟨_, _, _, _, _, _, _, rfl, rfl, relS hR r2 r3.2 s3 (Or.inr r4)⟩
  · -- the plainest
    rw [if_neg (by decide), if_pos (by decide), if_pos (by decide)]
    unfold f_X9_best_29 f_X9_best_45 f_X9_best_59 f_X4_plainest
    rw [if_neg (by decide), if_neg (by decide), if_pos (by decide), ← hF]
    obtain ⟨z, g2, l2, c2, t1, t2, t3⟩ := pl_loop hv hl r4.2.1 4096 F F 0 (-1) 6 0 gi gl br (by decide) (by omega) (by omega) hb hl2 (Or.inl ⟨rfl, rfl⟩)
    have t1' : f_X4_plainest_8 c1 F (nI l) (-1) 6 0 = some z := t1
    have t2' : f_X9_best_69 F (nI 1) 0 (-1) 0 0 gi gl br = some (z, g2, l2, c2) := t2
    rw [t1', bind1_some, t2']
    exact ⟨_, _, _, _, _, _, _, rfl, rfl, relS hR r2 r3.2 t3 (Or.inr r4)⟩
  · -- the firmest
    obtain ⟨b, mo, g2, l2, c2, s1, s2, s3⟩ := mostHelped9 hv hl gl hb hl2
    rw [if_neg (by decide), if_neg (by decide), if_neg (by decide), s1, bind4_some]
    unfold f_X9_best_29 f_X9_best_45 f_X9_best_59 f_X4_firmest
    rw [if_neg (show ¬ nI 2 = 0 by decide), if_pos (show nI 2 = 2 by decide), if_neg (show ¬ nI 2 = 1 by decide), ← hF, r4.2.2.1]
    rcases s2 with ⟨h1, h2, h3⟩ | ⟨h1, h2, j, hj, h3, h4, h5⟩
    · rw [if_neg (Int32.not_lt.mpr h1), bind4_some, h2, if_neg (by decide)]
      exact ⟨_, _, _, _, _, _, _, rfl, rfl, relS hR r2 r3.2 s3 (Or.inr r4)⟩
    · have hm1 := nI_m1lt l (by omega)
      have hne : ¬ aidI v j = -1 := fun e => by
        rw [← h4, e] at h1
        exact absurd rfl (i32_lt_ne (i32_le_of_lt hm1) h1)
      obtain ⟨g3, c3, u1, u2⟩ := helpedAtRest_ok hv (StM.kp hb s3) hj hne g2
      have k3 := s3.tr u2
      obtain ⟨g4, l4, c4, w1, w2⟩ := fm9_loop hv hl h1 4096 F 0 (-1) 0 (-2) (-2) g3 l2 c3 (by decide) (by omega) (StM.kp hb k3) ((k3.1 0 (by omega)).trans hl2) (Or.inr ⟨rfl, rfl, rfl, j, Nat.zero_le _, hj, h4⟩)
      have k4 := k3.tr w2
      have w1' : f_X9_best_69 F (nI 2) (topI v 4096) (-1) 0 0 g3 l2 c3 = some (fmI v, g4, l4, c4) := w1
      rw [if_pos h1, h3, if_pos (nI_pos' (by omega)), u1, bind3_some, h4, w1']
      by_cases cf : f1 33 = -2
      · obtain ⟨f5, l5, c5, x1, x2, x3, x4, x5⟩ := fm8_loop hv (top := topI v 4096) 4096 F 0 (-2) f1 l1 c1 (by decide) (by omega) r3 r4.2.1 r4.2.2.1
        rw [cf] at x1 x2
        have x1' : f_X4_firmest_29 F (-2) 0 f1 l1 c1 = some (fmI v, f5, l5, c5) := x1
        rw [if_pos cf, x1', bind4_some]
        have kk : KpS f1 c1 f5 c5 := ⟨fun k hk => x3 k (by omega), fun q q6 q7 q9 q10 _ => x4 q q6 q7 q9 q10⟩
        refine ⟨_, _, _, _, _, _, _, rfl, rfl, relS hR (r2.tr kk) x5.2 k4 (Or.inr ⟨?_, fun r hr => ?_, ?_, Or.inr x2⟩)⟩
        · rw [x3 31 (by omega)]; exact r4.1
        · rw [x4 14 (by decide) (by decide) (by decide) (by decide)]; exact r4.2.1 r hr
        · rw [x3 32 (by omega)]; exact r4.2.2.1
      · have ef : f1 33 = fmI v := r4.2.2.2.resolve_left cf
        rw [if_neg cf, bind4_some, ef]
        exact ⟨_, _, _, _, _, _, _, rfl, rfl, relS hR r2 r3.2 k4 (Or.inr r4)⟩
