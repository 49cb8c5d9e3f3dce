/-! the text: clause words, numbers, sets -/
def wd0 : List Nat := [99, 111, 115, 116]
theorem wk0 : WOk 0 wd0 := by unfold WOk; decide +kernel
def wd1 : List Nat := [119, 111, 114, 116, 104]
theorem wk1 : WOk 1 wd1 := by unfold WOk; decide +kernel
def wd2 : List Nat := [104, 97, 110, 100]
theorem wk2 : WOk 2 wd2 := by unfold WOk; decide +kernel
def wd3 : List Nat := [101, 121, 101]
theorem wk3 : WOk 3 wd3 := by unfold WOk; decide +kernel
def wd4 : List Nat := [102, 97, 100, 101]
theorem wk4 : WOk 4 wd4 := by unfold WOk; decide +kernel
def wd5 : List Nat := [119, 97, 121]
theorem wk5 : WOk 5 wd5 := by unfold WOk; decide +kernel
def wd6 : List Nat := [110, 97, 109, 105, 110, 103]
theorem wk6 : WOk 6 wd6 := by unfold WOk; decide +kernel
def wd7 : List Nat := [110, 101, 119]
theorem wk7 : WOk 7 wd7 := by unfold WOk; decide +kernel
def wd8 : List Nat := [110, 111, 116]
theorem wk8 : WOk 8 wd8 := by unfold WOk; decide +kernel
def wd9 : List Nat := [104, 101, 108, 112]
theorem wk9 : WOk 9 wd9 := by unfold WOk; decide +kernel
def wd10 : List Nat := [98, 97, 100]
theorem wk10 : WOk 10 wd10 := by unfold WOk; decide +kernel
def wd11 : List Nat := [103, 111, 111, 100]
theorem wk11 : WOk 11 wd11 := by unfold WOk; decide +kernel
theorem tw8q {t : Nat → Nat} {n q : Nat} {ar : Nat → Nat → Int32} (hT : Tx t n ar) {s : Nat} {w : List Nat} (hw : WOk s w) {fi : Nat → Int32} (hq : q ≤ n) (hs : SK t n q = q) (h9 : fi 9 = nI n) (h12 : fi 12 = nI q) : f_X3_takeWord fi ar s = some (if wm t w q (LE t n q) = true then (1, upd fi 12 (nI (LE t n q))) else (0, fi)) := by
  have h := tw8 hT hw hq h9 h12
  rw [hs, upd_self h12] at h
  exact h
def kc (t : Nat → Nat) (q e : Nat) : Nat := if wm t wd0 q e = true then 0 else if wm t wd1 q e = true then 1 else if wm t wd2 q e = true then 2 else if wm t wd3 q e = true then 3 else if wm t wd4 q e = true then 4 else if wm t wd5 q e = true then 5 else if wm t wd6 q e = true then 6 else 7
theorem kc_le (t : Nat → Nat) (q e : Nat) : kc t q e ≤ 7 := by
  unfold kc
  repeat' split
  all_goals omega
theorem cw8 {t : Nat → Nat} {n q : Nat} {ar : Nat → Nat → Int32} (hT : Tx t n ar) {fi : Nat → Int32} (hq : q ≤ n) (hs : SK t n q = q) (h9 : fi 9 = nI n) (h12 : fi 12 = nI q) : f_X3_takeClauseWord fi ar = some (if kc t q (LE t n q) = 7 then (-1, fi) else (nI (kc t q (LE t n q)), upd fi 12 (nI (LE t n q)))) := by
  unfold f_X3_takeClauseWord kc
  rw [tw8q hT wk0 hq hs h9 h12]
  by_cases c0 : wm t wd0 q (LE t n q) = true
  · rw [if_pos c0, bind2_some, if_neg n10]
    simp only [c0, if_true, if_false, Bool.false_eq_true]
    rfl
  rw [if_neg c0, bind2_some, if_pos rfl]
  rw [tw8q hT wk1 hq hs h9 h12]
  by_cases c1 : wm t wd1 q (LE t n q) = true
  · rw [if_pos c1, bind2_some, if_neg n10]
    simp only [c1, if_true, if_false, Bool.false_eq_true, c0]
    rfl
  rw [if_neg c1, bind2_some, if_pos rfl]
  rw [tw8q hT wk2 hq hs h9 h12]
  by_cases c2 : wm t wd2 q (LE t n q) = true
  · rw [if_pos c2, bind2_some, if_neg n10]
    simp only [c2, if_true, if_false, Bool.false_eq_true, c0, c1]
    rfl
  rw [if_neg c2, bind2_some, if_pos rfl]
  rw [tw8q hT wk3 hq hs h9 h12]
  by_cases c3 : wm t wd3 q (LE t n q) = true
  · rw [if_pos c3, bind2_some, if_neg n10]
    simp only [c3, if_true, if_false, Bool.false_eq_true, c0, c1, c2]
    rfl
  rw [if_neg c3, bind2_some, if_pos rfl]
  rw [tw8q hT wk4 hq hs h9 h12]
  by_cases c4 : wm t wd4 q (LE t n q) = true
  · rw [if_pos c4, bind2_some, if_neg n10]
    simp only [c4, if_true, if_false, Bool.false_eq_true, c0, c1, c2, c3]
    rfl
  rw [if_neg c4, bind2_some, if_pos rfl]
  rw [tw8q hT wk5 hq hs h9 h12]
  by_cases c5 : wm t wd5 q (LE t n q) = true
  · rw [if_pos c5, bind2_some, if_neg n10]
    simp only [c5, if_true, if_false, Bool.false_eq_true, c0, c1, c2, c3, c4]
    rfl
  rw [if_neg c5, bind2_some, if_pos rfl]
  rw [tw8q hT wk6 hq hs h9 h12]
  by_cases c6 : wm t wd6 q (LE t n q) = true
  · rw [if_pos c6, bind2_some, if_neg n10]
    simp only [c6, if_true, if_false, Bool.false_eq_true, c0, c1, c2, c3, c4, c5]
    rfl
  rw [if_neg c6, bind2_some, if_pos rfl]
  simp only [if_true, if_false, Bool.false_eq_true, c0, c1, c2, c3, c4, c5, c6]
def kp (c : Nat) : Nat := if c < 5 then c else c + 1
theorem kd9 {t : Nat → Nat} {n q : Nat} {br : Nat → Nat → Int32} (hT : Tx t n br) {gi : Nat → Int32} (hq : q ≤ n) (h3 : gi 3 = nI q) (h4 : gi 4 = nI (LE t n q - q)) : f_X9_kindOf gi br = some (if kc t q (LE t n q) = 7 then -1 else nI (kp (kc t q (LE t n q)))) := by
  have b := LE_le (t := t) hq
  have w0 : f_X9_isWord gi br 4 99 111 115 116 0 0 = some (if wm t wd0 q (LE t n q) = true then 1 else 0) := iw9 hT wk0.1 (fun k hk => (wk0.2.2 k hk).1) b.1 b.2 h3 h4
  have w1 : f_X9_isWord gi br 5 119 111 114 116 104 0 = some (if wm t wd1 q (LE t n q) = true then 1 else 0) := iw9 hT wk1.1 (fun k hk => (wk1.2.2 k hk).1) b.1 b.2 h3 h4
  have w2 : f_X9_isWord gi br 4 104 97 110 100 0 0 = some (if wm t wd2 q (LE t n q) = true then 1 else 0) := iw9 hT wk2.1 (fun k hk => (wk2.2.2 k hk).1) b.1 b.2 h3 h4
  have w3 : f_X9_isWord gi br 3 101 121 101 0 0 0 = some (if wm t wd3 q (LE t n q) = true then 1 else 0) := iw9 hT wk3.1 (fun k hk => (wk3.2.2 k hk).1) b.1 b.2 h3 h4
  have w4 : f_X9_isWord gi br 4 102 97 100 101 0 0 = some (if wm t wd4 q (LE t n q) = true then 1 else 0) := iw9 hT wk4.1 (fun k hk => (wk4.2.2 k hk).1) b.1 b.2 h3 h4
  have w5 : f_X9_isWord gi br 3 119 97 121 0 0 0 = some (if wm t wd5 q (LE t n q) = true then 1 else 0) := iw9 hT wk5.1 (fun k hk => (wk5.2.2 k hk).1) b.1 b.2 h3 h4
  have w6 : f_X9_isWord gi br 6 110 97 109 105 110 103 = some (if wm t wd6 q (LE t n q) = true then 1 else 0) := iw9 hT wk6.1 (fun k hk => (wk6.2.2 k hk).1) b.1 b.2 h3 h4
  unfold f_X9_kindOf kc kp
  rw [w0, bind1_some]
  by_cases c0 : wm t wd0 q (LE t n q) = true
  · rw [if_pos c0, if_neg n10]
    simp only [c0, if_true, if_false, Bool.false_eq_true]
    rfl
  rw [if_neg c0, if_pos rfl]
  rw [w1, bind1_some]
  by_cases c1 : wm t wd1 q (LE t n q) = true
  · rw [if_pos c1, if_neg n10]
    simp only [c1, if_true, if_false, Bool.false_eq_true, c0]
    rfl
  rw [if_neg c1, if_pos rfl]
  rw [w2, bind1_some]
  by_cases c2 : wm t wd2 q (LE t n q) = true
  · rw [if_pos c2, if_neg n10]
    simp only [c2, if_true, if_false, Bool.false_eq_true, c0, c1]
    rfl
  rw [if_neg c2, if_pos rfl]
  rw [w3, bind1_some]
  by_cases c3 : wm t wd3 q (LE t n q) = true
  · rw [if_pos c3, if_neg n10]
    simp only [c3, if_true, if_false, Bool.false_eq_true, c0, c1, c2]
    rfl
  rw [if_neg c3, if_pos rfl]
  rw [w4, bind1_some]
  by_cases c4 : wm t wd4 q (LE t n q) = true
  · rw [if_pos c4, if_neg n10]
    simp only [c4, if_true, if_false, Bool.false_eq_true, c0, c1, c2, c3]
    rfl
  rw [if_neg c4, if_pos rfl]
  rw [w5, bind1_some]
  by_cases c5 : wm t wd5 q (LE t n q) = true
  · rw [if_pos c5, if_neg n10]
    simp only [c5, if_true, if_false, Bool.false_eq_true, c0, c1, c2, c3, c4]
    rfl
  rw [if_neg c5, if_pos rfl]
  rw [w6, bind1_some]
  by_cases c6 : wm t wd6 q (LE t n q) = true
  · rw [if_pos c6, if_neg n10]
    simp only [c6, if_true, if_false, Bool.false_eq_true, c0, c1, c2, c3, c4, c5]
    rfl
  rw [if_neg c6, if_pos rfl]
  simp only [if_true, if_false, Bool.false_eq_true, c0, c1, c2, c3, c4, c5, c6]
