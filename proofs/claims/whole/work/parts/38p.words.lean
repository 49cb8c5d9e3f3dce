/-! the text: blanks, words -/
def wh (P : Nat → Bool) (t : Nat → Nat) : Nat → Nat → Nat
  | 0, p => p
  | m + 1, p => if P (t p) = true then wh P t m (p + 1) else p
def bl (b : Nat) : Bool := decide (b = 32)
def lt (b : Nat) : Bool := decide (97 ≤ b ∧ b ≤ 122)
def dg (b : Nat) : Bool := decide (48 ≤ b ∧ b ≤ 57)
theorem wh_le (P : Nat → Bool) (t : Nat → Nat) : ∀ m p, p ≤ wh P t m p ∧ wh P t m p ≤ p + m := by
  intro m
  induction m with
  | zero => intro p; exact ⟨Nat.le_refl _, Nat.le_refl _⟩
  | succ m ih =>
    intro p
    rw [wh]
    have := ih (p + 1)
    split <;> omega
theorem wh_stop (P : Nat → Bool) (t : Nat → Nat) : ∀ m p, wh P t m p = p + m ∨ ¬ P (t (wh P t m p)) = true := by
  intro m
  induction m with
  | zero => intro p; exact Or.inl rfl
  | succ m ih =>
    intro p
    rw [wh]
    by_cases c : P (t p) = true
    · rw [if_pos c]
      rcases ih (p + 1) with h | h
      · left; omega
      · exact Or.inr h
    · rw [if_neg c]; exact Or.inr c
theorem wh_fix (P : Nat → Bool) (t : Nat → Nat) {p m : Nat} (h : m = 0 ∨ ¬ P (t p) = true) : wh P t m p = p := by
  cases m with
  | zero => rfl
  | succ m =>
    rcases h with h | h
    · omega
    · rw [wh, if_neg h]
def SK (t : Nat → Nat) (n p : Nat) : Nat := wh bl t (n - p) p
def LE (t : Nat → Nat) (n p : Nat) : Nat := wh lt t (n - p) p
def DG (t : Nat → Nat) (n p : Nat) : Nat := wh dg t (n - p) p
theorem SK_le {t : Nat → Nat} {n p : Nat} (h : p ≤ n) : p ≤ SK t n p ∧ SK t n p ≤ n := by
  have := wh_le bl t (n - p) p
  unfold SK
  omega
theorem LE_le {t : Nat → Nat} {n p : Nat} (h : p ≤ n) : p ≤ LE t n p ∧ LE t n p ≤ n := by
  have := wh_le lt t (n - p) p
  unfold LE
  omega
theorem DG_le {t : Nat → Nat} {n p : Nat} (h : p ≤ n) : p ≤ DG t n p ∧ DG t n p ≤ n := by
  have := wh_le dg t (n - p) p
  unfold DG
  omega
theorem SK_idem {t : Nat → Nat} {n p : Nat} (h : p ≤ n) : SK t n (SK t n p) = SK t n p := by
  have h1 := wh_stop bl t (n - p) p
  have h2 := SK_le (t := t) h
  refine wh_fix bl t ?_
  rcases h1 with h1 | h1
  · left
    have : SK t n p = p + (n - p) := h1
    omega
  · exact Or.inr h1
def Tx (t : Nat → Nat) (n : Nat) (ar : Nat → Nat → Int32) : Prop := n ≤ 120 ∧ ∀ j, j < n → t j < 256 ∧ ar 3 j = nI (t j)
theorem Tx.rd {t : Nat → Nat} {n : Nat} {ar : Nat → Nat → Int32} (h : Tx t n ar) {j : Nat} (hj : j < n) {α : Type} (o : Option α) : gd (nI j) 120 o = o := gd_nI (by have := h.1; omega) (by decide)
theorem Tx.at {t : Nat → Nat} {n : Nat} {ar : Nat → Nat → Int32} (h : Tx t n ar) {j : Nat} (hj : j < n) : ar 3 (Int32.toNatClampNeg (nI j)) = nI (t j) := by
  rw [clampN (by have := h.1; omega)]; exact (h.2 j hj).2
theorem upd_self {fi : Nat → Int32} {k : Nat} {x : Int32} (h : fi k = x) : upd fi k x = fi := by
  funext j
  by_cases c : j = k
  · rw [c, upd_eq, h]
  · rw [upd_ne _ _ c]
theorem upd_upd {fi : Nat → Int32} {k : Nat} {x y : Int32} : upd (upd fi k x) k y = upd fi k y := by
  funext j
  by_cases c : j = k
  · rw [c, upd_eq, upd_eq]
  · rw [upd_ne _ _ c, upd_ne _ _ c, upd_ne _ _ c]
theorem bl_c {b : Nat} (hb : b < 256) : (nI b = 32) ↔ bl b = true := by
  unfold bl
  rw [decide_eq_true_eq]
  exact nI_eq (b := 32) (by omega) (by decide)
theorem lt_dec : ∀ b, b < 256 → ((f_X8_within (nI b) 97 122 = 0) ↔ ¬ lt b = true) := by decide +kernel
theorem dg_dec : ∀ b, b < 256 → ((f_X8_within (nI b) 48 57 = 0) ↔ ¬ dg b = true) := by decide +kernel
theorem lt9 (v : Int32) : f_X9_in (Int32.toInt64 v) 97 122 = f_X8_within v 97 122 := within_in v 97 122 97 122 (by decide) (by decide)
theorem dg9 (v : Int32) : f_X9_in (Int32.toInt64 v) 48 57 = f_X8_within v 48 57 := within_in v 48 57 48 57 (by decide) (by decide)
/-- class: blanks -/
theorem sk8_loop {t : Nat → Nat} {n : Nat} {ar : Nat → Nat → Int32} (hT : Tx t n ar) : ∀ (m N p : Nat) (fi : Nat → Int32), p + m = n → m < N → fi 9 = nI n → fi 12 = nI p → f_X3_skipBlanks_0 ar N fi = some (upd fi 12 (nI (wh bl t m p))) := by
  intro m
  induction m with
  | zero =>
    intro N p fi hp hN h9 h12
    obtain ⟨N, rfl⟩ : ∃ z, N = z + 1 := ⟨N - 1, by omega⟩
    have := hT.1
    rw [f_X3_skipBlanks_0, h9, h12, if_pos (nI_le (by omega) (by omega)), wh, upd_self h12]
  | succ m ih =>
    intro N p fi hp hN h9 h12
    obtain ⟨N, rfl⟩ : ∃ z, N = z + 1 := ⟨N - 1, by omega⟩
    have := hT.1
    have hb := (hT.2 p (by omega)).1
    rw [f_X3_skipBlanks_0, h9, h12, if_neg (nI_ge (by omega) (by omega)), hT.rd (by omega), hT.at (by omega), wh, bindv_def, nI_1]
    by_cases c : bl (t p) = true
    · rw [if_pos ((bl_c hb).mpr c), if_pos c, ih N (p + 1) _ (by omega) (by omega) (by rw [upd_ne _ _ (by decide)]; exact h9) (upd_eq _ _ _), upd_upd]
    · rw [if_neg (fun z => c ((bl_c hb).mp z)), if_neg c, upd_self h12]
theorem sk8 {t : Nat → Nat} {n p : Nat} {ar : Nat → Nat → Int32} (hT : Tx t n ar) {fi : Nat → Int32} (hp : p ≤ n) (h9 : fi 9 = nI n) (h12 : fi 12 = nI p) : f_X3_skipBlanks fi ar = some (upd fi 12 (nI (SK t n p))) := by
  obtain ⟨F, hF⟩ : ∃ n : Nat, n = 5000 := ⟨_, rfl⟩
  have := hT.1
  unfold f_X3_skipBlanks
  rw [← hF]
  exact sk8_loop hT (n - p) F p fi (by omega) (by omega) h9 h12
/-- model: here -/
def hrI (t : Nat → Nat) (n q : Nat) : Int32 := if q < n then nI (t q) else -1
theorem hr9_end {t : Nat → Nat} {n q : Nat} {br : Nat → Nat → Int32} (hT : Tx t n br) (hq : q ≤ n) {gi : Nat → Int32} (h1 : gi 1 = nI n) (h2 : gi 2 = nI q) : f_X9_here_38 br gi = some (hrI t n q, gi) := by
  have := hT.1
  unfold f_X9_here_38 hrI
  rw [h1, h2]
  by_cases c : q < n
  · rw [if_neg (nI_ge (by omega) (by omega)), if_pos c, hT.rd c, hT.at c]
  · rw [if_pos (nI_le (by omega) (by omega)), if_neg c]
theorem hr9_loop {t : Nat → Nat} {n : Nat} {br : Nat → Nat → Int32} (hT : Tx t n br) : ∀ (m N p : Nat) (gi : Nat → Int32), p + m = n → m < N → gi 1 = nI n → gi 2 = nI p → f_X9_here_0 br N gi = some (hrI t n (wh bl t m p), upd gi 2 (nI (wh bl t m p))) := by
  intro m
  induction m with
  | zero =>
    intro N p gi hp hN h9 h12
    obtain ⟨N, rfl⟩ : ∃ z, N = z + 1 := ⟨N - 1, by omega⟩
    have := hT.1
    rw [f_X9_here_0, hr9_end hT (by omega) h9 h12, h9, h12, if_pos (nI_le (by omega) (by omega)), wh, upd_self h12]
  | succ m ih =>
    intro N p gi hp hN h9 h12
    obtain ⟨N, rfl⟩ : ∃ z, N = z + 1 := ⟨N - 1, by omega⟩
    have := hT.1
    have hb := (hT.2 p (by omega)).1
    rw [f_X9_here_0, hr9_end hT (by omega) h9 h12, h9, h12, if_neg (nI_ge (by omega) (by omega)), hT.rd (by omega), hT.at (by omega), wh, bindv_def, nI_1]
    by_cases c : bl (t p) = true
    · rw [if_pos ((bl_c hb).mpr c), if_pos c, ih N (p + 1) _ (by omega) (by omega) (by rw [upd_ne _ _ (by decide)]; exact h9) (upd_eq _ _ _), upd_upd]
    · rw [if_neg (fun z => c ((bl_c hb).mp z)), if_neg c, upd_self h12]
theorem hr9 {t : Nat → Nat} {n p : Nat} {br : Nat → Nat → Int32} (hT : Tx t n br) {gi : Nat → Int32} (hp : p ≤ n) (h1 : gi 1 = nI n) (h2 : gi 2 = nI p) : f_X9_here gi br = some (hrI t n (SK t n p), upd gi 2 (nI (SK t n p))) := by
  obtain ⟨F, hF⟩ : ∃ n : Nat, n = 5000 := ⟨_, rfl⟩
  have := hT.1
  unfold f_X9_here
  rw [← hF]
  exact hr9_loop hT (n - p) F p gi (by omega) (by omega) h1 h2
/-- words -/
def mA (t : Nat → Nat) (w : List Nat) (q : Nat) : Nat → Nat → Bool
  | 0, _ => true
  | m + 1, k => if t (q + k) = w.getD k 0 then mA t w q m (k + 1) else false
def wm (t : Nat → Nat) (w : List Nat) (q e : Nat) : Bool := if e - q = w.length then mA t w q w.length 0 else false
def WOk (s : Nat) (w : List Nat) : Prop := w.length < 7 ∧ f_J0_length_8abf5 s = nI w.length ∧ ∀ k, k < w.length → w.getD k 0 < 256 ∧ f_J0_charAt_5068e s (nI k) = some (nI (w.getD k 0))
theorem tw8_match {t : Nat → Nat} {n : Nat} {ar : Nat → Nat → Int32} (hT : Tx t n ar) {s : Nat} {w : List Nat} (hw : WOk s w) {q e : Nat} (hq : q + w.length ≤ n) {fi : Nat → Int32} (h12 : fi 12 = nI q) : ∀ (m N k : Nat), k + m = w.length → m < N → f_X3_takeWord_56 ar s N (nI e) (nI k) fi = some (if mA t w q m k = true then (1, upd fi 12 (nI e)) else (0, fi)) := by
  intro m
  induction m with
  | zero =>
    intro N k hk hN
    obtain ⟨N, rfl⟩ : ∃ z, N = z + 1 := ⟨N - 1, by omega⟩
    have := hw.1
    rw [f_X3_takeWord_56, bindv_def, hw.2.1, if_pos (nI_le (by omega) (by omega)), bindv_def, mA, if_pos rfl]
  | succ m ih =>
    intro N k hk hN
    obtain ⟨N, rfl⟩ : ∃ z, N = z + 1 := ⟨N - 1, by omega⟩
    have := hw.1
    have hb := (hT.2 (q + k) (by omega)).1
    have hc := hw.2.2 k (by omega)
    rw [f_X3_takeWord_56, bindv_def, hw.2.1, if_neg (nI_ge (by omega) (by omega)), h12, nI_add, hT.rd (by omega), hT.at (by omega), hc.2, bind1_some, bindv_def, nI_1, mA]
    by_cases c : t (q + k) = w.getD k 0
    · rw [if_pos (by rw [c]), if_pos c, ih N (k + 1) (by omega) (by omega)]
    · rw [if_neg (fun z => c (nI_inj (by omega) (by omega) z)), if_neg c, if_neg (by decide)]
theorem tw8_39 {t : Nat → Nat} {n : Nat} {ar : Nat → Nat → Int32} (hT : Tx t n ar) {s : Nat} {w : List Nat} (hw : WOk s w) {q e : Nat} (hqe : q ≤ e) (he : e ≤ n) {fi : Nat → Int32} (h12 : fi 12 = nI q) : f_X3_takeWord_39 ar s (nI e) fi = some (if wm t w q e = true then (1, upd fi 12 (nI e)) else (0, fi)) := by
  obtain ⟨F, hF⟩ : ∃ n : Nat, n = 5000 := ⟨_, rfl⟩
  have := hT.1
  have := hw.1
  unfold f_X3_takeWord_39 wm
  rw [bindv_def, hw.2.1, h12, pk_sub hqe, ← hF]
  by_cases c : e - q = w.length
  · rw [if_pos (by rw [c]), if_pos c]
    exact tw8_match hT hw (by omega) h12 w.length F 0 (by omega) (by omega)
  · rw [if_neg (fun z => c (nI_inj (by omega) (by omega) z)), if_neg c, if_neg (by decide)]
theorem tw8_loop {t : Nat → Nat} {n : Nat} {ar : Nat → Nat → Int32} (hT : Tx t n ar) {s : Nat} {fi : Nat → Int32} (h9 : fi 9 = nI n) : ∀ (m N p : Nat), p + m = n → m < N → f_X3_takeWord_9 ar s N (nI p) fi = f_X3_takeWord_39 ar s (nI (wh lt t m p)) fi := by
  intro m
  induction m with
  | zero =>
    intro N p hp hN
    obtain ⟨N, rfl⟩ : ∃ z, N = z + 1 := ⟨N - 1, by omega⟩
    have := hT.1
    rw [f_X3_takeWord_9, h9, if_pos (nI_le (by omega) (by omega)), wh]
  | succ m ih =>
    intro N p hp hN
    obtain ⟨N, rfl⟩ : ∃ z, N = z + 1 := ⟨N - 1, by omega⟩
    have := hT.1
    have hb := (hT.2 p (by omega)).1
    rw [f_X3_takeWord_9, h9, if_neg (nI_ge (by omega) (by omega)), hT.rd (by omega), hT.at (by omega), wh, bindv_def, bindv_def, nI_1]
    by_cases c : lt (t p) = true
    · rw [if_neg (fun z => (lt_dec _ hb).mp z c), if_pos c, ih N (p + 1) (by omega) (by omega)]
    · rw [if_pos ((lt_dec _ hb).mpr c), if_neg c]
theorem tw8 {t : Nat → Nat} {n p : Nat} {ar : Nat → Nat → Int32} (hT : Tx t n ar) {s : Nat} {w : List Nat} (hw : WOk s w) {fi : Nat → Int32} (hp : p ≤ n) (h9 : fi 9 = nI n) (h12 : fi 12 = nI p) : f_X3_takeWord fi ar s = some (if wm t w (SK t n p) (LE t n (SK t n p)) = true then (1, upd fi 12 (nI (LE t n (SK t n p)))) else (0, upd fi 12 (nI (SK t n p)))) := by
  obtain ⟨F, hF⟩ : ∃ n : Nat, n = 5000 := ⟨_, rfl⟩
  have := hT.1
  have h1 := SK_le (t := t) hp
  have h2 := LE_le (t := t) h1.2
  unfold f_X3_takeWord
  rw [sk8 hT hp h9 h12, bind1_some, bindv_def, upd_eq, ← hF, tw8_loop hT (by rw [upd_ne _ _ (by decide)]; exact h9) (n - SK t n p) F (SK t n p) (by omega) (by omega)]
  have e : wh lt t (n - SK t n p) (SK t n p) = LE t n (SK t n p) := rfl
  rw [e, tw8_39 hT hw h2.1 h2.2 (upd_eq _ _ _), upd_upd]
theorem tw9_loop {t : Nat → Nat} {n : Nat} {br : Nat → Nat → Int32} (hT : Tx t n br) : ∀ (m N p : Nat) (gi : Nat → Int32), p + m = n → m < N → gi 1 = nI n → gi 2 = nI p → f_X9_takeWord_13 br N gi = f_X9_takeWord_59 br (upd gi 2 (nI (wh lt t m p))) := by
  intro m
  induction m with
  | zero =>
    intro N p gi hp hN h1 h2
    obtain ⟨N, rfl⟩ : ∃ z, N = z + 1 := ⟨N - 1, by omega⟩
    have := hT.1
    rw [f_X9_takeWord_13, h1, h2, if_pos (nI_le (by omega) (by omega)), wh, upd_self h2]
  | succ m ih =>
    intro N p gi hp hN h1 h2
    obtain ⟨N, rfl⟩ : ∃ z, N = z + 1 := ⟨N - 1, by omega⟩
    have := hT.1
    have hb := (hT.2 p (by omega)).1
    rw [f_X9_takeWord_13, h1, h2, if_neg (nI_ge (by omega) (by omega)), hT.rd (by omega), hT.at (by omega), wh, bindv_def, bindv_def, nI_1, lt9]
    by_cases c : lt (t p) = true
    · rw [if_neg (fun z => (lt_dec _ hb).mp z c), if_pos c, ih N (p + 1) _ (by omega) (by omega) (by rw [upd_ne _ _ (by decide)]; exact h1) (upd_eq _ _ _), upd_upd]
    · rw [if_pos ((lt_dec _ hb).mpr c), if_neg c, upd_self h2]
theorem tw9 {t : Nat → Nat} {n p : Nat} {br : Nat → Nat → Int32} (hT : Tx t n br) {gi : Nat → Int32} (hp : p ≤ n) (h1 : gi 1 = nI n) (h2 : gi 2 = nI p) : ∃ gi', f_X9_takeWord gi br = some gi' ∧ gi' 2 = nI (LE t n (SK t n p)) ∧ gi' 3 = nI (SK t n p) ∧ gi' 4 = nI (LE t n (SK t n p) - SK t n p) ∧ ∀ k, k ≠ 2 → k ≠ 3 → k ≠ 4 → gi' k = gi k := by
  obtain ⟨F, hF⟩ : ∃ n : Nat, n = 5000 := ⟨_, rfl⟩
  have := hT.1
  have b1 := SK_le (t := t) hp
  have b2 := LE_le (t := t) b1.2
  obtain ⟨q, hq⟩ : ∃ q, q = SK t n p := ⟨_, rfl⟩
  obtain ⟨e, he⟩ : ∃ e, e = LE t n q := ⟨_, rfl⟩
  rw [← hq] at b1 b2 ⊢
  rw [← he] at b2 ⊢
  obtain ⟨g1, e1⟩ : ∃ z, z = upd (upd gi 2 (nI q)) 3 (nI q) := ⟨_, rfl⟩
  obtain ⟨g2, e2⟩ : ∃ z, z = upd (upd g1 2 (nI e)) 4 (nI (e - q)) := ⟨_, rfl⟩
  have k1 : ∀ k, g1 k = if k = 3 then nI q else if k = 2 then nI q else gi k := by intro k; rw [e1]; rfl
  have k2 : ∀ k, g2 k = if k = 4 then nI (e - q) else if k = 2 then nI e else g1 k := by intro k; rw [e2]; rfl
  refine ⟨g2, ?_, by rw [k2]; rfl, by rw [k2, k1]; rfl, by rw [k2]; rfl, fun k n2 n3 n4 => by rw [k2, if_neg n4, if_neg n2, k1, if_neg n3, if_neg n2]⟩
  unfold f_X9_takeWord
  rw [hr9 hT hp h1 h2, ← hq, bind2_some, bindv_def, upd_eq, ← e1, ← hF, tw9_loop hT (n - q) F q g1 (by omega) (by omega) (by rw [k1]; exact h1) (by rw [k1]; rfl)]
  unfold f_X9_takeWord_59
  rw [bindv_def]
  have : upd g1 2 (nI (wh lt t (n - q) q)) = upd g1 2 (nI e) := by rw [he]; rfl
  rw [this, upd_eq, upd_ne _ _ (by decide), show g1 3 = nI q by rw [k1]; rfl, pk_sub b2.1, ← e2]
def pkN (w : List Nat) (k : Nat) : Int32 := nI (w.getD k 0)
theorem iw9_loop {t : Nat → Nat} {n : Nat} {br : Nat → Nat → Int32} (hT : Tx t n br) {w : List Nat} (hw : w.length < 7) (hwb : ∀ k, k < w.length → w.getD k 0 < 256) {q : Nat} (hq : q + w.length ≤ n) {gi : Nat → Int32} (h3 : gi 3 = nI q) : ∀ (m N k : Nat), k + m = w.length → m < N → f_X9_isWord_18 gi br (N + 1) (nI w.length) (pkN w 0) (pkN w 1) (pkN w 2) (pkN w 3) (pkN w 4) (pkN w 5) 1 (nI k) = some (if mA t w q m k = true then 1 else 0) := by
  have zero : ∀ (N k : Nat), k ≤ w.length → f_X9_isWord_18 gi br (N + 1) (nI w.length) (pkN w 0) (pkN w 1) (pkN w 2) (pkN w 3) (pkN w 4) (pkN w 5) 0 (nI k) = some 0 := by
    intro N k hk
    rw [f_X9_isWord_18]
    by_cases c : nI w.length ≤ nI k
    · rw [if_pos c]; rfl
    · rw [if_neg c, if_pos rfl]; rfl
  intro m
  induction m with
  | zero =>
    intro N k hk hN
    rw [f_X9_isWord_18, if_pos (nI_le (by omega) (by omega)), mA, if_pos rfl]; rfl
  | succ m ih =>
    intro N k hk hN
    obtain ⟨N, rfl⟩ : ∃ z, N = z + 1 := ⟨N - 1, by omega⟩
    have := hT.1
    have hb := (hT.2 (q + k) (by omega)).1
    have hc := hwb k (by omega)
    rw [f_X9_isWord_18, if_neg (nI_ge (by omega) (by omega)), if_neg n10, h3, nI_add, hT.rd (by omega), hT.at (by omega), mA]
    have pick : ∀ z : Int32, z = pkN w k → f_X9_isWord_95 gi br (f_X9_isWord_18 gi br (N + 1)) (nI w.length) (pkN w 0) (pkN w 1) (pkN w 2) (pkN w 3) (pkN w 4) (pkN w 5) (nI k) (nI (t (q + k))) z = some (if (if t (q + k) = w.getD k 0 then mA t w q m (k + 1) else false) = true then 1 else 0) := by
      intro z hz
      unfold f_X9_isWord_95 f_X9_isWord_103
      rw [bindv_def, bindv_def, nI_1, hz]
      by_cases c : t (q + k) = w.getD k 0
      · rw [if_pos (by unfold pkN; rw [c]), if_pos c, ih N (k + 1) (by omega) (by omega)]
      · rw [if_neg (show ¬ nI (t (q + k)) = pkN w k from fun z => c (nI_inj (by omega) (by omega) z)), if_neg c, zero N (k + 1) (by omega)]; rfl
    rcases (show k = 0 ∨ k = 1 ∨ k = 2 ∨ k = 3 ∨ k = 4 ∨ k = 5 by omega) with h | h | h | h | h | h
    · rw [if_pos (show nI k = 0 by rw [h]; rfl), pick _ (by rw [h])]
    · rw [if_neg (show ¬ nI k = 0 by rw [h]; decide), if_pos (show nI k = 1 by rw [h]; rfl), pick _ (by rw [h])]
    · rw [if_neg (show ¬ nI k = 0 by rw [h]; decide), if_neg (show ¬ nI k = 1 by rw [h]; decide), if_pos (show nI k = 2 by rw [h]; rfl), pick _ (by rw [h])]
    · rw [if_neg (show ¬ nI k = 0 by rw [h]; decide), if_neg (show ¬ nI k = 1 by rw [h]; decide), if_neg (show ¬ nI k = 2 by rw [h]; decide), if_pos (show nI k = 3 by rw [h]; rfl), pick _ (by rw [h])]
    · rw [if_neg (show ¬ nI k = 0 by rw [h]; decide), if_neg (show ¬ nI k = 1 by rw [h]; decide), if_neg (show ¬ nI k = 2 by rw [h]; decide), if_neg (show ¬ nI k = 3 by rw [h]; decide), if_pos (show nI k = 4 by rw [h]; rfl), pick _ (by rw [h])]
    · rw [if_neg (show ¬ nI k = 0 by rw [h]; decide), if_neg (show ¬ nI k = 1 by rw [h]; decide), if_neg (show ¬ nI k = 2 by rw [h]; decide), if_neg (show ¬ nI k = 3 by rw [h]; decide), if_neg (show ¬ nI k = 4 by rw [h]; decide), pick _ (by rw [h])]
theorem iw9 {t : Nat → Nat} {n : Nat} {br : Nat → Nat → Int32} (hT : Tx t n br) {w : List Nat} (hw : w.length < 7) (hwb : ∀ k, k < w.length → w.getD k 0 < 256) {q e : Nat} (hqe : q ≤ e) (he : e ≤ n) {gi : Nat → Int32} (h3 : gi 3 = nI q) (h4 : gi 4 = nI (e - q)) : f_X9_isWord gi br (nI w.length) (pkN w 0) (pkN w 1) (pkN w 2) (pkN w 3) (pkN w 4) (pkN w 5) = some (if wm t w q e = true then 1 else 0) := by
  obtain ⟨F, hF⟩ : ∃ n : Nat, n = 5000 := ⟨_, rfl⟩
  obtain ⟨N, hN⟩ : ∃ z, F = z + 1 := ⟨F - 1, by omega⟩
  have := hT.1
  unfold f_X9_isWord f_X9_isWord_13 wm
  rw [h4, ← hF, hN]
  by_cases c : e - q = w.length
  · rw [if_pos (by rw [c]), if_pos c]
    exact iw9_loop hT hw hwb (by omega) h3 w.length N 0 (by omega) (by omega)
  · rw [if_neg (fun z => c (nI_inj (by omega) (by omega) z)), if_neg c, if_neg (by decide), f_X9_isWord_18]
    by_cases d : nI w.length ≤ 0
    · rw [if_pos d]; rfl
    · rw [if_neg d, if_pos rfl]; rfl
