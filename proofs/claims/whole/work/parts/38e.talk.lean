/-! talk, feed -/
theorem nI_or (a b : Nat) : nI a ||| nI b = nI (a ||| b) := by
  apply Int32.toBitVec_inj.1
  show BitVec.ofNat 32 a ||| BitVec.ofNat 32 b = BitVec.ofNat 32 (a ||| b)
  apply BitVec.eq_of_getLsbD_eq
  intro i hi
  simp [hi]
theorem nI_xor (a b : Nat) : nI a ^^^ nI b = nI (a ^^^ b) := by
  apply Int32.toBitVec_inj.1
  show BitVec.ofNat 32 a ^^^ BitVec.ofNat 32 b = BitVec.ofNat 32 (a ^^^ b)
  apply BitVec.eq_of_getLsbD_eq
  intro i hi
  simp [hi]
theorem xor_dec : ∀ x, x < 64 → ∀ y, y < 64 → (x ^^^ y < 64 ∧ x ||| y < 64 ∧ ∀ c, c < 6 → bN (x ^^^ y) c = (bN x c + bN y c) % 2 ∧ bN (x ||| y) c = if bN x c = 1 then 1 else bN y c) := by decide +kernel
def mskN (x a b : Nat) : Nat := x - bN x a * 2 ^ a - (if a = b then 0 else bN x b * 2 ^ b)
theorem msk_dec : ∀ x, x < 64 → ∀ a, a < 6 → ∀ b, b < 6 → (mskN x a b < 64 ∧ (nI x &&& ((63 &&& (((1 : Int32) <<< (nI a &&& 31)) ^^^ (-1))) &&& (((1 : Int32) <<< (nI b &&& 31)) ^^^ (-1)))) = nI (mskN x a b) ∧ ∀ c, c < 6 → bN (mskN x a b) c = if c = a ∨ c = b then 0 else bN x c) := by decide +kernel
/-- what is told of c, whether b's view of c changes -/
def tellB (ga ka gb a b c : Nat) : Nat := if c = a ∨ c = b then 0 else ((if bN ga c = 1 then 1 else bN ka c) + bN gb c) % 2
def tellS (ga ka gb a b : Nat) : Nat → Nat → Nat
  | 0, _ => 0
  | m + 1, c => tellB ga ka gb a b c + tellS ga ka gb a b m (c + 1)
theorem tell8 {ar br : Nat → Nat → Int32} {g k : Nat → Nat} (h : RV1 ar br g k) {a b : Nat} (ha : a < 6) (hb : b < 6) : ∃ G, G < 64 ∧ f_X5_tell ar (nI a) (nI b) = some (nI (tellS (g a) (k a) (g b) a b 6 0), updA ar 16 (upd (ar 16) b (nI G))) ∧ ∀ c, c < 6 → bN G c = (bN (g b) c + tellB (g a) (k a) (g b) a b c) % 2 := by
  obtain ⟨h1, h2, h3, h4, h5, h6⟩ := h a ha
  obtain ⟨i1, i2, i3, i4, i5, i6⟩ := h b hb
  obtain ⟨x1, x2, x3⟩ := xor_dec (g a) h1 (k a) h2
  obtain ⟨y1, y2, y3⟩ := xor_dec (g a ||| k a) x2 (g b) i1
  obtain ⟨m1, m2, m3⟩ := msk_dec ((g a ||| k a) ^^^ g b) y1 a ha b hb
  obtain ⟨z1, z2, z3⟩ := xor_dec (g b) i1 _ m1
  have hbit : ∀ c, c < 6 → bN (mskN ((g a ||| k a) ^^^ g b) a b) c = tellB (g a) (k a) (g b) a b c := by
    intro c hc
    rw [m3 c hc]
    unfold tellB
    by_cases q : c = a ∨ c = b
    · rw [if_pos q, if_pos q]
    · rw [if_neg q, if_neg q, (y3 c hc).1, (x3 c hc).2]
  refine ⟨g b ^^^ mskN ((g a ||| k a) ^^^ g b) a b, z1, ?_, fun c hc => by rw [(z3 c hc).1, hbit c hc]⟩
  unfold f_X5_tell
  rw [gd_nI ha (by decide), gd_nI ha (by decide), bindv_def, bindv_def, gd_nI hb (by decide), bindv_def, gd_nI hb (by decide), gd_nI hb (by decide), bindv_def, bindv_def]
  rw [clampN (by omega), clampN (by omega), h3, h4, i3, nI_or, nI_xor, m2, nI_xor, bc_ok _ m1]
  rw [hbit 0 (by decide), hbit 1 (by decide), hbit 2 (by decide), hbit 3 (by decide), hbit 4 (by decide), hbit 5 (by decide)]
  simp only [tellS, Nat.add_zero, Nat.zero_add, Nat.add_assoc, Nat.reduceAdd]
theorem talk9 {a b : Nat} (ha : a < 6) (hb : b < 6) (hab : a ≠ b) {g k : Nat → Nat} {G : Nat} (hG : ∀ c, c < 6 → bN G c = (bN (g b) c + tellB (g a) (k a) (g b) a b c) % 2) :
    ∀ (m n c s : Nat) (br : Nat → Nat → Int32), c + m = 6 → m < n → k a < 64 → br 6 a = nI (k a) → (∀ p j, p < 6 → j < 6 → br 5 (6 * p + j) = if p = b ∧ j < c then nI (bN G j) else nI (bN (g p) j)) →
      ∃ br', f_X9_talk_28 n (nI a) (nI b) (nI s) (nI c) br = some (nI (s + tellS (g a) (k a) (g b) a b m c), br') ∧ (∀ q, q ≠ 5 → br' q = br q) ∧ (∀ p j, p < 6 → j < 6 → br' 5 (6 * p + j) = if p = b then nI (bN G j) else nI (bN (g p) j)) := by
  intro m
  induction m with
  | zero =>
    intro n c s br hc hn hk h6 hv
    obtain ⟨n, rfl⟩ : ∃ z, n = z + 1 := ⟨n - 1, by omega⟩
    obtain rfl : c = 6 := by omega
    refine ⟨br, ?_, fun _ _ => rfl, fun p j hp hj => ?_⟩
    · rw [f_X9_talk_28, if_pos (by decide)]
      rfl
    · rw [hv p j hp hj]
      by_cases q : p = b
      · rw [if_pos ⟨q, hj⟩, if_pos q]
      · rw [if_neg (fun z => q z.1), if_neg q]
  | succ m ih =>
    intro n c s br hc hn hk h6 hv
    obtain ⟨n, rfl⟩ : ∃ z, n = z + 1 := ⟨n - 1, by omega⟩
    have hl : ¬ ((6 : Int32) ≤ nI c) := nI_ge (a := c) (b := 6) (by omega) (by decide)
    have va : br 5 (6 * a + c) = nI (bN (g a) c) := by rw [hv a c ha (by omega), if_neg (fun z => hab z.1)]
    have vb : br 5 (6 * b + c) = nI (bN (g b) c) := by rw [hv b c hb (by omega), if_neg (fun z => by omega)]
    obtain ⟨t, ht⟩ : ∃ t, t = (if bN (g a) c = 1 then 1 else bN (k a) c) := ⟨_, rfl⟩
    have ht2 : t < 2 := by
      have := bN_lt (k a) c
      rw [ht]; split <;> omega
    -- what the model has on its stack is t
    have st1 : f_X9_talk_28 (n + 1) (nI a) (nI b) (nI s) (nI c) br = f_X9_talk_70 (f_X9_talk_28 n) (nI a) (nI b) (nI s) (nI c) (nI t) br := by
      rw [f_X9_talk_28, if_neg hl, gd_nI ha (by decide), clampN (by omega), h6, bit_ok (by omega) (by omega)]
      rcases bN_or (k a) c with q | q
      · rw [q, if_neg (by decide), ix_ok, gd_nI (by omega) (by decide), clampN (by omega), va]
        rcases bN_or (g a) c with q2 | q2
        · rw [q2, if_pos (by decide)]
          rw [q2, if_neg (by decide), q] at ht
          rw [ht]; rfl
        · rw [q2, if_neg (by decide)]
          rw [q2, if_pos rfl] at ht
          rw [ht]; rfl
      · rw [q, if_pos (by decide)]
        have : t = 1 := by rw [ht, q]; split <;> rfl
        rw [this]; rfl
    have hvc : ∀ p j, p < 6 → j < 6 → (p = b → j = c → bN G c = bN (g b) c) → br 5 (6 * p + j) = if p = b ∧ j < c + 1 then nI (bN G j) else nI (bN (g p) j) := by
      intro p j hp hj hE
      rw [hv p j hp hj]
      by_cases q : p = b ∧ j < c
      · rw [if_pos q, if_pos ⟨q.1, by omega⟩]
      · rw [if_neg q]
        by_cases q2 : p = b ∧ j < c + 1
        · have hj' : j = c := by
            rcases Nat.lt_or_ge j c with z | z
            · exact absurd ⟨q2.1, z⟩ q
            · omega
          rw [if_pos q2, hj', hE q2.1 hj', q2.1]
        · rw [if_neg q2]
    have hGc := hG c (by omega)
    have bgb := bN_lt (g b) c
    have next0 : tellB (g a) (k a) (g b) a b c = 0 → f_X9_talk_28 (n + 1) (nI a) (nI b) (nI s) (nI c) br = f_X9_talk_28 n (nI a) (nI b) (nI s) (nI (c + 1)) br → ∃ br', f_X9_talk_28 (n + 1) (nI a) (nI b) (nI s) (nI c) br = some (nI (s + tellS (g a) (k a) (g b) a b (m + 1) c), br') ∧ (∀ q, q ≠ 5 → br' q = br q) ∧ (∀ p j, p < 6 → j < 6 → br' 5 (6 * p + j) = if p = b then nI (bN G j) else nI (bN (g p) j)) := by
      intro hz he
      obtain ⟨br', r1, r2, r3⟩ := ih n (c + 1) s br (by omega) (by omega) hk h6 (fun p j hp hj => hvc p j hp hj (fun _ _ => by rw [hGc, hz]; omega))
      refine ⟨br', ?_, r2, r3⟩
      rw [he, r1, tellS, hz, Nat.zero_add]
    have nx : ∀ (s' : Int32) (b' : Nat → Nat → Int32), f_X9_talk_118 (f_X9_talk_28 n) (nI a) (nI b) s' (nI c) b' = f_X9_talk_28 n (nI a) (nI b) s' (nI (c + 1)) b' := by
      intro s' b'
      unfold f_X9_talk_118
      rw [bindv_def, nI_1]
    by_cases qa : c = a
    · refine next0 (by unfold tellB; rw [if_pos (Or.inl qa)]) ?_
      rw [st1]
      unfold f_X9_talk_70
      rw [if_pos (by rw [qa]), nx]
    by_cases qb : c = b
    · refine next0 (by unfold tellB; rw [if_pos (Or.inr qb)]) ?_
      rw [st1]
      unfold f_X9_talk_70
      rw [if_neg (fun e => qa (nI_inj (by omega) (by omega) e)), if_pos (by rw [qb]), nx]
    have htb : tellB (g a) (k a) (g b) a b c = (t + bN (g b) c) % 2 := by
      unfold tellB
      rw [if_neg (fun z => z.elim qa qb), ← ht]
    have st2 : f_X9_talk_28 (n + 1) (nI a) (nI b) (nI s) (nI c) br = if nI t = nI (bN (g b) c) then f_X9_talk_118 (f_X9_talk_28 n) (nI a) (nI b) (nI s) (nI c) br else f_X9_talk_118 (f_X9_talk_28 n) (nI a) (nI b) (nI (s + 1)) (nI c) (updA br 5 (upd (br 5) (6 * b + c) (nI t))) := by
      rw [st1]
      unfold f_X9_talk_70
      rw [if_neg (fun e => qa (nI_inj (by omega) (by omega) e)), if_neg (fun e => qb (nI_inj (by omega) (by omega) e)), ix_ok, gd_nI (by omega) (by decide), clampN (by omega), vb, gd_nI (by omega) (by decide), bindv_def, bindv_def, nar_b ht2, nI_1]
    by_cases qe : t = bN (g b) c
    · refine next0 (by rw [htb]; omega) ?_
      rw [st2, if_pos (by rw [qe]), nx]
    · have htb1 : tellB (g a) (k a) (g b) a b c = 1 := by rw [htb]; omega
      have hGt : bN G c = t := by rw [hGc, htb1]; omega
      obtain ⟨a1, ea1⟩ : ∃ z, z = updA br 5 (upd (br 5) (6 * b + c) (nI t)) := ⟨_, rfl⟩
      have q5 : ∀ i, a1 5 i = if i = 6 * b + c then nI t else br 5 i := fun i => by rw [ea1, updA_eq]; rfl
      have qo : ∀ q, q ≠ 5 → a1 q = br q := fun q h => by rw [ea1, updA_ne _ _ h]
      obtain ⟨br', r1, r2, r3⟩ := ih n (c + 1) (s + 1) a1 (by omega) (by omega) hk (by rw [qo 6 (by decide)]; exact h6) (fun p j hp hj => by
        rw [q5]
        by_cases q : p = b ∧ j = c
        · rw [if_pos (by rw [q.1, q.2]), if_pos ⟨q.1, by omega⟩, q.2, hGt]
        · rw [if_neg (by omega)]
          exact hvc p j hp hj (fun h1 h2 => absurd ⟨h1, h2⟩ q))
      refine ⟨br', ?_, fun q h => (r2 q h).trans (qo q h), r3⟩
      rw [st2, if_neg (fun e => qe (nI_inj (by omega) (by omega) e)), nx, ← ea1, r1, tellS, htb1, Nat.add_assoc]
theorem st_talk {fi : Nat → Int32} {fl : Nat → Int64} {ar : Nat → Nat → Int32} {gi : Nat → Int32} {gl : Nat → Int64} {br : Nat → Nat → Int32} (h : Rel fi fl ar gi gl br) (a0 : Int32) (a1 : Int32) : ∃ (r : Int32) (ar' : Nat → Nat → Int32) (br' : Nat → Nat → Int32), f_X8_talk ar a0 a1 = some (r, ar') ∧ f_X9_talk br a0 a1 = some (r, br') ∧ Rel fi fl ar' gi gl br' := by
  have c9 : f_X9_talk br a0 a1 = if f_X5_arePair a0 a1 = 0 then some (-1001, br) else f_X9_talk_28 5000 a0 a1 0 0 br := by
    unfold f_X9_talk
    rw [← pairM, bindv_def, person9]
    by_cases q : f_X5_isPerson a0 = 0
    · rw [if_pos q, if_pos q]
    rw [if_neg q, if_neg q, bindv_def, person9]
  have c8 : f_X8_talk ar a0 a1 = if f_X5_arePair a0 a1 = 0 then some (-1001, ar) else (bind2 (f_X5_tell ar a0 a1) (fun r_4 ar_5 => some (r_4, ar_5))) := by
    unfold f_X8_talk
    rw [bindv_def]
  rw [c8, c9]
  rcases pair9 a0 a1 with q | ⟨q, a, b, ha, hb, hab, rfl, rfl⟩
  · rw [q, if_pos rfl, if_pos rfl]; exact ⟨_, _, _, rfl, rfl, h⟩
  rw [q, if_neg n10, if_neg n10]
  have h' := h
  obtain ⟨v, -, -, -, -, ⟨g, k, hg⟩, -⟩ := h'
  obtain ⟨G, hG, e8, hGb⟩ := tell8 hg ha hb
  obtain ⟨F, hF⟩ : ∃ n : Nat, n = 5000 := ⟨_, rfl⟩
  obtain ⟨br', r1, r2, r3⟩ := talk9 ha hb hab hGb 6 F 0 0 br (by decide) (by omega) (hg a ha).2.1 (hg a ha).2.2.2.2.1 (fun p j hp hj => by
    rw [if_neg (fun z => by omega)]
    exact (hg p hp).2.2.2.2.2 j hj)
  rw [e8, bind2_some, ← hF]
  rw [Nat.zero_add] at r1
  refine ⟨_, _, br', rfl, r1, h.views (g := updN g b G) (k := k) (fun q h16 _ => updA_ne _ _ h16) (fun q h5 _ => r2 q h5) (fun p hp => ?_)⟩
  obtain ⟨x1, x2, x3, x4, x5, x6⟩ := hg p hp
  rw [updA_eq, updA_ne _ _ (by decide), r2 6 (by decide)]
  unfold updN
  by_cases z : p = b
  · rw [if_pos z, z, upd_eq]
    rw [z] at x2 x4 x5
    refine ⟨hG, x2, rfl, x4, x5, fun c hc => ?_⟩
    rw [r3 b c hb hc, if_pos rfl]
  · rw [if_neg z, upd_ne _ _ z]
    refine ⟨x1, x2, x3, x4, x5, fun c hc => ?_⟩
    rw [r3 p c hp hc, if_neg z]
