/-! the village in numbers: what a step, a walk, another, a verdict are; and the relation of class and model -/
def bN (n k : Nat) : Nat := n / 2 ^ k % 2
def refS (v : Nat → Nat) (nm j : Nat) : Nat := if bN nm j = 1 then 100 - v 3 else v 3
/-- how often of 10 to the 4 one is called good: place j = 2 d + r, w whether help is meant -/
def odS (v : Nat → Nat) (nm j w : Nat) : Nat := if w = 1 then (100 - v 2) * refS v nm (2 * j + 1) + v 2 * refS v nm (2 * j) else 100 * refS v nm (2 * j)
def ownS (v : Nat → Nat) (r j : Nat) : Nat := odS v (r / 16) j (bN (r % 16) j)
def shS (v : Nat → Nat) (r x : Nat) : Nat := ((1000 - x) * (1000 - x) * ownS v r 0 + (1000 - x) * x * (ownS v r 1 + ownS v r 2) + x * x * ownS v r 3) / 10000000
def stS (v : Nat → Nat) (r x : Nat) : Nat := ((100 - v 4) * shS v r x + v 4 * 1000 * v 5) / 100
def Vok (v : Nat → Nat) : Prop := v 0 ≤ 99 ∧ v 1 ≤ 99 ∧ v 2 ≤ 50 ∧ v 3 ≤ 50 ∧ v 4 ≤ 99 ∧ v 5 ≤ 1 ∧ v 6 ≤ 15 ∧ v 7 ≤ 255
/-- steps till one comes again: (lead, how many, where) -/
def goS (f : Nat → Nat) : Nat → (Nat → Nat) → Nat → Nat → Nat × Nat × Nat
  | 0, _, n, x => (0, n, x)
  | k + 1, seen, n, x => if seen x = 0 then goS f k (fun y => if y = x then n + 1 else seen y) (n + 1) (f x) else (seen x - 1, n, x)
def goF (f : Nat → Nat) (x : Nat) : Nat × Nat × Nat := goS f 1002 (fun _ => 0) 0 x
def leadS (f : Nat → Nat) (x : Nat) : Nat := (goF f x).1
def ringS (f : Nat → Nat) (x : Nat) : Nat := (goF f x).2.1 - (goF f x).1
def endS (f : Nat → Nat) (x : Nat) : Nat := (goF f x).2.2
def restI (f : Nat → Nat) (x : Nat) : Int32 := if ringS f x = 1 then nI (endS f x) else -1
def mnS (v : Nat → Nat) (r x : Nat) : Nat := bN (r % 16) 0 * ((1000 - x) * (1000 - x)) + (bN (r % 16) 1 + bN (r % 16) 2) * ((1000 - x) * x) + bN (r % 16) 3 * (x * x)
def hpS (v : Nat → Nat) (r x : Nat) : Nat := mnS v r x * (100 - v 2) / 100
def cgS (v : Nat → Nat) (nm q d x : Nat) : Nat := (1000 - x) * odS v nm (2 * d) (bN q (2 * d)) + x * odS v nm (2 * d + 1) (bN q (2 * d + 1))
def zS (v : Nat → Nat) (nm q x : Nat) : Nat := 10000000 - cgS v nm q 1 x + cgS v nm q 0 x
def gdS (v : Nat → Nat) (nm q x : Nat) : Nat := if zS v nm q x = 0 then 0 else cgS v nm q 0 x
def tmN (v : Nat → Nat) (nm q x : Nat) : Nat := if zS v nm q x = 0 then 1 else zS v nm q x
def gtN (w n x : Nat) : Nat := bN w n * (1000 - x) + bN w (2 + n) * x
def gvN (q n x : Nat) : Nat := bN q (2 * n) * (1000 - x) + bN q (2 * n + 1) * x
def wbS (v : Nat → Nat) (w q n x : Nat) : Int := (v 1 : Int) * (gtN w n x : Int) - (v 0 : Int) * (gvN q n x : Int)
def hasS (v : Nat → Nat) (r q x : Nat) : Int := (gdS v (r / 16) q x : Int) * wbS v (r % 16) q 1 x + ((tmN v (r / 16) q x : Int) - (gdS v (r / 16) q x : Int)) * wbS v (r % 16) q 0 x
def gnS (v : Nat → Nat) (r q x : Nat) : Int32 := if hasS v r q x * (tmN v (r / 16) (r % 16) x : Int) < hasS v r (r % 16) x * (tmN v (r / 16) q x : Int) then -1 else if hasS v r q x * (tmN v (r / 16) (r % 16) x : Int) = hasS v r (r % 16) x * (tmN v (r / 16) q x : Int) then 0 else 1
/-- the first way from q on (n of them) that gains -/
def vdG (v : Nat → Nat) (r x : Nat) : Nat → Nat → Int32
  | 0, _ => 1
  | n + 1, q => if gnS v r q x = 1 then -2 - nI q else vdG v r x n (q + 1)
def vdS (v : Nat → Nat) (r : Nat) : Int32 := if ringS (stS v r) 500 = 1 then vdG v r (endS (stS v r) 500) 16 0 else 0
def aidI (v : Nat → Nat) (r : Nat) : Int32 := if vdS v r = 1 then nI (hpS v r (endS (stS v r) 500)) else -1
def topI (v : Nat → Nat) : Nat → Int32
  | 0 => -1
  | n + 1 => if topI v n < aidI v n then aidI v n else topI v n
def eyeV (v : Nat → Nat) (e : Nat) : Nat → Nat := fun k => if k = 3 then e else v k
/-- how many eyes from e on (n left to try) it bears -/
def brG (v : Nat → Nat) (r : Nat) : Nat → Nat → Nat
  | 0, e => e
  | n + 1, e => if vdS (eyeV v e) r = 1 then brG v r n (e + 1) else e
def brI (v : Nat → Nat) (r : Nat) : Int32 := nI (brG v r 51 0) - 1
/-- among rules from r on (n left): (which, most) -/
def fmG (v : Nat → Nat) (top : Int32) : Nat → Nat → Int32 → Int32 → Int32
  | 0, _, f, _ => f
  | n + 1, r, f, most => if aidI v r = top then (if most < brI v r then fmG v top n (r + 1) (nI r) (brI v r) else fmG v top n (r + 1) f most) else fmG v top n (r + 1) f most
def fmI (v : Nat → Nat) : Int32 := fmG v (topI v 4096) 4096 0 (-2) (-2)
def RVil (v : Nat → Nat) (fi : Nat → Int32) (br : Nat → Nat → Int32) : Prop := Vok v ∧ (∀ k, k < 8 → fi (1 + k) = nI (v k)) ∧ ∀ k, k < 8 → br 1 k = nI (v k)
def RTxt (fi : Nat → Int32) (ar : Nat → Nat → Int32) (gi : Nat → Int32) (br : Nat → Nat → Int32) : Prop := ∃ n : Nat, n ≤ 120 ∧ fi 9 = nI n ∧ gi 1 = nI n ∧ ∀ j, j < n → ∃ b, b < 256 ∧ ar 3 j = nI b ∧ br 3 j = nI b
def RLst (fi gi : Nat → Int32) : Prop := ∃ n : Nat, n ≤ 999999 ∧ fi 0 = nI n ∧ gi 0 = nI n
def RVw (ar br : Nat → Nat → Int32) : Prop := ∃ g k : Nat → Nat, ∀ p, p < 6 → g p < 64 ∧ k p < 64 ∧ ar 16 p = nI (g p) ∧ ar 17 p = nI (k p) ∧ br 6 p = nI (k p) ∧ ∀ c, c < 6 → br 5 (6 * p + c) = nI (bN (g p) c)
def RSv (v : Nat → Nat) (fi : Nat → Int32) (ar : Nat → Nat → Int32) : Prop := fi 31 = 0 ∨ (fi 31 = 1 ∧ (∀ r, r < 4096 → ar 14 r = aidI v r) ∧ fi 32 = topI v 4096 ∧ (fi 33 = -2 ∨ fi 33 = fmI v))
def Rel (fi : Nat → Int32) (fl : Nat → Int64) (ar : Nat → Nat → Int32) (gi : Nat → Int32) (gl : Nat → Int64) (br : Nat → Nat → Int32) : Prop :=
  ∃ v : Nat → Nat, RVil v fi br ∧ RLst fi gi ∧ RTxt fi ar gi br ∧ fi 10 = gi 6 ∧ RVw ar br ∧ (∀ j, j ≤ 1000 → ar 10 j = 0) ∧ RSv v fi ar
theorem rel_start : Rel fiC0 (fun _ => 0) arC0 fiM0 (fun _ => 0) arM := by
  refine ⟨fun k => ([1, 3, 1, 1, 0, 1, 10, 153] : List Nat).getD k 0, ⟨by unfold Vok; decide, by decide +kernel, by decide +kernel⟩, ⟨0, by decide, rfl, rfl⟩, ⟨0, by decide, rfl, rfl, fun j h => absurd h (Nat.not_lt_zero j)⟩, rfl, ⟨fun _ => 63, fun _ => 0, by decide +kernel⟩, fun j _ => rfl, Or.inl rfl⟩
