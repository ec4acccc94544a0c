/-! sums in their order -/
abbrev S3_ := Int × Int × Int
def r1_ (s : Int) (n : Nat) : Int := if n ≤ 1 then 0 else s
def r2_ (s : Int) (n : Nat) : Int := if n ≤ 2 then 0 else s
def ab_ (a : Int) : Int := if 0 ≤ a then a else -a
def tot_ (x : S3_) : Int := ab_ x.1 + ab_ x.2.1 + ab_ x.2.2
/-- the next pair: w0, w1, total -/
def np_ (s : Int) (n : Nat) (w0 w1 t : Int) : Int × Int × Int :=
  (fun (p : Int × Int) => if p.1 ≤ s then (p.1, p.2, t) else (-s, p.2, t + 1)) (if w1 + 1 ≤ r1_ s n then (w0, w1 + 1) else (w0 + 1, -r1_ s n))
def clp_ (s : Int) (n : Nat) : Nat → Int → Int → Int → Option (Option S3_)
  | 0, _, _, _ => none
  | k + 1, w0, w1, t => (fun (p : Int × Int × Int) => if s + r1_ s n + r2_ s n < p.2.2 then some none else if p.2.2 - ab_ p.1 - ab_ p.2.1 < 0 then clp_ s n k p.1 p.2.1 p.2.2 else if r2_ s n < p.2.2 - ab_ p.1 - ab_ p.2.1 then clp_ s n k p.1 p.2.1 p.2.2 else some (some (p.1, p.2.1, -(p.2.2 - ab_ p.1 - ab_ p.2.1)))) (np_ s n w0 w1 t)
def nC_ (s : Int) (n : Nat) (x : S3_) : Option (Option S3_) := if 0 ≤ x.2.2 then clp_ s n 2000 x.1 x.2.1 (tot_ x) else some (some (x.1, x.2.1, -x.2.2))
def fC_ (s : Int) (n : Nat) : Option (Option S3_) := clp_ s n 2000 (-s) (-r1_ s n - 1) 1
/-- the reference's step -/
def rst_ (s : Int) (n : Nat) (x : S3_) : Option S3_ := if 3 ≤ n ∧ x.2.2 < s then some (x.1, x.2.1, x.2.2 + 1) else if 2 ≤ n ∧ x.2.1 < s then some (x.1, x.2.1 + 1, if 3 ≤ n then -s else x.2.2) else if x.1 < s then some (x.1 + 1, if 2 ≤ n then -s else x.2.1, if 3 ≤ n then -s else x.2.2) else none
def r37_ (s : Int) (n : Nat) (all : Int) : Nat → S3_ → Option (Option S3_)
  | 0, _ => none
  | k + 1, x => match rst_ s n x with
    | none => some none
    | some y => if tot_ y = all then some (some y) else r37_ s n all k y
def rz_ (s : Int) (n : Nat) : S3_ := (-s, if 2 ≤ n then -s else 0, if 3 ≤ n then -s else 0)
def r30_ (s : Int) (n : Nat) : Nat → Int → S3_ → Option (Option S3_)
  | 0, _, _ => none
  | k + 1, all, x => if 3 * s < all then some none else match r37_ s n all 2000 x with
    | none => none
    | some (some y) => some (some y)
    | some none => if tot_ (rz_ s n) = all + 1 then some (some (rz_ s n)) else r30_ s n k (all + 1) (rz_ s n)
def nR_ (s : Int) (n : Nat) (x : S3_) : Option (Option S3_) := r30_ s n 20 (tot_ x) x
def cub_ (s : Int) (n : Nat) (x : S3_) : Bool := decide (-s ≤ x.1) && decide (x.1 ≤ s) && decide (-r1_ s n ≤ x.2.1) && decide (x.2.1 ≤ r1_ s n) && decide (-r2_ s n ≤ x.2.2) && decide (x.2.2 ≤ r2_ s n)
def okw_ (s : Int) (n : Nat) : Nat → S3_ → Bool
  | 0, _ => false
  | k + 1, x => cub_ s n x && decide (nC_ s n x = nR_ s n x) && (match nC_ s n x with
    | none => false
    | some none => true
    | some (some y) => okw_ s n k y)
def okf_ (s : Int) (n : Nat) : Bool := decide (fC_ s n = nR_ s n (0, 0, 0)) && (match fC_ s n with
  | some (some y) => okw_ s n 1400 y
  | _ => false)
theorem ok_1_1 : okf_ 1 1 = true := by decide +kernel
theorem ok_2_1 : okf_ 2 1 = true := by decide +kernel
theorem ok_3_1 : okf_ 3 1 = true := by decide +kernel
theorem ok_4_1 : okf_ 4 1 = true := by decide +kernel
theorem ok_5_1 : okf_ 5 1 = true := by decide +kernel
theorem ok_1_2 : okf_ 1 2 = true := by decide +kernel
theorem ok_2_2 : okf_ 2 2 = true := by decide +kernel
theorem ok_3_2 : okf_ 3 2 = true := by decide +kernel
theorem ok_4_2 : okf_ 4 2 = true := by decide +kernel
theorem ok_5_2 : okf_ 5 2 = true := by decide +kernel
theorem ok_1_3 : okf_ 1 3 = true := by decide +kernel
theorem ok_2_3 : okf_ 2 3 = true := by decide +kernel
theorem ok_3_3 : okf_ 3 3 = true := by decide +kernel
theorem ok_4_3 : okf_ 4 3 = true := by decide +kernel
theorem ok_5_3 : okf_ 5 3 = true := by decide +kernel
theorem okf_all {s : Int} {n : Nat} (h1 : 1 ≤ s) (h5 : s ≤ 5) (n1 : 1 ≤ n) (n3 : n ≤ 3) : okf_ s n = true := by
  have a : s = 1 ∨ s = 2 ∨ s = 3 ∨ s = 4 ∨ s = 5 := by omega
  have b : n = 1 ∨ n = 2 ∨ n = 3 := by omega
  rcases b with rfl | rfl | rfl <;> rcases a with rfl | rfl | rfl | rfl | rfl
  · exact ok_1_1
  · exact ok_2_1
  · exact ok_3_1
  · exact ok_4_1
  · exact ok_5_1
  · exact ok_1_2
  · exact ok_2_2
  · exact ok_3_2
  · exact ok_4_2
  · exact ok_5_2
  · exact ok_1_3
  · exact ok_2_3
  · exact ok_3_3
  · exact ok_4_3
  · exact ok_5_3
