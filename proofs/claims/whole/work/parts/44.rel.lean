/-! The relation of the two memories. Isc .. SeV: what always holds of the reference's cells; ShP, ShS, ShE, ShN: where the class's objects lie; the rest: what corresponds, but not cell by cell. -/
def cnt (f : Nat → Int32) (s : Int32) : Nat → Nat
  | 0 => 0
  | n + 1 => cnt f s n + (if f n = s then 1 else 0)
def sumTo (f : Nat → Int) : Nat → Int
  | 0 => 0
  | n + 1 => sumTo f n + f n
def Isc (R : Mm) : Prop :=
  (0 ≤ mI R 39 0 ∧ mI R 39 0 ≤ 57600) ∧ (0 ≤ mI R 39 1 ∧ mI R 39 1 ≤ 9) ∧ (1 ≤ mI R 39 2 ∧ mI R 39 2 ≤ 10) ∧ (0 ≤ mI R 39 9 ∧ mI R 39 9 ≤ 16) ∧ (0 ≤ mI R 39 22 ∧ mI R 39 22 ≤ 4) ∧ (0 ≤ mI R 39 23 ∧ mI R 39 23 ≤ 60) ∧ (0 ≤ mI R 39 24 ∧ mI R 39 24 ≤ 60) ∧ (0 ≤ mI R 39 54 ∧ mI R 39 54 ≤ 500) ∧ (0 ≤ mI R 39 71 ∧ mI R 39 71 ≤ 24) ∧ (0 ≤ mI R 39 37 ∧ mI R 39 37 ≤ 8) ∧ (0 ≤ mI R 39 70 ∧ mI R 39 70 ≤ 24) ∧ (mI R 39 73 = 0 ∨ mI R 39 73 = 1) ∧ mI R 39 71 + mI R 39 73 ≤ mI R 39 70
def Ila (R : Mm) : Prop :=
  (∀ t, t < 10 → (mI R 40 t = -1 ∨ (0 ≤ mI R 40 t ∧ mI R 40 t ≤ 1439)) ∧ 0 ≤ mI R 41 t ∧ mI R 41 t ≤ 1439) ∧ (∀ j, j < 100 → 0 ≤ mI R 42 j ∧ mI R 42 j ≤ 200 ∧ 0 ≤ mI R 43 j ∧ mI R 43 j ≤ 2000) ∧ (∀ j, j < 500 → -128 ≤ mI R 79 j ∧ mI R 79 j ≤ 127)
/-- persons: town, called, position, coins; debts; the house; closes -/
def Ipe (k : Nat) (R : Mm) : Prop :=
  (∀ i, i < 16 → (0 ≤ mI R 46 i ∧ mI R 46 i < mI R 39 2) ∧ (-1 ≤ mI R 49 i ∧ mI R 49 i ≤ mI R 39 0) ∧ (-(5940 * (mI R 39 71).toInt) ≤ (mI R 47 i).toInt ∧ (mI R 47 i).toInt ≤ 5940 * (mI R 39 71).toInt) ∧ (-(2000000000 * (mI R 39 71).toInt + 100000 * (k : Int)) ≤ (mL R 52 i).toInt ∧ (mL R 52 i).toInt ≤ 2000000000 * (mI R 39 71).toInt + 100000 * (k : Int))) ∧
  (∀ j, j < 256 → 0 ≤ mI R 112 j ∧ mI R 112 j ≤ 99999) ∧
  (-(2300000 * (mI R 39 71).toInt) ≤ (mI R 39 21).toInt ∧ (mI R 39 21).toInt ≤ 2300000 * (mI R 39 71).toInt) ∧
  (-(2000000000000 * (mI R 39 71).toInt) ≤ (mL R 39 18).toInt ∧ (mL R 39 18).toInt ≤ 2000000000000 * (mI R 39 71).toInt) ∧
  (∀ i, i < 24 → 0 ≤ mI R 91 i ∧ mI R 91 i ≤ 9999) ∧ k ≤ 512
def ShP (ad : Nat → Nat → Nat) (C R : Mm) : Prop := ∀ i, i < ix (mI R 39 9) → mR C 16 i = some (ad 1 i) ∧ mK C (ad 1 i) = (6, 9) ∧ mR C (ad 1 i) 1 = some (ad 2 i) ∧ mR C (ad 1 i) 2 = some (ad 3 i) ∧ mK C (ad 2 i) = (20, 4) ∧ mK C (ad 3 i) = (20, 16)
def ShS (ad : Nat → Nat → Nat) (C R : Mm) : Prop := ∀ s, s < ix (mI R 39 22) → mR C 17 s = some (ad 4 s) ∧ mK C (ad 4 s) = (10, 14) ∧ mR C (ad 4 s) 0 = some (ad 5 s) ∧ mR C (ad 4 s) 1 = some (ad 6 s) ∧ mR C (ad 4 s) 3 = some (ad 7 s) ∧ mR C (ad 4 s) 4 = some (ad 8 s) ∧ mR C (ad 4 s) 5 = some (ad 9 s) ∧ mK C (ad 5 s) = (20, 60) ∧ mK C (ad 6 s) = (20, 60) ∧ mK C (ad 7 s) = (20, 60) ∧ mK C (ad 8 s) = (20, 60) ∧ mK C (ad 9 s) = (20, 60)
def sumP (R : Mm) (s : Nat) : Int := sumTo (fun p => (mI R 53 (4 * p + s)).toInt) 16
def sumW (R : Mm) (s : Nat) : Int := sumTo (fun w => if mI R 62 w = Int32.ofNat s then (mI R 64 w).toInt else 0) (ix (mI R 39 24))
/-- stores: rice, sums of paper, queues -/
def Ist (R : Mm) : Prop :=
  (∀ s, s < 4 → (0 ≤ mI R 54 s ∧ mI R 54 s ≤ 99999) ∧ (mI R 55 s).toInt = (mI R 56 s).toInt + (mI R 57 s).toInt + sumP R s + sumW R s ∧ 0 ≤ mI R 56 s ∧ 0 ≤ mI R 57 s ∧ (mI R 55 s).toInt ≤ 500 * (mI R 39 23).toInt ∧ (0 < mI R 54 s → sumW R s = 0)) ∧
  (∀ j, j < 64 → 0 ≤ mI R 53 j) ∧
  (∀ w, w < ix (mI R 39 24) → (0 ≤ mI R 62 w ∧ mI R 62 w < mI R 39 22) ∧ (0 ≤ mI R 63 w ∧ mI R 63 w < mI R 39 9) ∧ (0 ≤ mI R 64 w) ∧ (0 ≤ mI R 65 w ∧ mI R 65 w ≤ mI R 39 0)) ∧
  (∀ u, u < ix (mI R 39 23) → 0 ≤ mI R 59 u ∧ mI R 59 u < mI R 39 22) ∧ (∀ s, ix (mI R 39 22) ≤ s → s < 4 → mI R 55 s = 0)
def Qs (ad : Nat → Nat → Nat) (C R : Mm) : Prop := ∀ s, s < ix (mI R 39 22) →
  mI C (ad 4 s) 2 = Int32.ofNat (cnt (mI R 59) (Int32.ofNat s) (ix (mI R 39 23))) ∧
  (∀ u, u < ix (mI R 39 23) → mI R 59 u = Int32.ofNat s → mI C (ad 5 s) (cnt (mI R 59) (Int32.ofNat s) u) = mI R 60 u ∧ mI C (ad 6 s) (cnt (mI R 59) (Int32.ofNat s) u) = mI R 61 u) ∧
  mI C (ad 4 s) 7 = Int32.ofNat (cnt (mI R 62) (Int32.ofNat s) (ix (mI R 39 24))) ∧
  (∀ w, w < ix (mI R 39 24) → mI R 62 w = Int32.ofNat s → mI C (ad 7 s) (cnt (mI R 62) (Int32.ofNat s) w) = mI R 63 w ∧ mI C (ad 8 s) (cnt (mI R 62) (Int32.ofNat s) w) = mI R 64 w ∧ mI C (ad 9 s) (cnt (mI R 62) (Int32.ofNat s) w) = mI R 65 w) ∧
  (0 ≤ mI C (ad 4 s) 6 ∧ mI C (ad 4 s) 6 ≤ mI C (ad 4 s) 7) ∧
  (∀ w, w < ix (mI R 39 24) → mI R 62 w = Int32.ofNat s → (mI R 64 w = 0 ↔ cnt (mI R 62) (Int32.ofNat s) w < ix (mI C (ad 4 s) 6))) ∧
  (mI C (ad 4 s) 9).toInt = sumP R s ∧ (mI C (ad 4 s) 10).toInt = sumW R s
/-! edicts -/
/-- where the condition of statement s begins in the class's code of edict t -/
def ceL (ad : Nat → Nat → Nat) (C : Mm) (t s : Nat) : Nat := if s = 0 then 0 else ix (mI C (ad 19 t) (s - 1))
/-- a code entry and a node that say the same -/
def EN (e kd a c n : Int32) : Prop := (kd = 0 ∧ ∃ sg : Int32, 0 ≤ a ∧ a ≤ 6 ∧ (sg = 0 ∧ c = 60 ∨ sg = 1 ∧ c = 62 ∨ sg = 2 ∧ c = 61) ∧ 0 ≤ n ∧ n ≤ 99999 ∧ e = (a * 3 + sg) * 100000 + n) ∨ (kd = 1 ∧ e = -3) ∨ (kd = 2 ∧ e = -1) ∨ (kd = 3 ∧ e = -2)
/-- one step of the stack of nodes that wait -/
def Sk (kd a b : Int32) (m : Nat) (S S' : List Nat) : Prop := if kd = 0 then S' = m :: S else if kd = 1 then ∃ x r, S = x :: r ∧ a = Int32.ofNat x ∧ S' = m :: r else ∃ x y r, S = y :: x :: r ∧ a = Int32.ofNat x ∧ b = Int32.ofNat y ∧ S' = m :: r
/-- the entries lo to hi of a row of code, and the nodes from n0 on; the root -/
def Pf (cd : Nat → Int32) (R : Mm) (lo hi n0 : Nat) (root : Int32) : Prop := ∃ S : Nat → List Nat, S lo = [] ∧ (∀ j, lo ≤ j → j < hi → EN (cd j) (mI R 74 (n0 + (j - lo))) (mI R 75 (n0 + (j - lo))) (mI R 76 (n0 + (j - lo))) (mI R 77 (n0 + (j - lo))) ∧ Sk (mI R 74 (n0 + (j - lo))) (mI R 75 (n0 + (j - lo))) (mI R 76 (n0 + (j - lo))) (n0 + (j - lo)) (S j) (S (j + 1)) ∧ (S (j + 1)).length ≤ 40) ∧ S hi = [ix root] ∧ 0 ≤ root
def ShE (ad : Nat → Nat → Nat) (C R : Mm) : Prop := ∀ t, t < ix (mI R 39 37) → mR C 28 t = some (ad 16 t) ∧ mK C (ad 16 t) = (2, 5) ∧ mR C (ad 16 t) 1 = some (ad 17 t) ∧ mR C (ad 16 t) 2 = some (ad 18 t) ∧ mR C (ad 16 t) 3 = some (ad 19 t) ∧ mR C (ad 16 t) 4 = some (ad 20 t) ∧ mK C (ad 17 t) = (20, ix (mI R 67 t)) ∧ mK C (ad 18 t) = (20, ix (mI R 67 t)) ∧ mK C (ad 19 t) = (20, ix (mI R 67 t)) ∧ (mK C (ad 20 t)).1 = 20 ∧ (mK C (ad 20 t)).2 ≤ 500
def Ied (R : Mm) : Prop :=
  (0 ≤ mI R 39 46 ∧ mI R 39 46 ≤ 24 * mI R 39 37) ∧ (0 ≤ mI R 39 52 ∧ mI R 39 52 ≤ 250 * mI R 39 37) ∧
  (∀ t, t < ix (mI R 39 37) → 0 ≤ mI R 66 t ∧ 0 ≤ mI R 67 t ∧ mI R 67 t ≤ 24 ∧ ix (mI R 66 t) + ix (mI R 67 t) ≤ ix (mI R 39 46) ∧ 0 ≤ mI R 68 t ∧ mI R 68 t ≤ 57600) ∧
  (∀ g, g < ix (mI R 39 46) → 0 ≤ mI R 70 g ∧ mI R 70 g ≤ 99999 ∧ (mI R 69 g = 3 ∨ mI R 69 g = 4 ∨ mI R 69 g = 8 → 1 ≤ mI R 70 g) ∧ 0 ≤ mI R 72 g ∧ mI R 72 g ≤ mI R 73 g ∧ mI R 73 g ≤ mI R 39 52)
def Eds (ad : Nat → Nat → Nat) (C R : Mm) : Prop := ∀ t, t < ix (mI R 39 37) → ∀ s, s < ix (mI R 67 t) →
  mI C (ad 17 t) s = mI R 69 (ix (mI R 66 t) + s) ∧ mI C (ad 18 t) s = mI R 70 (ix (mI R 66 t) + s) ∧ 0 ≤ mI C (ad 19 t) s ∧ ceL ad C t s ≤ ix (mI C (ad 19 t) s) ∧ ix (mI C (ad 19 t) s) ≤ (mK C (ad 20 t)).2 ∧
  ix (mI R 73 (ix (mI R 66 t) + s)) = ix (mI R 72 (ix (mI R 66 t) + s)) + (ix (mI C (ad 19 t) s) - ceL ad C t s) ∧
  ((ceL ad C t s = ix (mI C (ad 19 t) s) ∧ mI R 71 (ix (mI R 66 t) + s) = -1) ∨ (ceL ad C t s < ix (mI C (ad 19 t) s) ∧ Pf (mI C (ad 20 t)) R (ceL ad C t s) (ix (mI C (ad 19 t) s)) (ix (mI R 72 (ix (mI R 66 t) + s))) (mI R 71 (ix (mI R 66 t) + s))))
/-! sessions -/
/-- what is there of a role, by the counts; all else lies behind the heap's end -/
def Al (R : Mm) (c i : Nat) : Prop := (1 ≤ c ∧ c ≤ 3 ∧ i < ix (mI R 39 9)) ∨ (4 ≤ c ∧ c ≤ 9 ∧ i < ix (mI R 39 22)) ∨ (10 ≤ c ∧ c ≤ 13 ∧ i < ix (mI R 39 70)) ∨ (c = 14 ∧ i % 60 < ix (mI R 87 (i / 60)) ∧ i / 60 < ix (mI R 39 70)) ∨ (c = 15 ∧ i % 60 < ix (mI R 88 (i / 60)) ∧ i / 60 < ix (mI R 39 70)) ∨ (16 ≤ c ∧ c ≤ 20 ∧ i < ix (mI R 39 37))
def Un (ad : Nat → Nat → Nat) (C R : Mm) : Prop := ∀ c i, Al R c i ∨ mZ C ≤ ad c i
def ShN (ad : Nat → Nat → Nat) (C R : Mm) : Prop :=
  (∀ s, s < ix (mI R 39 70) → mR C 37 s = some (ad 10 s) ∧ mK C (ad 10 s) = (9, 11) ∧ mR C (ad 10 s) 1 = some (ad 11 s) ∧ mR C (ad 10 s) 2 = some (ad 12 s) ∧ mR C (ad 10 s) 3 = some (ad 13 s) ∧ mK C (ad 11 s) = (28, 60) ∧ mK C (ad 12 s) = (20, 60) ∧ mK C (ad 13 s) = (29, 60) ∧
    (∀ c, c < ix (mI R 87 s) → mR C (ad 11 s) c = some (ad 14 (60 * s + c)) ∧ mK C (ad 14 (60 * s + c)) = (1, 6)) ∧
    (∀ b, b < ix (mI R 88 s) → mR C (ad 13 s) b = some (ad 15 (60 * s + b)) ∧ mK C (ad 15 (60 * s + b)) = (0, 14))) ∧
  (mR C 8 14 = if mI R 39 73 = 0 then none else some (ad 10 (ix (mI R 39 70) - 1))) ∧ Un ad C R
/-- how many events ahead of the j-th are cries -/
def cc (f : Nat → Int32) (b : Nat) : Nat → Nat
  | 0 => 0
  | n + 1 => cc f b n + (if f (b + n) < 100 then 1 else 0)
def Ise (R : Mm) : Prop :=
  (∀ s, s < 24 → (0 ≤ mI R 87 s ∧ mI R 87 s ≤ 60) ∧ (0 ≤ mI R 88 s ∧ mI R 88 s ≤ mI R 87 s) ∧ (0 ≤ mI R 90 s ∧ mI R 90 s ≤ 120) ∧ (-1 ≤ mI R 84 s ∧ mI R 84 s ≤ mI R 39 0) ∧ (0 ≤ mI R 86 s ∧ mI R 86 s ≤ 99999)) ∧
  (∀ s, ix (mI R 39 70) ≤ s → s < 24 → mI R 87 s = 0 ∧ mI R 88 s = 0 ∧ mI R 90 s = 0 ∧ mI R 89 s = 0 ∧ mI R 86 s = 0) ∧
  (mI R 39 73 = 1 → mI R 84 (ix (mI R 39 70) - 1) = -1 ∧ mI R 89 (ix (mI R 39 70) - 1) = 0 ∧ mI R 85 (ix (mI R 39 70) - 1) = -1 ∧ ∀ b, b < 60 → mI R 103 (60 * (ix (mI R 39 70) - 1) + b) = 0 ∧ mI R 104 (60 * (ix (mI R 39 70) - 1) + b) = 0) ∧
  (∀ s, s < ix (mI R 39 70) → (mI R 84 s = -1 ↔ (mI R 39 73 = 1 ∧ s + 1 = ix (mI R 39 70)))) ∧
  (∀ s c, s < 24 → c < ix (mI R 87 s) → (0 ≤ mI R 92 (60 * s + c) ∧ mI R 92 (60 * s + c) < mI R 39 9) ∧ (mI R 97 (60 * s + c) = 0 ∨ mI R 97 (60 * s + c) = 1) ∧ (1 ≤ mI R 93 (60 * s + c) ∧ mI R 93 (60 * s + c) ≤ 50) ∧ (1 ≤ mI R 94 (60 * s + c) ∧ mI R 94 (60 * s + c) ≤ 9999) ∧ (0 ≤ mI R 95 (60 * s + c) ∧ mI R 95 (60 * s + c) ≤ mI R 39 0)) ∧
  (∀ s b, s < 24 → b < ix (mI R 88 s) → (0 ≤ mI R 98 (60 * s + b) ∧ mI R 98 (60 * s + b) < mI R 39 9) ∧ (0 ≤ mI R 99 (60 * s + b) ∧ mI R 99 (60 * s + b) < mI R 39 9) ∧ (1 ≤ mI R 100 (60 * s + b) ∧ mI R 100 (60 * s + b) ≤ 50) ∧ (1 ≤ mI R 101 (60 * s + b) ∧ mI R 101 (60 * s + b) ≤ 9999) ∧ (0 ≤ mI R 102 (60 * s + b) ∧ mI R 102 (60 * s + b) ≤ mI R 39 0)) ∧
  (∀ x, x < 1440 → (0 ≤ mI R 103 x ∧ mI R 103 x ≤ 99) ∧ (0 ≤ mI R 104 x ∧ mI R 104 x ≤ 9999) ∧ (mI R 103 x = 0 → mI R 104 x = 0)) ∧
  (∀ x, x < 2880 → (0 ≤ mI R 107 x ∧ mI R 107 x ≤ 99) ∧ (0 ≤ mI R 108 x ∧ mI R 108 x ≤ 9999) ∧ (mI R 107 x = 0 → mI R 108 x = 0)) ∧
  (∀ s b, s < 24 → ix (mI R 88 s) ≤ b → b < 60 → mI R 103 (60 * s + b) = 0 ∧ mI R 104 (60 * s + b) = 0 ∧ mI R 105 (60 * s + b) = 0 ∧ mI R 107 (2 * (60 * s + b)) = 0 ∧ mI R 107 (2 * (60 * s + b) + 1) = 0)
/-- what stands of the session that is on -/
def Ison (R : Mm) : Prop := mI R 39 73 = 1 → 1 ≤ mI R 39 72 ∧ mI R 39 72 ≤ 99999 ∧ (∀ c, c < 60 → 0 ≤ mI R 109 c ∧ mI R 109 c ≤ 50) ∧ (∀ c, ix (mI R 87 (ix (mI R 39 70) - 1)) ≤ c → c < 60 → mI R 109 c = 0) ∧ (ix (mI R 88 (ix (mI R 39 70) - 1)) : Int) + sumTo (fun c => if mI R 109 c = 0 then 0 else 1) 60 ≤ ix (mI R 87 (ix (mI R 39 70) - 1))
def Son (ad : Nat → Nat → Nat) (C R : Mm) : Prop :=
  (∀ s, s < ix (mI R 39 70) → mI C (ad 10 s) 7 = if mI R 39 73 = 1 ∧ s + 1 = ix (mI R 39 70) then mI R 39 72 else 0) ∧
  (mI R 39 73 = 1 → ∀ c, c < 60 → mI C (ad 12 (ix (mI R 39 70) - 1)) c = mI R 109 c)
def Den (ad : Nat → Nat → Nat) (C R : Mm) : Prop := ∀ s b, s < ix (mI R 39 70) → b < ix (mI R 88 s) →
  (mI C (ad 15 (60 * s + b)) 9 = 0 ∨ mI C (ad 15 (60 * s + b)) 9 = 1) ∧ (mI C (ad 15 (60 * s + b)) 10 = 0 ∨ mI C (ad 15 (60 * s + b)) 10 = 1) ∧ mI R 105 (60 * s + b) = mI C (ad 15 (60 * s + b)) 9 + 2 * mI C (ad 15 (60 * s + b)) 10 ∧
  (mI R 105 (60 * s + b) ≠ 0 → mI R 106 (60 * s + b) = if mI C (ad 15 (60 * s + b)) 11 = 0 then 2 else 1)
def Evs (ad : Nat → Nat → Nat) (C R : Mm) : Prop := ∀ s, s < ix (mI R 39 70) →
  cc (mI R 96) (120 * s) (ix (mI R 90 s)) = ix (mI R 87 s) ∧
  (∀ j, j < ix (mI R 90 s) → (0 ≤ mI R 96 (120 * s + j) ∧ mI R 96 (120 * s + j) < 100 ∧ ix (mI R 96 (120 * s + j)) = cc (mI R 96) (120 * s) j) ∨ (∃ c, c < cc (mI R 96) (120 * s) j ∧ mI R 96 (120 * s + j) = Int32.ofNat (100 + c) ∧ mI C (ad 14 (60 * s + c)) 5 = Int32.ofNat (cc (mI R 96) (120 * s) j))) ∧
  (∀ c, c < ix (mI R 87 s) → mI C (ad 14 (60 * s + c)) 5 ≠ -1 → ∃ j, j < ix (mI R 90 s) ∧ mI R 96 (120 * s + j) = Int32.ofNat (100 + c)) ∧
  ((ix (mI R 90 s) : Int) = ix (mI R 87 s) + sumTo (fun c => if mI C (ad 14 (60 * s + c)) 5 = -1 then 0 else 1) (ix (mI R 87 s))) ∧
  (mI R 39 73 = 1 → s + 1 = ix (mI R 39 70) → ∀ c, c < ix (mI R 87 s) → mI C (ad 14 (60 * s + c)) 5 ≠ -1 → mI R 109 c = 0)
/-- the class's heap: nothing behind its end; its room after k calls -/
def Lv (k : Nat) (C : Mm) : Prop := 116 ≤ mZ C ∧ (∀ a, mZ C ≤ a → mK C a = (99, 0)) ∧ (∀ a j, mZ C ≤ a → mR C a j = none) ∧ mZ C ≤ 116 + 100 * k ∧ mS C ≤ 45818 + 2000 * k
def Rel (k : Nat) (ad : Nat → Nat → Nat) (C R : Mm) : Prop :=
  (SC C ∧ SR R ∧ Ad ad ∧ Lv k C) ∧ (Dt ad C R ∧ DL ad C R) ∧ (Isc R ∧ Ila R ∧ Ipe k R) ∧ ShP ad C R ∧ (ShS ad C R ∧ Ist R ∧ Qs ad C R) ∧ (ShE ad C R ∧ Ied R ∧ Eds ad C R) ∧ (ShN ad C R ∧ Ise R ∧ Ison R) ∧ Son ad C R ∧ Den ad C R ∧ Evs ad C R
