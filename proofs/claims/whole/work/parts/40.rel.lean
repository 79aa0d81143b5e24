/-! how the class and the reference stand to each other -/
def ow (j : Nat) : Nat := if j = 0 then 0 else if j = 1 then 1 else if j ≤ 8 then 2 else 3
def SN (n : Nat → Nat) (j r : Nat) : Prop := j < 12 ∧ r < n (ow j)
/-- the rows that S names are the same -/
def AS (S : Nat → Nat → Prop) (v v' : Ar) : Prop := ∀ j r, S j r → v j r = v' j r
/-- the class's rows with 'gone' turned to 'there' -/
def trV (vv : Ar) : Ar := fun j r => if j = 8 then 1 - vv 8 r else vv j r
/-- the drawing after the first k acts of the log -/
def Dk (lg : Nat → Int32) (k : Nat) : (Nat → Nat) × Ar := rpF lg k (fun _ => 0, fun _ _ => 0)
def inZ (x : Int32) (a b : Int) : Prop := a ≤ x.toInt ∧ x.toInt ≤ b
def inv (z : (Nat → Nat) × Ar) : Prop :=
  (z.1 0 ≤ 6 ∧ z.1 1 ≤ 8 ∧ z.1 2 ≤ 40 ∧ z.1 3 ≤ 60) ∧
  (∀ w, w < z.1 2 → (∃ k, k < z.1 0 ∧ z.2 2 w = nI k) ∧ (∃ k, k < z.1 1 ∧ z.2 3 w = nI k) ∧ inZ (z.2 4 w) (-1000) 1000 ∧ inZ (z.2 5 w) (-1000) 1000 ∧ inZ (z.2 6 w) (-1000) 1000 ∧ inZ (z.2 7 w) (-1000) 1000 ∧ (¬ (z.2 4 w = z.2 6 w ↔ z.2 5 w = z.2 7 w)) ∧ (z.2 8 w = 0 ∨ z.2 8 w = 1)) ∧
  (∀ k, k < z.1 1 → inZ (z.2 1 k) 2 100) ∧ (∀ k, k < z.1 0 → inZ (z.2 0 k) (-1000) 10000) ∧
  (∀ o, o < z.1 3 → (∃ w, w < z.1 2 ∧ z.2 9 o = nI w) ∧ inZ (z.2 10 o) 0 2000 ∧ inZ (z.2 11 o) 1 2000)
/-- an act of the log that is right on the drawing z -/
def vA (lg : Nat → Int32) (k : Nat) (z : (Nat → Nat) × Ar) : Prop :=
  (lg (7 * k) = 0 ∧ z.1 0 < 6 ∧ inZ (lg (7 * k + 1)) (-1000) 10000) ∨
  (lg (7 * k) = 1 ∧ (∃ t, lg (7 * k + 1) = nI t ∧ t < z.1 0) ∧ inZ (lg (7 * k + 2)) (-1000) 10000) ∨
  (lg (7 * k) = 2 ∧ z.1 1 < 8 ∧ inZ (lg (7 * k + 1)) 2 100) ∨
  (lg (7 * k) = 3 ∧ (∃ t, lg (7 * k + 1) = nI t ∧ t < z.1 1) ∧ inZ (lg (7 * k + 2)) 2 100) ∨
  (lg (7 * k) = 4 ∧ z.1 2 < 40 ∧ (∃ t, lg (7 * k + 1) = nI t ∧ t < z.1 0) ∧ (∃ t, lg (7 * k + 2) = nI t ∧ t < z.1 1) ∧ inZ (lg (7 * k + 3)) (-1000) 1000 ∧ inZ (lg (7 * k + 4)) (-1000) 1000 ∧ inZ (lg (7 * k + 5)) (-1000) 1000 ∧ inZ (lg (7 * k + 6)) (-1000) 1000 ∧ ¬ (lg (7 * k + 3) = lg (7 * k + 5) ↔ lg (7 * k + 4) = lg (7 * k + 6))) ∨
  (lg (7 * k) = 5 ∧ ∃ t, lg (7 * k + 1) = nI t ∧ t < z.1 2 ∧ inZ (z.2 4 t + lg (7 * k + 2)) (-1000) 1000 ∧ inZ (z.2 5 t + lg (7 * k + 3)) (-1000) 1000 ∧ inZ (z.2 6 t + lg (7 * k + 2)) (-1000) 1000 ∧ inZ (z.2 7 t + lg (7 * k + 3)) (-1000) 1000) ∨
  (lg (7 * k) = 6 ∧ (∃ t, lg (7 * k + 1) = nI t ∧ t < z.1 2) ∧ ∃ t, lg (7 * k + 2) = nI t ∧ t < z.1 1) ∨
  (lg (7 * k) = 7 ∧ ∃ t, lg (7 * k + 1) = nI t ∧ t < z.1 2 ∧ z.2 8 t = 1) ∨
  (lg (7 * k) = 8 ∧ z.1 3 < 60 ∧ (∃ t, lg (7 * k + 1) = nI t ∧ t < z.1 2) ∧ inZ (lg (7 * k + 2)) 0 2000 ∧ inZ (lg (7 * k + 3)) 1 2000) ∨
  (lg (7 * k) = 9 ∧ (∃ t, lg (7 * k + 1) = nI t ∧ t < z.1 0) ∧ (∃ t, lg (7 * k + 2) = nI t ∧ t < z.1 0) ∧ (cpF (lg (7 * k + 1)) (lg (7 * k + 2)) (z.1 2) (z.2, z.1 2, z.1 3)).2.1 ≤ 40 ∧ (cpF (lg (7 * k + 1)) (lg (7 * k + 2)) (z.1 2) (z.2, z.1 2, z.1 3)).2.2 ≤ 60)
/-- the class's entry of act k; dn: it is done -/
def mat (vv : Ar) (lg : Nat → Int32) (k : Nat) (dn : Bool) : Prop :=
  (lg (7 * k) = 0 ∧ vv 12 k = 0) ∨ (lg (7 * k) = 2 ∧ vv 12 k = 1) ∨
  ((lg (7 * k) = 4 ∨ lg (7 * k) = 8 ∨ lg (7 * k) = 9) ∧ vv 12 k = 2 ∧ vv 14 k = nI ((Dk lg (k + 1)).1 2 - (Dk lg k).1 2) ∧ vv 15 k = nI ((Dk lg (k + 1)).1 3 - (Dk lg k).1 3)) ∨
  (lg (7 * k) = 1 ∧ vv 12 k = 3 ∧ vv 13 k = lg (7 * k + 1) ∧ vv 14 k = if dn = true then (Dk lg k).2 0 (lg (7 * k + 1)).toNatClampNeg else lg (7 * k + 2)) ∨
  (lg (7 * k) = 3 ∧ vv 12 k = 4 ∧ vv 13 k = lg (7 * k + 1) ∧ vv 14 k = if dn = true then (Dk lg k).2 1 (lg (7 * k + 1)).toNatClampNeg else lg (7 * k + 2)) ∨
  (lg (7 * k) = 6 ∧ vv 12 k = 5 ∧ vv 13 k = lg (7 * k + 1) ∧ vv 14 k = if dn = true then (Dk lg k).2 3 (lg (7 * k + 1)).toNatClampNeg else lg (7 * k + 2)) ∨
  (lg (7 * k) = 5 ∧ vv 12 k = 6 ∧ vv 13 k = lg (7 * k + 1) ∧ vv 14 k = lg (7 * k + 2) ∧ vv 15 k = lg (7 * k + 3)) ∨
  (lg (7 * k) = 7 ∧ vv 12 k = 7 ∧ vv 13 k = lg (7 * k + 1))
def Rel (kn : Nat → Int32) (vv : Ar) (nn : Nat → Nat) (mk : Nat → Int32) (mv : Ar) (mn : Nat → Nat) : Prop :=
  okC kn nn ∧ okM mk mn ∧ (∀ i, i < 4 → nn i = mn i) ∧ nn 4 = mn 4 ∧ nn 5 = mn 4 + mn 5 ∧
  (∀ i, i < 4 → mn i = (Dk (mv 12) (mn 4)).1 i) ∧ AS (SN mn) mv (Dk (mv 12) (mn 4)).2 ∧ AS (SN nn) (trV vv) mv ∧
  (∀ k, k < nn 5 → vA (mv 12) k (Dk (mv 12) k)) ∧ (∀ k, k < nn 5 → mat vv (mv 12) k (decide (k < nn 4))) ∧
  (∀ k, nn 4 ≤ k → k < nn 5 → ∀ j r, j < 12 → (Dk (mv 12) k).1 (ow j) ≤ r → r < (Dk (mv 12) (k + 1)).1 (ow j) → trV vv j r = (Dk (mv 12) (k + 1)).2 j r)
