/-! what the public methods refuse, and what acts leave -/
def thB (x : Int32) : Bool := !decide (x < 2) && !decide (100 < x) && decide (x - x / 2 * 2 = 0)
def plB (x y : Int64) : Bool := !decide (lg_cmp x (-1000) < 0) && !decide (0 < lg_cmp x 1000) && !decide (lg_cmp y (-1000) < 0) && decide (lg_cmp y 1000 ≤ 0)
def lvB (kn : Nat → Int32) (vv : Ar) (k : Nat) (x : Int32) : Bool := !decide (x < -1000) && decide (x ≤ 10000) && bnB kn vv k x
def kAct (right state : Bool) (d : Nat) : Nat := if right = false then 1 else if state = false then 2 else if 200 ≤ d then 2 else 0
def kTell (right : Bool) : Nat := if right = false then 1 else 0
def pfK (kn : Nat → Int32) (vv : Ar) (d : Nat) (x y z u : Int32) : Nat → Int32 := va_up (stK (va_up kn 5 (nI d + 1)) (hwV vv d x y z u) d 1) 4 (stK (va_up kn 5 (nI d + 1)) (hwV vv d x y z u) d 1 4 + 1)
def pfV (vv : Ar) (d : Nat) (x y z u : Int32) : Ar := stV (hwV vv d x y z u) d 1
theorem okA_0 {vv : Ar} {d : Nat} {x y z u : Int32} (h : x = 0 ∨ x = 1 ∨ x = 2) : okA (hwV vv d x y z u) d := by
  have e : hwV vv d x y z u 12 d = x := by simp [hwV, u1, va_up, upd]
  rcases h with h | h | h
  · exact Or.inl (e.trans h)
  · exact Or.inr (Or.inl (e.trans h))
  · exact Or.inr (Or.inr (Or.inl (e.trans h)))
theorem okA_1 {vv : Ar} {d : Nat} {x z u : Int32} {t : Nat} (h : (x = 3 ∧ t < 6) ∨ (x = 4 ∧ t < 8) ∨ (x = 5 ∧ t < 40) ∨ (x = 6 ∧ t < 40) ∨ (x = 7 ∧ t < 40)) : okA (hwV vv d x (nI t) z u) d := by
  have e : hwV vv d x (nI t) z u 12 d = x := by simp [hwV, u1, va_up, upd]
  have e2 : hwV vv d x (nI t) z u 13 d = nI t := by simp [hwV, u1, va_up, upd]
  refine Or.inr (Or.inr (Or.inr ⟨t, e2, ?_⟩))
  rw [e]; exact h
theorem haB_n {k x : Int32} {n : Nat} (e : k = nI n) (hn : n < 2 ^ 31) (h : haB k x = true) : ∃ j, j < n ∧ x = nI j := by
  simp only [haB, Bool.and_eq_true, Bool.not_eq_true', decide_eq_false_iff_not] at h
  have h1 : vp_in x n := ixW h.1 h.2 e (Nat.le_refl _) hn
  exact vp_in_of h1 hn
theorem tW_n {kn : Nat → Int32} {vv : Ar} {nn : Nat → Nat} {x : Int32} (hI : okC kn nn) (h : tW kn vv x = true) : ∃ j, j < nn 2 ∧ x = nI j := by
  simp only [tW, Bool.and_eq_true, Bool.not_eq_true', decide_eq_false_iff_not] at h
  have h2 := hI.2.2.2.1
  exact vp_in_of (ixW h.1.1 h.1.2 (hI.1 2 (by decide)) (Nat.le_refl _) (by omega)) (by omega)
theorem sw_in {x : Int32} {n : Nat} (hn : n < 2 ^ 31) : x.toInt < 0 ∨ (n : Int) < x.toInt ∨ ∃ j, j ≤ n ∧ x = nI j := by
  by_cases h0 : x.toInt < 0
  · exact Or.inl h0
  · by_cases h1 : (n : Int) < x.toInt
    · exact Or.inr (Or.inl h1)
    · refine Or.inr (Or.inr ⟨x.toInt.toNat, by omega, ?_⟩)
      apply Int32.toInt_inj.mp
      rw [nI_toInt (by omega)]; omega
theorem sw_no {x : Int32} {n : Nat} (hn : n < 2 ^ 31) (h : x.toInt < 0 ∨ (n : Int) < x.toInt) {k : Nat} (hk : k ≤ n) : ¬ x = nI k := by
  intro e
  rw [e, nI_toInt (by omega)] at h
  omega
def swB (x : Int32) (n : Nat) : Bool := decide (0 ≤ x.toInt) && decide (x.toInt ≤ n)
theorem swB_no {x : Int32} {n : Nat} (h : ∀ k, k ≤ n → ¬ x = nI k) (hn : n < 2 ^ 31 := by decide) : swB x n = false := by
  rcases sw_in (x := x) hn with h1 | h1 | ⟨j, hj, e⟩
  · simp [swB]; intro h2; omega
  · simp [swB]; intro h2; omega
  · exact absurd e (h j hj)
theorem swB_in {x : Int32} {n k : Nat} (e : x = nI k) (hk : k ≤ n) (hn : n < 2 ^ 31 := by decide) : swB x n = true := by
  rw [e]
  simp only [swB, nI_toInt (show k < 2 ^ 31 by omega), Bool.and_eq_true, decide_eq_true_eq]
  omega
def waR (kn : Nat → Int32) (vv : Ar) (nn : Nat → Nat) (w : Nat) (y : Int32) : Int64 :=
  if y = 0 then (vv 2 w).toInt64 else if y = 1 then (vv 3 w).toInt64 else if y = 2 then (vv 4 w).toInt64 else if y = 3 then (vv 5 w).toInt64 else if y = 4 then (vv 6 w).toInt64 else if y = 5 then (vv 7 w).toInt64
  else if y = 6 then (leC vv w).toInt64 else if y = 7 then neC kn vv nn w else if y = 8 then arC kn vv nn w else (nI (cnt (fun i => decide (vv 9 i = nI w)) (nn 3))).toInt64
def opR (vv : Ar) (o : Nat) (y : Int32) : Int32 := if y = 0 then vv 9 o else if y = 1 then vv 10 o else vv 11 o
def srR (kn : Nat → Int32) (vv : Ar) (nn : Nat → Nat) (x y : Int32) : Int64 :=
  if y = 0 then (vv 0 x.toNatClampNeg).toInt64 else if y = 1 then (heC kn vv x.toNatClampNeg).toInt64 else if y = 2 then (nI (cnt (fun i => onB kn vv (nI i) x) (nn 2))).toInt64 else sumL (fun i => onB kn vv (nI i) x) (arC kn vv nn) (nn 2)
def tyR (kn : Nat → Int32) (vv : Ar) (nn : Nat → Nat) (x y : Int32) : Int64 :=
  if y = 0 then (vv 1 x.toNatClampNeg).toInt64 else if y = 1 then (nI (cnt (fun i => wiB kn vv (nI i) x) (nn 2))).toInt64 else sumL (fun i => wiB kn vv (nI i) x) (neC kn vv nn) (nn 2)
def bdB (kn : Nat → Int32) (vv : Ar) (x y z : Int32) (i : Nat) : Bool := onB kn vv (nI i) x && coB vv i y z
def kth (p : Nat → Bool) (q n : Nat) : Option Nat := fstN (fun i => p i && decide (cnt p i = q)) n
