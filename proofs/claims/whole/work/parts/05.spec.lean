/-! what the class's reading methods answer, said as the code computes it -/
def noT : Nat → Prop := fun _ => True
def cnt (p : Nat → Bool) : Nat → Nat
  | 0 => 0
  | n + 1 => cnt p n + (if p n = true then 1 else 0)
theorem cnt_t {p : Nat → Bool} {n : Nat} (h : p n = true) : cnt p n + 1 = cnt p (n + 1) := by simp [cnt, h]
theorem cnt_f {p : Nat → Bool} {n : Nat} (h : p n = false) : cnt p n = cnt p (n + 1) := by simp [cnt, h]
theorem cnt_le (p : Nat → Bool) (n : Nat) : cnt p n ≤ n := by
  induction n with
  | zero => simp [cnt]
  | succ n ih => simp only [cnt]; split <;> omega
theorem cnt_congr {p q : Nat → Bool} {n : Nat} (h : ∀ i, i < n → p i = q i) : cnt p n = cnt q n := by
  induction n with
  | zero => rfl
  | succ n ih => simp only [cnt]; rw [ih (fun i hi => h i (by omega)), h n (by omega)]
def fstN (p : Nat → Bool) : Nat → Option Nat
  | 0 => none
  | n + 1 => match fstN p n with
    | some j => some j
    | none => if p n = true then some n else none
theorem fstN_none {p : Nat → Bool} {n : Nat} (h : fstN p n = none) (hp : p n = false) : fstN p (n + 1) = none := by simp [fstN, h, hp]
theorem fstN_some {p : Nat → Bool} {i : Nat} (h : fstN p i = none) (hp : p i = true) : ∀ n, i < n → fstN p n = some i := by
  intro n
  induction n with
  | zero => intro hi; omega
  | succ n ih =>
    intro hi
    by_cases hn : i = n
    · subst hn; simp [fstN, h, hp]
    · simp [fstN, ih (by omega)]
theorem fstN_congr {p q : Nat → Bool} {n : Nat} (h : ∀ i, i < n → p i = q i) : fstN p n = fstN q n := by
  induction n with
  | zero => rfl
  | succ n ih => simp only [fstN]; rw [ih (fun i hi => h i (by omega)), h n (by omega)]
theorem fstN_spec {p : Nat → Bool} {n j : Nat} (h : fstN p n = some j) : j < n ∧ p j = true := by
  induction n with
  | zero => simp [fstN] at h
  | succ n ih =>
    simp only [fstN] at h
    cases hq : fstN p n with
    | some k => rw [hq] at h; cases h; have := ih hq; exact ⟨by omega, this.2⟩
    | none =>
      rw [hq] at h
      by_cases hp : p n = true
      · simp [hp] at h; subst h; exact ⟨by omega, hp⟩
      · simp [hp] at h
def oI (o : Option Nat) : Int32 := match o with
  | none => -1
  | some j => nI j
def sumL (p : Nat → Bool) (f : Nat → Int64) : Nat → Int64
  | 0 => 0
  | n + 1 => if p n = true then sumL p f n + f n else sumL p f n
theorem sumL_t {p : Nat → Bool} {f : Nat → Int64} {n : Nat} (h : p n = true) : sumL p f n + f n = sumL p f (n + 1) := by simp [sumL, h]
theorem sumL_f {p : Nat → Bool} {f : Nat → Int64} {n : Nat} (h : p n = false) : sumL p f n = sumL p f (n + 1) := by simp [sumL, h]
theorem sumL_congr {p q : Nat → Bool} {f g : Nat → Int64} {n : Nat} (h : ∀ i, i < n → p i = q i) (hf : ∀ i, i < n → p i = true → f i = g i) : sumL p f n = sumL q g n := by
  induction n with
  | zero => rfl
  | succ n ih =>
    simp only [sumL]
    rw [ih (fun i hi => h i (by omega)) (fun i hi => hf i (by omega)), ← h n (by omega)]
    by_cases hp : p n = true
    · rw [if_pos hp, if_pos hp, hf n (by omega) hp]
    · rw [if_neg hp, if_neg hp]
def sumI (p : Nat → Bool) (f : Nat → Int32) : Nat → Int32
  | 0 => 0
  | n + 1 => if p n = true then sumI p f n + f n else sumI p f n
theorem sumI_t {p : Nat → Bool} {f : Nat → Int32} {n : Nat} (h : p n = true) : sumI p f n + f n = sumI p f (n + 1) := by simp [sumI, h]
theorem sumI_f {p : Nat → Bool} {f : Nat → Int32} {n : Nat} (h : p n = false) : sumI p f n = sumI p f (n + 1) := by simp [sumI, h]
theorem sumI_congr {p q : Nat → Bool} {f g : Nat → Int32} {n : Nat} (h : ∀ i, i < n → p i = q i) (hf : ∀ i, i < n → p i = true → f i = g i) : sumI p f n = sumI q g n := by
  induction n with
  | zero => rfl
  | succ n ih =>
    simp only [sumI]
    rw [ih (fun i hi => h i (by omega)) (fun i hi => hf i (by omega)), ← h n (by omega)]
    by_cases hp : p n = true
    · rw [if_pos hp, if_pos hp, hf n (by omega) hp]
    · rw [if_neg hp, if_neg hp]
def okC (kn : Nat → Int32) (nn : Nat → Nat) : Prop := (∀ i, i < 6 → kn i = nI (nn i)) ∧ nn 0 ≤ 6 ∧ nn 1 ≤ 8 ∧ nn 2 ≤ 40 ∧ nn 3 ≤ 60 ∧ nn 4 ≤ nn 5 ∧ nn 5 ≤ 200
theorem ixW {w k : Int32} {n N : Nat} (h0 : ¬ w < 0) (h1 : ¬ k ≤ w) (ek : k = nI n) (hn : n ≤ N) (hN : N < 2 ^ 31) : vp_in w N := by
  rw [vp_in_iff]
  rw [Int32.lt_iff_toInt_lt] at h0
  rw [ek, Int32.le_iff_toInt_le, nI_toInt (by omega)] at h1
  have : (0 : Int32).toInt = 0 := rfl
  omega
theorem ltC {k : Int32} {n i : Nat} (e : k = nI n) (h : ¬ k ≤ nI i) (hi : i < 2 ^ 31) (hn : n < 2 ^ 31) : i < n := by
  rcases Nat.lt_or_ge i n with q | q
  · exact q
  · exact absurd (by rw [e]; exact nI_le q hi) h
theorem geC {k : Int32} {n i : Nat} (e : k = nI n) (h : k ≤ nI i) (hi : i < 2 ^ 31) (hn : n < 2 ^ 31) : n ≤ i := by
  rcases Nat.lt_or_ge i n with q | q
  · exact absurd (by rw [← e]; exact h) (nI_ge q hn)
  · exact q
def tW (kn : Nat → Int32) (vv : Nat → Nat → Int32) (w : Int32) : Bool := !decide (w < 0) && !decide (kn 2 ≤ w) && decide (vv 8 w.toNatClampNeg = 0)
def onB (kn : Nat → Int32) (vv : Nat → Nat → Int32) (w x : Int32) : Bool := tW kn vv w && decide (vv 2 w.toNatClampNeg = x)
def wiB (kn : Nat → Int32) (vv : Nat → Nat → Int32) (w x : Int32) : Bool := tW kn vv w && decide (vv 3 w.toNatClampNeg = x)
theorem tW_in {kn : Nat → Int32} {vv : Nat → Nat → Int32} {nn : Nat → Nat} {w : Int32} (hI : okC kn nn) (h : tW kn vv w = true) : vp_in w 40 := by
  simp only [tW, Bool.and_eq_true, Bool.not_eq_true', decide_eq_false_iff_not] at h
  exact ixW h.1.1 h.1.2 (hI.1 2 (by decide)) hI.2.2.2.1 (by decide)
def alX (vv : Nat → Nat → Int32) (w : Nat) : Bool := decide (vv 5 w = vv 7 w)
def enB (vv : Nat → Nat → Int32) (w : Nat) (x y : Int32) : Bool := (decide (vv 4 w = x) && decide (vv 5 w = y)) || (decide (vv 6 w = x) && decide (vv 7 w = y))
def abI (x : Int32) : Int32 := if 0 ≤ x then x else 0 - x
def leC (vv : Nat → Nat → Int32) (w : Nat) : Int32 := abI (vv 6 w - vv 4 w) + abI (vv 7 w - vv 5 w)
def acB (kn : Nat → Int32) (vv : Nat → Nat → Int32) (w : Nat) (x y : Int32) (i : Nat) : Bool := onB kn vv (nI i) (vv 2 w) && (alX vv i != alX vv w) && enB vv i x y
def okV (nn : Nat → Nat) (vv : Nat → Nat → Int32) : Prop := (∀ w, w < nn 2 → ∃ k, k < nn 0 ∧ vv 2 w = nI k) ∧ (∀ w, w < nn 2 → ∃ k, k < nn 1 ∧ vv 3 w = nI k)
def haB (k x : Int32) : Bool := !decide (x < 0) && !decide (k ≤ x)
def haC (vv : Nat → Nat → Int32) (w : Nat) : Int32 := vv 1 (vv 3 w).toNatClampNeg / 2
def gaC (vv : Nat → Nat → Int32) (w : Nat) (x : Int32) : Int32 := if x = -1 then 0 else if nI w ≤ x then haC vv x.toNatClampNeg else -haC vv x.toNatClampNeg
def lsC (kn : Nat → Int32) (vv : Nat → Nat → Int32) (nn : Nat → Nat) (w : Nat) (x y : Int32) : Int32 := oI (fstN (acB kn vv w x y) (nn 2))
theorem oI_or (p : Nat → Bool) (n : Nat) : oI (fstN p n) = -1 ∨ ∃ j, j < n ∧ oI (fstN p n) = nI j := by
  cases h : fstN p n with
  | none => exact Or.inl rfl
  | some j => exact Or.inr ⟨j, (fstN_spec h).1, rfl⟩
def neC (kn : Nat → Int32) (vv : Nat → Nat → Int32) (nn : Nat → Nat) (w : Nat) : Int64 := (leC vv w).toInt64 + (gaC vv w (lsC kn vv nn w (vv 4 w) (vv 5 w))).toInt64 + (gaC vv w (lsC kn vv nn w (vv 6 w) (vv 7 w))).toInt64
def heC (kn : Nat → Int32) (vv : Nat → Nat → Int32) (x : Nat) : Int32 := if kn 0 ≤ nI (x + 1) then 300 else vv 0 (x + 1) - vv 0 x
def wdC (vv : Nat → Nat → Int32) (nn : Nat → Nat) (x : Int32) : Int32 := sumI (fun i => decide (vv 9 i = x)) (vv 11) (nn 3)
def miI (a b : Int32) : Int32 := if b < a then b else a
def maI (a b : Int32) : Int32 := if a < b then b else a
def arC (kn : Nat → Int32) (vv : Nat → Nat → Int32) (nn : Nat → Nat) (w : Nat) : Int64 := neC kn vv nn w * (heC kn vv (vv 2 w).toNatClampNeg).toInt64 - (wdC vv nn (nI w)).toInt64 * (miI (heC kn vv (vv 2 w).toNatClampNeg) 200).toInt64
def ovB (vv : Nat → Nat → Int32) (x a b : Int32) (i : Nat) : Bool := decide (vv 9 i = x) && !decide (a + b ≤ vv 10 i) && !decide (vv 10 i + vv 11 i ≤ a)
def coB (vv : Nat → Nat → Int32) (w : Nat) (x y : Int32) : Bool :=
  !decide (x < miI (vv 4 w) (vv 6 w) - (if alX vv w = true then 0 else haC vv w)) && !decide (maI (vv 4 w) (vv 6 w) + (if alX vv w = true then 0 else haC vv w) < x) &&
  !decide (y < miI (vv 5 w) (vv 7 w) - (if alX vv w = true then haC vv w else 0)) && !decide (maI (vv 5 w) (vv 7 w) + (if alX vv w = true then haC vv w else 0) < y)
def bnB (kn : Nat → Int32) (vv : Nat → Nat → Int32) (k : Nat) (x : Int32) : Bool := (decide (k = 0) || !decide (x ≤ vv 0 (k - 1))) && (decide (kn 0 ≤ nI (k + 1)) || !decide (vv 0 (k + 1) ≤ x))
theorem ixT {vv : Nat → Nat → Int32} {nn : Nat → Nat} {w : Nat} (hV : okV nn vv) (h1 : nn 1 ≤ 8) (hw : w < nn 2) : vp_in (vv 3 w) 8 := by
  obtain ⟨k, hk, e⟩ := hV.2 w hw
  rw [e]; exact vp_in_nI (by omega) (by decide)
/-! what the class's writing methods do, said as the code does it -/
abbrev Ar : Type := Nat → Nat → Int32
def u1 (vv : Ar) (j i : Nat) (x : Int32) : Ar := va_up vv j (upd (vv j) i x)
def shV (vv : Ar) (w : Nat) (x y : Int32) : Ar := u1 (u1 (u1 (u1 vv 4 w (vv 4 w + x)) 5 w (vv 5 w + y)) 6 w (vv 6 w + x)) 7 w (vv 7 w + y)
def nwV (vv : Ar) (r : Nat) (a b c d e f : Int32) : Ar := u1 (u1 (u1 (u1 (u1 (u1 (u1 vv 2 r a) 3 r b) 4 r c) 5 r d) 6 r e) 7 r f) 8 r 0
def owV (vv : Ar) (r : Nat) (a b c : Int32) : Ar := u1 (u1 (u1 vv 9 r a) 10 r b) 11 r c
def hwV (vv : Ar) (r : Nat) (a b c d : Int32) : Ar := u1 (u1 (u1 (u1 vv 12 r a) 13 r b) 14 r c) 15 r d
def ocF (x y : Int32) : Nat → Ar × Nat → Ar × Nat
  | 0, z => z
  | i + 1, z => if (ocF x y i z).1 9 i = x then (owV (ocF x y i z).1 (ocF x y i z).2 y ((ocF x y i z).1 10 i) ((ocF x y i z).1 11 i), (ocF x y i z).2 + 1) else ocF x y i z
theorem ocF_t {x y : Int32} {i : Nat} {z : Ar × Nat} (h : (ocF x y i z).1 9 i = x) : ocF x y (i + 1) z = (owV (ocF x y i z).1 (ocF x y i z).2 y ((ocF x y i z).1 10 i) ((ocF x y i z).1 11 i), (ocF x y i z).2 + 1) := by rw [ocF, if_pos h]
theorem ocF_f {x y : Int32} {i : Nat} {z : Ar × Nat} (h : ¬ (ocF x y i z).1 9 i = x) : ocF x y (i + 1) z = ocF x y i z := by rw [ocF, if_neg h]
theorem ocF_mono (x y : Int32) (z : Ar × Nat) : ∀ (i k : Nat), (ocF x y i z).2 ≤ (ocF x y (i + k) z).2 := by
  intro i k
  induction k with
  | zero => exact Nat.le_refl _
  | succ k ih =>
    refine Nat.le_trans ih ?_
    by_cases h : (ocF x y (i + k) z).1 9 (i + k) = x
    · rw [← Nat.add_assoc, ocF_t h]; exact Nat.le_succ _
    · rw [← Nat.add_assoc, ocF_f h]; exact Nat.le_refl _
def wcS (n3 : Nat) (y : Int32) (i : Nat) (z : Ar × Nat × Nat) : Ar × Nat × Nat :=
  ((ocF (nI i) (nI z.2.1) n3 (nwV z.1 z.2.1 y (z.1 3 i) (z.1 4 i) (z.1 5 i) (z.1 6 i) (z.1 7 i), z.2.2)).1, z.2.1 + 1, (ocF (nI i) (nI z.2.1) n3 (nwV z.1 z.2.1 y (z.1 3 i) (z.1 4 i) (z.1 5 i) (z.1 6 i) (z.1 7 i), z.2.2)).2)
def wcF (kn : Nat → Int32) (n3 : Nat) (x y : Int32) : Nat → Ar × Nat × Nat → Ar × Nat × Nat
  | 0, z => z
  | i + 1, z => if onB kn (wcF kn n3 x y i z).1 (nI i) x = true then wcS n3 y i (wcF kn n3 x y i z) else wcF kn n3 x y i z
def exV (vv : Ar) (k : Int32) (t : Nat) (x : Int32) : Ar := if k = 3 then u1 vv 0 t x else if k = 4 then u1 vv 1 t x else u1 vv 3 t x
def exR (vv : Ar) (k : Int32) (t : Nat) : Int32 := if k = 3 then vv 0 t else if k = 4 then vv 1 t else vv 3 t
