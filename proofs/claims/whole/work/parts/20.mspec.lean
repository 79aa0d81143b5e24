/-! the reference's methods, said as its code computes -/
def okM (mk : Nat → Int32) (mn : Nat → Nat) : Prop := (∀ i, i < 6 → mk i = nI (mn i)) ∧ mn 0 ≤ 6 ∧ mn 1 ≤ 8 ∧ mn 2 ≤ 40 ∧ mn 3 ≤ 60 ∧ mn 4 ≤ 200 ∧ mn 5 ≤ 200
def mW (mk : Nat → Int32) (mv : Ar) (w : Int32) : Bool := !decide (w < 0) && !decide (mk 2 ≤ w) && !decide (mv 8 w.toNatClampNeg = 0)
theorem mW_n {mk : Nat → Int32} {mv : Ar} {mn : Nat → Nat} {x : Int32} (hM : okM mk mn) (h : mW mk mv x = true) : ∃ j, j < mn 2 ∧ x = nI j := by
  simp only [mW, Bool.and_eq_true, Bool.not_eq_true', decide_eq_false_iff_not] at h
  have h2 := hM.2.2.2.1
  exact vp_in_of (ixW h.1.1 h.1.2 (hM.1 2 (by decide)) (Nat.le_refl _) (by omega)) (by omega)
def inB (v a b : Int64) : Bool := !decide (lg_cmp v a < 0) && !decide (0 < lg_cmp v b)
def ipB (x y : Int64) : Bool := inB x (-1000) 1000 && inB y (-1000) 1000
def siI (x : Int32) : Int32 := if 0 ≤ x then x else -x
def leM (mv : Ar) (w : Nat) : Int32 := siI (mv 6 w - mv 4 w) + siI (mv 7 w - mv 5 w)
def jnB (mv : Ar) (w : Nat) (x y : Int32) (i : Nat) : Bool := !decide (mv 8 i = 0) && decide (mv 2 i = mv 2 w) && (alX mv i != alX mv w) && enB mv i x y
def joM (mv : Ar) (mn : Nat → Nat) (w : Nat) (x y : Int32) : Int32 := gaC mv w (oI (fstN (jnB mv w x y) (mn 2)))
def neM (mv : Ar) (mn : Nat → Nat) (w : Nat) : Int32 := leM mv w + joM mv mn w (mv 4 w) (mv 5 w) + joM mv mn w (mv 6 w) (mv 7 w)
def asM (mv : Ar) (w : Nat) (h z : Int64) : Nat → Int64
  | 0 => z
  | i + 1 => if mv 9 i = nI w then asM mv w h z i - (mv 11 i).toInt64 * (if 0 ≤ lg_cmp h 200 then 200 else h) else asM mv w h z i
theorem asM_t {mv : Ar} {w i : Nat} {h z : Int64} (e : mv 9 i = nI w) : asM mv w h z i - (mv 11 i).toInt64 * (if 0 ≤ lg_cmp h 200 then 200 else h) = asM mv w h z (i + 1) := by rw [asM, if_pos e]
theorem asM_f {mv : Ar} {w i : Nat} {h z : Int64} (e : ¬ mv 9 i = nI w) : asM mv w h z i = asM mv w h z (i + 1) := by rw [asM, if_neg e]
def arM (mk : Nat → Int32) (mv : Ar) (mn : Nat → Nat) (w : Nat) : Int64 := asM mv w (heC mk mv (mv 2 w).toNatClampNeg).toInt64 ((neM mv mn w).toInt64 * (heC mk mv (mv 2 w).toNatClampNeg).toInt64) (mn 3)
def hbB (mv : Ar) (w : Nat) (x y : Int32) : Bool :=
  if alX mv w = true then
    !decide (lg_cmp (y.toInt64 - (mv 5 w).toInt64) (-haC mv w).toInt64 < 0) && !decide (0 < lg_cmp (y.toInt64 - (mv 5 w).toInt64) (haC mv w).toInt64) &&
    !decide (x < (if mv 6 w ≤ mv 4 w then mv 6 w else mv 4 w)) && !decide ((if mv 6 w ≤ mv 4 w then mv 4 w else mv 6 w) < x)
  else
    !decide (lg_cmp (x.toInt64 - (mv 4 w).toInt64) (-haC mv w).toInt64 < 0) && !decide (0 < lg_cmp (x.toInt64 - (mv 4 w).toInt64) (haC mv w).toInt64) &&
    !decide (y < (if mv 7 w ≤ mv 5 w then mv 7 w else mv 5 w)) && !decide ((if mv 7 w ≤ mv 5 w then mv 5 w else mv 7 w) < y)
def mkOf (mk : Nat → Int32) (n : Nat → Nat) : Nat → Int32 := fun i => if i < 4 then nI (n i) else mk i
theorem wM_of {ab : Nat → Nat} {cI cZ : ClassId} {mk mk' : Nat → Int32} {mv : Ar} (h : ∀ i, i < 7 → mk i = mk' i) : wM ab cI cZ mk mv = wM ab cI cZ mk' mv := by
  simp only [wM, h 0 (by decide), h 1 (by decide), h 2 (by decide), h 3 (by decide), h 4 (by decide), h 5 (by decide), h 6 (by decide)]
theorem lt7 {P : Nat → Prop} (h0 : P 0) (h1 : P 1) (h2 : P 2) (h3 : P 3) (h4 : P 4) (h5 : P 5) (h6 : P 6) : ∀ i, i < 7 → P i := by
  intro i hi
  match i, hi with
  | 0, _ => exact h0
  | 1, _ => exact h1
  | 2, _ => exact h2
  | 3, _ => exact h3
  | 4, _ => exact h4
  | 5, _ => exact h5
  | 6, _ => exact h6
  | i + 7, h => exact absurd h (by omega)
def adV (vv : Ar) (r : Nat) (a b c d e f : Int32) : Ar := u1 (u1 (u1 (u1 (u1 (u1 (u1 vv 2 r a) 3 r b) 4 r c) 5 r d) 6 r e) 7 r f) 8 r 1
def mvV (vv : Ar) (w : Nat) (x y : Int32) : Ar := u1 (u1 (u1 (u1 vv 4 w (vv 4 w + x)) 6 w (vv 6 w + x)) 5 w (vv 5 w + y)) 7 w (vv 7 w + y)
def lgV (vv : Ar) (d : Nat) (k a b c e f g : Int32) : Ar := u1 (u1 (u1 (u1 (u1 (u1 (u1 vv 12 (7 * d) k) 12 (7 * d + 1) a) 12 (7 * d + 2) b) 12 (7 * d + 3) c) 12 (7 * d + 4) e) 12 (7 * d + 5) f) 12 (7 * d + 6) g
def cpS (y : Int32) (i : Nat) (z : Ar × Nat × Nat) : Ar × Nat × Nat :=
  ((ocF (nI i) (nI z.2.1) z.2.2 (adV z.1 z.2.1 y (z.1 3 i) (z.1 4 i) (z.1 5 i) (z.1 6 i) (z.1 7 i), z.2.2)).1, z.2.1 + 1, (ocF (nI i) (nI z.2.1) z.2.2 (adV z.1 z.2.1 y (z.1 3 i) (z.1 4 i) (z.1 5 i) (z.1 6 i) (z.1 7 i), z.2.2)).2)
def thS (mv : Ar) (x : Int32) (i : Nat) : Bool := !decide (mv 8 i = 0) && decide (mv 2 i = x)
def cpF (x y : Int32) : Nat → Ar × Nat × Nat → Ar × Nat × Nat
  | 0, z => z
  | i + 1, z => if thS (cpF x y i z).1 x i = true then cpS y i (cpF x y i z) else cpF x y i z
theorem cpF_t {x y : Int32} {i : Nat} {z : Ar × Nat × Nat} (h : thS (cpF x y i z).1 x i = true) : cpF x y (i + 1) z = cpS y i (cpF x y i z) := by rw [cpF, if_pos h]
theorem cpF_f {x y : Int32} {i : Nat} {z : Ar × Nat × Nat} (h : thS (cpF x y i z).1 x i = false) : cpF x y (i + 1) z = cpF x y i z := by rw [cpF, if_neg (by rw [h]; decide)]
theorem gaC_some (mv : Ar) (w : Nat) {i : Nat} (hi : i < 2 ^ 31) : gaC mv w (oI (some i)) = if nI w ≤ nI i then haC mv i else -haC mv i := by
  have h1 : ¬ nI i = -1 := fun h => by
    have h2 := congrArg Int32.toInt h
    rw [nI_toInt hi] at h2
    have h9 : (-1 : Int32).toInt = -1 := rfl
    omega
  show gaC mv w (nI i) = _
  rw [gaC, if_neg h1, nI_clamp hi]
theorem gaC_none (mv : Ar) (w : Nat) : gaC mv w (oI none) = 0 := by
  show gaC mv w (-1) = _
  rw [gaC, if_pos rfl]
/-- one act of the log, done on counters n 0 .. 3 and rows v -/
def stD (lg : Nat → Int32) (k : Nat) (z : (Nat → Nat) × Ar) : (Nat → Nat) × Ar :=
  if lg (7 * k) = 0 then (va_up z.1 0 (z.1 0 + 1), u1 z.2 0 (z.1 0) (lg (7 * k + 1)))
  else if lg (7 * k) = 1 then (z.1, u1 z.2 0 (lg (7 * k + 1)).toNatClampNeg (lg (7 * k + 2)))
  else if lg (7 * k) = 2 then (va_up z.1 1 (z.1 1 + 1), u1 z.2 1 (z.1 1) (lg (7 * k + 1)))
  else if lg (7 * k) = 3 then (z.1, u1 z.2 1 (lg (7 * k + 1)).toNatClampNeg (lg (7 * k + 2)))
  else if lg (7 * k) = 4 then (va_up z.1 2 (z.1 2 + 1), adV z.2 (z.1 2) (lg (7 * k + 1)) (lg (7 * k + 2)) (lg (7 * k + 3)) (lg (7 * k + 4)) (lg (7 * k + 5)) (lg (7 * k + 6)))
  else if lg (7 * k) = 5 then (z.1, mvV z.2 (lg (7 * k + 1)).toNatClampNeg (lg (7 * k + 2)) (lg (7 * k + 3)))
  else if lg (7 * k) = 6 then (z.1, u1 z.2 3 (lg (7 * k + 1)).toNatClampNeg (lg (7 * k + 2)))
  else if lg (7 * k) = 7 then (z.1, u1 z.2 8 (lg (7 * k + 1)).toNatClampNeg 0)
  else if lg (7 * k) = 8 then (va_up z.1 3 (z.1 3 + 1), owV z.2 (z.1 3) (lg (7 * k + 1)) (lg (7 * k + 2)) (lg (7 * k + 3)))
  else (va_up (va_up z.1 2 (cpF (lg (7 * k + 1)) (lg (7 * k + 2)) (z.1 2) (z.2, z.1 2, z.1 3)).2.1) 3 (cpF (lg (7 * k + 1)) (lg (7 * k + 2)) (z.1 2) (z.2, z.1 2, z.1 3)).2.2, (cpF (lg (7 * k + 1)) (lg (7 * k + 2)) (z.1 2) (z.2, z.1 2, z.1 3)).1)
/-- what that act answers -/
def stR (lg : Nat → Int32) (k : Nat) (z : (Nat → Nat) × Ar) : Int32 :=
  if lg (7 * k) = 0 then nI (z.1 0) else if lg (7 * k) = 2 then nI (z.1 1) else if lg (7 * k) = 4 then nI (z.1 2) else if lg (7 * k) = 8 then nI (z.1 3)
  else if lg (7 * k) = 9 then nI ((cpF (lg (7 * k + 1)) (lg (7 * k + 2)) (z.1 2) (z.2, z.1 2, z.1 3)).2.1 - z.1 2) else 0
def okD (lg : Nat → Int32) (k : Nat) (z : (Nat → Nat) × Ar) : Prop :=
  (lg (7 * k) = 0 ∧ z.1 0 < 6) ∨ (lg (7 * k) = 1 ∧ ∃ t, lg (7 * k + 1) = nI t ∧ t < 6) ∨ (lg (7 * k) = 2 ∧ z.1 1 < 8) ∨ (lg (7 * k) = 3 ∧ ∃ t, lg (7 * k + 1) = nI t ∧ t < 8) ∨ (lg (7 * k) = 4 ∧ z.1 2 < 40) ∨
  (lg (7 * k) = 5 ∧ ∃ t, lg (7 * k + 1) = nI t ∧ t < 40) ∨ (lg (7 * k) = 6 ∧ ∃ t, lg (7 * k + 1) = nI t ∧ t < 40) ∨ (lg (7 * k) = 7 ∧ ∃ t, lg (7 * k + 1) = nI t ∧ t < 40) ∨ (lg (7 * k) = 8 ∧ z.1 3 < 60) ∨
  (lg (7 * k) = 9 ∧ z.1 2 ≤ 40 ∧ z.1 3 ≤ 60 ∧ (∀ i, i < z.1 2 → thS (cpF (lg (7 * k + 1)) (lg (7 * k + 2)) i (z.2, z.1 2, z.1 3)).1 (lg (7 * k + 1)) i = true → (cpF (lg (7 * k + 1)) (lg (7 * k + 2)) i (z.2, z.1 2, z.1 3)).2.1 < 40) ∧
    ∀ i, i < z.1 2 → (cpF (lg (7 * k + 1)) (lg (7 * k + 2)) (i + 1) (z.2, z.1 2, z.1 3)).2.2 ≤ 60)
theorem cpF_mono1 (x y : Int32) (z : Ar × Nat × Nat) : ∀ i, z.2.1 ≤ (cpF x y i z).2.1 := by
  intro i
  induction i with
  | zero => exact Nat.le_refl _
  | succ i ih =>
    cases h : thS (cpF x y i z).1 x i with
    | true => rw [cpF_t h]; exact Nat.le_succ_of_le ih
    | false => rw [cpF_f h]; exact ih
def acK (mk : Nat → Int32) (mv : Ar) (n : Nat → Nat) (d : Nat) (k a b c e f g : Int32) : Nat → Int32 := mkOf (va_up (va_up mk 4 (nI (d + 1))) 5 0) (stD (lgV mv d k a b c e f g 12) d (n, lgV mv d k a b c e f g)).1
def acV (mv : Ar) (n : Nat → Nat) (d : Nat) (k a b c e f g : Int32) : Ar := (stD (lgV mv d k a b c e f g 12) d (n, lgV mv d k a b c e f g)).2
def acR (mv : Ar) (n : Nat → Nat) (d : Nat) (k a b c e f g : Int32) : Int32 := stR (lgV mv d k a b c e f g 12) d (n, lgV mv d k a b c e f g)
def maK (kc : Nat) (mk : Nat → Int32) (mv : Ar) (n : Nat → Nat) (k a b c e f g : Int32) : Nat → Int32 := if kc = 0 then acK (va_up mk 6 (nI kc)) mv n (n 4) k a b c e f g else va_up mk 6 (nI kc)
def maV (kc : Nat) (mv : Ar) (n : Nat → Nat) (k a b c e f g : Int32) : Ar := if kc = 0 then acV mv n (n 4) k a b c e f g else mv
def maR (kc : Nat) (mv : Ar) (n : Nat → Nat) (k a b c e f g : Int32) : Int32 := if kc = 0 then acR mv n (n 4) k a b c e f g else 0
theorem kAct_lt {a b : Bool} {d : Nat} (h : kAct a b d = 0) : d < 200 := by
  unfold kAct at h
  split at h
  · cases h
  · split at h
    · cases h
    · split at h
      · cases h
      · omega
theorem va6 {mk : Nat → Int32} {c : Int32} {i : Nat} (h : i < 6) : va_up mk 6 c i = mk i := by simp only [va_up]; rw [if_neg (show ¬ i = 6 by omega)]
theorem okM_6 {mk : Nat → Int32} {mn : Nat → Nat} {c : Int32} (h : okM mk mn) : okM (va_up mk 6 c) mn := ⟨fun i hi => (va6 hi).trans (h.1 i hi), h.2⟩
def rsB (mk : Nat → Int32) (mv : Ar) (mn : Nat → Nat) (x : Int32) : Bool := inB x.toInt64 (-1000) 10000 && (decide (mn 0 = 0) || !decide (x ≤ mv 0 (mn 0 - 1)))
def rlB (mk : Nat → Int32) (mv : Ar) (x y : Int32) : Bool := haB (mk 0) x && inB y.toInt64 (-1000) 10000 && bnB mk mv x.toNatClampNeg y
def rmB (mk : Nat → Int32) (mv : Ar) (x y z : Int32) : Bool := mW mk mv x && ipB ((mv 4 x.toNatClampNeg).toInt64 + y.toInt64) ((mv 5 x.toNatClampNeg).toInt64 + z.toInt64) && ipB ((mv 6 x.toNatClampNeg).toInt64 + y.toInt64) ((mv 7 x.toNatClampNeg).toInt64 + z.toInt64)
def rwB (mk : Nat → Int32) (x1 x2 x3 x4 x5 x6 : Int32) : Bool := haB (mk 0) x1 && haB (mk 1) x2 && ipB x3.toInt64 x4.toInt64 && ipB x5.toInt64 x6.toInt64 && (decide (x3 = x5) != decide (x4 = x6))
def roB (mk : Nat → Int32) (mv : Ar) (x y z : Int32) : Bool := mW mk mv x && !decide (y < 0) && !decide (z < 1) && !decide (0 < lg_cmp (y.toInt64 + z.toInt64) (leM mv x.toNatClampNeg).toInt64)
def frB (mv : Ar) (mn : Nat → Nat) (x y z : Int32) : Nat → Bool
  | 0 => decide (mn 3 < 60)
  | i + 1 => frB mv mn x y z i && (!decide (mv 9 i = x) || decide (mv 10 i + mv 11 i ≤ y) || !decide (mv 10 i < y + z))
def suN (p : Nat → Bool) (f : Nat → Nat) : Nat → Nat
  | 0 => 0
  | n + 1 => if p n = true then suN p f n + f n else suN p f n
theorem suN_t {p : Nat → Bool} {f : Nat → Nat} {n : Nat} (h : p n = true) : suN p f n + f n = suN p f (n + 1) := by simp [suN, h]
theorem suN_f {p : Nat → Bool} {f : Nat → Nat} {n : Nat} (h : p n = false) : suN p f n = suN p f (n + 1) := by simp [suN, h]
theorem suN_le {p : Nat → Bool} {f : Nat → Nat} {B : Nat} (hf : ∀ i, f i ≤ B) : ∀ n, suN p f n ≤ n * B := by
  intro n
  induction n with
  | zero => simp [suN]
  | succ n ih =>
    have := hf n
    rw [Nat.succ_mul]
    simp only [suN]; split <;> omega
def rcB (mk : Nat → Int32) (x y : Int32) : Bool := haB (mk 0) x && haB (mk 0) y && !decide (x = y)
def cwN (mk : Nat → Int32) (mv : Ar) (mn : Nat → Nat) (x y : Int32) (n : Nat) : Nat := cnt (fun i => rcB mk x y && thS mv x i) n
def coN (mk : Nat → Int32) (mv : Ar) (mn : Nat → Nat) (x y : Int32) (n : Nat) : Nat := suN (fun i => rcB mk x y && thS mv x i) (fun i => cnt (fun k => decide (mv 9 k = nI i)) (mn 3)) n
def rpF (lg : Nat → Int32) : Nat → (Nat → Nat) × Ar → (Nat → Nat) × Ar
  | 0, z => z
  | k + 1, z => stD lg k (rpF lg k z)
theorem mkOf2 (mk : Nat → Int32) (n n' : Nat → Nat) : mkOf (mkOf mk n) n' = mkOf mk n' := by
  funext i; simp only [mkOf]; split <;> rfl
theorem inB_n {y : Int32} {n : Nat} (hn : n < 2 ^ 31) {b : Int64} (hb : b.toInt = n) (h : inB y.toInt64 0 b = true) : ∃ j, j ≤ n ∧ y = nI j := by
  simp only [inB, Bool.and_eq_true, Bool.not_eq_true', decide_eq_false_iff_not] at h
  have e0 : (0 : Int64).toInt = 0 := rfl
  have h1 : ¬ y.toInt64 < 0 := fun hc => h.1 (by simp only [lg_cmp]; split; · rename_i q; exact absurd (Int64.lt_iff_toInt_lt.mp q) (by have := Int64.lt_iff_toInt_lt.mp hc; omega)
                                                 split; · rename_i q; rw [q] at hc; exact absurd hc Int64.lt_irrefl
                                                 decide)
  have h2 : ¬ b < y.toInt64 := fun hc => h.2 (by simp only [lg_cmp]; rw [if_pos hc]; decide)
  rw [Int64.lt_iff_toInt_lt] at h1 h2
  rw [Int32.toInt_toInt64] at h1 h2
  rcases sw_in (x := y) hn with q | q | q
  · omega
  · omega
  · exact q
theorem kAct_f (s t : Bool) (d : Nat) : kAct false s d = kAct false t d := rfl
def tyS (mv : Ar) (x : Int32) (i : Nat) : Bool := !decide (mv 8 i = 0) && decide (mv 3 i = x)
def waM (mk : Nat → Int32) (mv : Ar) (mn : Nat → Nat) (w : Nat) (y : Int32) : Int64 :=
  if y = 0 then (mv 2 w).toInt64 else if y = 1 then (mv 3 w).toInt64 else if y = 2 then (mv 4 w).toInt64 else if y = 3 then (mv 5 w).toInt64 else if y = 4 then (mv 6 w).toInt64 else if y = 5 then (mv 7 w).toInt64
  else if y = 6 then (leM mv w).toInt64 else if y = 7 then (neM mv mn w).toInt64 else if y = 8 then arM mk mv mn w else (nI (cnt (fun i => decide (mv 9 i = nI w)) (mn 3))).toInt64
def roR (mk : Nat → Int32) (mv : Ar) (x y : Int32) : Bool := haB (mk 3) x && inB y.toInt64 0 2 && !decide (mv 8 (mv 9 x.toNatClampNeg).toNatClampNeg = 0)
def saM (mk : Nat → Int32) (mv : Ar) (mn : Nat → Nat) (x y : Int32) : Int64 :=
  if y = 0 then (mv 0 x.toNatClampNeg).toInt64 else if y = 1 then (heC mk mv x.toNatClampNeg).toInt64 else if y = 2 then lN (cnt (thS mv x) (mn 2)) else sumL (thS mv x) (arM mk mv mn) (mn 2)
def taM (mv : Ar) (mn : Nat → Nat) (x y : Int32) : Int64 :=
  if y = 0 then (mv 1 x.toNatClampNeg).toInt64 else if y = 1 then lN (cnt (tyS mv x) (mn 2)) else sumL (tyS mv x) (fun i => (neM mv mn i).toInt64) (mn 2)
def bdM (mv : Ar) (x y z : Int32) (i : Nat) : Bool := thS mv x i && hbB mv i y z
