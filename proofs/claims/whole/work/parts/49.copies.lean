/-! pure: copies, counted and alike -/
theorem cnt_trim {p : Nat → Bool} {b : Nat} : ∀ m, (∀ k, b ≤ k → k < b + m → p k = false) → cnt p (b + m) = cnt p b := by
  intro m
  induction m with
  | zero => intro _; rfl
  | succ m ih =>
    intro h
    rw [← Nat.add_assoc, ← cnt_f (h (b + m) (by omega) (by omega))]
    exact ih (fun k h1 h2 => h k h1 (by omega))
theorem suN_congr {p q : Nat → Bool} {f g : Nat → Nat} : ∀ n, (∀ i, i < n → p i = q i) → (∀ i, i < n → f i = g i) → suN p f n = suN q g n := by
  intro n
  induction n with
  | zero => intro _ _; rfl
  | succ n ih =>
    intro h1 h2
    simp only [suN]
    rw [ih (fun i hi => h1 i (by omega)) (fun i hi => h2 i (by omega)), h1 n (by omega), h2 n (by omega)]
theorem suN_add (p : Nat → Bool) (f g : Nat → Nat) : ∀ n, suN p (fun i => f i + g i) n = suN p f n + suN p g n := by
  intro n
  induction n with
  | zero => rfl
  | succ n ih =>
    simp only [suN]
    rw [ih]
    split <;> omega
theorem suN_zero (p : Nat → Bool) : ∀ n, suN p (fun _ => 0) n = 0 := by
  intro n
  induction n with
  | zero => rfl
  | succ n ih =>
    simp only [suN]
    rw [ih]
    split <;> rfl
theorem suN_ind (p : Nat → Bool) (a : Nat) : ∀ n, suN p (fun w => if a = w then 1 else 0) n = if a < n ∧ p a = true then 1 else 0 := by
  intro n
  induction n with
  | zero => rfl
  | succ n ih =>
    simp only [suN]
    rw [ih]
    by_cases han : a = n
    · subst han
      by_cases hp : p a = true
      · simp [hp]
      · simp [hp]
    · have e : (a < n + 1) ↔ a < n := by omega
      simp only [e, han, if_false, Nat.add_zero, ite_self]
theorem dc_count {p : Nat → Bool} {g : Nat → Nat} {n : Nat} : ∀ m, (∀ k, k < m → g k < n) → suN p (fun w => cnt (fun k => decide (g k = w)) m) n = cnt (fun k => p (g k)) m := by
  intro m
  induction m with
  | zero => intro _; exact suN_zero p n
  | succ m ih =>
    intro h
    simp only [cnt]
    rw [suN_add, ih (fun k hk => h k (by omega))]
    congr 1
    have := suN_ind p (g m) n
    simp only [decide_eq_true_eq]
    rw [this]
    simp [h m (by omega)]
/-- openings on the walls of a storey, counted by walls or by openings -/
theorem dc_inv {n : Nat → Nat} {v : Ar} (h : inv (n, v)) (x : Int32) : suN (thS v x) (fun w => cnt (fun k => decide (v 9 k = nI w)) (n 3)) (n 2) = cnt (fun k => thS v x (v 9 k).toNatClampNeg) (n 3) := by
  have b2 : n 2 ≤ 40 := h.1.2.2.1
  have h9 : ∀ k, k < n 3 → (v 9 k).toNatClampNeg < n 2 ∧ v 9 k = nI (v 9 k).toNatClampNeg := by
    intro k hk
    obtain ⟨⟨w, hw, ew⟩, _⟩ := h.2.2.2.2 k hk
    have hw' : w < n 2 := hw
    have ew' : v 9 k = nI w := ew
    rw [ew', nI_clamp (by omega)]
    exact ⟨hw', rfl⟩
  rw [← dc_count (p := thS v x) (g := fun k => (v 9 k).toNatClampNeg) (n := n 2) (n 3) (fun k hk => (h9 k hk).1)]
  refine suN_congr _ (fun i hi => rfl) (fun i hi => cnt_congr (fun k hk => ?_))
  obtain ⟨q1, q2⟩ := h9 k hk
  have : v 9 k = nI i ↔ (v 9 k).toNatClampNeg = i := by
    constructor
    · intro e; rw [e]; exact nI_clamp (by omega)
    · intro e; rw [q2, e]
  simp only [this]
section P49
variable {x y : Int32} {v : Ar} {a b : Nat}
theorem ocF_cnt : ∀ m, m ≤ b → (ocF x y m (v, b)).2 = b + cnt (fun k => decide (v 9 k = x)) m := by
  intro m
  induction m with
  | zero => intro _; rfl
  | succ m ih =>
    intro hm
    have e9 : (ocF x y m (v, b)).1 9 m = v 9 m := ocF_old m 9 m (by omega)
    by_cases hc : v 9 m = x
    · rw [ocF_t (by rw [e9]; exact hc), ← cnt_t (show decide (v 9 m = x) = true by simp [hc])]
      show (ocF x y m (v, b)).2 + 1 = _
      rw [ih (by omega)]
      omega
    · rw [ocF_f (by rw [e9]; exact hc), ← cnt_f (show decide (v 9 m = x) = false by simp [hc])]
      exact ih (by omega)
theorem ocF_new : ∀ m k, b ≤ k → k < (ocF x y m (v, b)).2 → (ocF x y m (v, b)).1 9 k = y := by
  intro m
  induction m with
  | zero =>
    intro k h1 h2
    have : k < b := h2
    omega
  | succ m ih =>
    intro k h1 h2
    by_cases hc : (ocF x y m (v, b)).1 9 m = x
    · rw [ocF_t hc] at h2 ⊢
      have h2' : k < (ocF x y m (v, b)).2 + 1 := h2
      show owV (ocF x y m (v, b)).1 (ocF x y m (v, b)).2 y ((ocF x y m (v, b)).1 10 m) ((ocF x y m (v, b)).1 11 m) 9 k = y
      by_cases hk : k = (ocF x y m (v, b)).2
      · subst hk; exact owV_9 _ _ _ _ _
      · rw [owV_old _ (by omega)]; exact ih k h1 (by omega)
    · rw [ocF_f hc] at h2 ⊢; exact ih k h1 h2
theorem ocF_ext {c : Nat} (h : ∀ k, c ≤ k → k < b → ¬ v 9 k = x) : ∀ m, c + m ≤ b → ocF x y (c + m) (v, b) = ocF x y c (v, b) := by
  intro m
  induction m with
  | zero => intro _; rfl
  | succ m ih =>
    intro hm
    have e9 : (ocF x y (c + m) (v, b)).1 9 (c + m) = v 9 (c + m) := ocF_old _ 9 (c + m) (by omega)
    rw [← Nat.add_assoc, ocF_f (by rw [e9]; exact h (c + m) (by omega) (by omega))]
    exact ih (by omega)
theorem ocF_trV : ∀ m, (ocF x y m (v, b)).2 = (ocF x y m (trV v, b)).2 ∧ trV (ocF x y m (v, b)).1 = (ocF x y m (trV v, b)).1 := by
  intro m
  induction m with
  | zero => exact ⟨rfl, rfl⟩
  | succ m ih =>
    obtain ⟨i1, i2⟩ := ih
    have e : ∀ j, ¬ j = 8 → (ocF x y m (trV v, b)).1 j m = (ocF x y m (v, b)).1 j m := by
      intro j hj
      rw [← i2]; exact trV_ne hj
    by_cases hc : (ocF x y m (v, b)).1 9 m = x
    · rw [ocF_t hc, ocF_t (show (ocF x y m (trV v, b)).1 9 m = x by rw [e 9 (by decide)]; exact hc)]
      refine ⟨by show _ + 1 = _ + 1; rw [i1], ?_⟩
      show trV (owV _ _ _ _ _) = owV _ _ _ _ _
      rw [trV_ow, i2, e 10 (by decide), e 11 (by decide), i1]
    · rw [ocF_f hc, ocF_f (show ¬ (ocF x y m (trV v, b)).1 9 m = x by rw [e 9 (by decide)]; exact hc)]
      exact ⟨i1, i2⟩
theorem cp_inv (ha : a ≤ 40) : ∀ i, i ≤ a → (cpF x y i (v, a, b)).2.1 = a + cnt (thS v x) i ∧
    (∀ k, b ≤ k → k < (cpF x y i (v, a, b)).2.2 → ∃ w, a ≤ w ∧ w < (cpF x y i (v, a, b)).2.1 ∧ (cpF x y i (v, a, b)).1 9 k = nI w) ∧
    (cpF x y i (v, a, b)).2.2 = b + suN (thS v x) (fun w => cnt (fun k => decide (v 9 k = nI w)) b) i := by
  intro i
  induction i with
  | zero =>
    intro _
    refine ⟨rfl, fun k h1 h2 => ?_, rfl⟩
    have : k < b := h2
    omega
  | succ i ih =>
    intro hi
    obtain ⟨i1, i2, i3⟩ := ih (by omega)
    have hcl := cnt_le (thS v x) i
    have hb : b ≤ (cpF x y i (v, a, b)).2.2 := (cpF_to x y (v, a, b) (Nat.zero_le i)).2
    have et : thS (cpF x y i (v, a, b)).1 x i = thS v x i := by
      unfold thS
      rw [cpF_old i 8 i (by omega) (by omega), cpF_old i 2 i (by omega) (by omega)]
    cases hc : thS v x i with
    | true =>
      rw [cpF_t (et.trans hc)]
      have hoc := ocF_cnt (x := nI i) (y := nI (cpF x y i (v, a, b)).2.1) (v := adV (cpF x y i (v, a, b)).1 (cpF x y i (v, a, b)).2.1 y ((cpF x y i (v, a, b)).1 3 i) ((cpF x y i (v, a, b)).1 4 i) ((cpF x y i (v, a, b)).1 5 i) ((cpF x y i (v, a, b)).1 6 i) ((cpF x y i (v, a, b)).1 7 i)) (b := (cpF x y i (v, a, b)).2.2) _ (Nat.le_refl _)
      refine ⟨?_, fun k h1 h2 => ?_, ?_⟩
      · show (cpF x y i (v, a, b)).2.1 + 1 = _
        rw [i1, ← cnt_t hc]; omega
      · by_cases hk : k < (cpF x y i (v, a, b)).2.2
        · obtain ⟨w, w1, w2, w3⟩ := i2 k h1 hk
          refine ⟨w, w1, Nat.lt_succ_of_lt w2, ?_⟩
          show (ocF _ _ _ _).1 9 k = _
          rw [ocF_old _ 9 k (by omega), adV_old _ (by omega)]
          exact w3
        · refine ⟨(cpF x y i (v, a, b)).2.1, by omega, Nat.lt_succ_self _, ?_⟩
          exact ocF_new _ k (by omega) h2
      · show (ocF _ _ _ _).2 = _
        rw [hoc, ← suN_t hc]
        have hsp : (cpF x y i (v, a, b)).2.2 = b + ((cpF x y i (v, a, b)).2.2 - b) := by omega
        have hcc : cnt (fun k => decide (adV (cpF x y i (v, a, b)).1 (cpF x y i (v, a, b)).2.1 y ((cpF x y i (v, a, b)).1 3 i) ((cpF x y i (v, a, b)).1 4 i) ((cpF x y i (v, a, b)).1 5 i) ((cpF x y i (v, a, b)).1 6 i) ((cpF x y i (v, a, b)).1 7 i) 9 k = nI i)) (cpF x y i (v, a, b)).2.2 = cnt (fun k => decide (v 9 k = nI i)) b := by
          have h1 : ∀ k, b ≤ k → k < b + ((cpF x y i (v, a, b)).2.2 - b) → decide (adV (cpF x y i (v, a, b)).1 (cpF x y i (v, a, b)).2.1 y ((cpF x y i (v, a, b)).1 3 i) ((cpF x y i (v, a, b)).1 4 i) ((cpF x y i (v, a, b)).1 5 i) ((cpF x y i (v, a, b)).1 6 i) ((cpF x y i (v, a, b)).1 7 i) 9 k = nI i) = false := by
            intro k k1 k2
            obtain ⟨w, w1, w2, w3⟩ := i2 k k1 (by omega)
            rw [adV_old _ (by omega), w3, decide_eq_false_iff_not, nI_eq (by omega) (by omega)]
            omega
          have h2 := cnt_trim _ h1
          rw [← hsp] at h2
          rw [h2]
          refine cnt_congr (fun k hk => ?_)
          rw [adV_old _ (by omega), cpF_old i 9 k (by omega) (by omega)]
        rw [hcc, i3]
        omega
    | false =>
      rw [cpF_f (et.trans hc), ← cnt_f hc, ← suN_f hc]
      exact ⟨i1, i2, i3⟩
theorem wc_cp {kn : Nat → Int32} {vv : Ar} (ha : a ≤ 40) (hk : kn 2 = nI a) (h8 : ∀ w, w < a → trV vv 8 w = 0 ∨ trV vv 8 w = 1) : ∀ i, i ≤ a → (wcF kn b x y i (vv, a, b)).2 = (cpF x y i (trV vv, a, b)).2 ∧ trV (wcF kn b x y i (vv, a, b)).1 = (cpF x y i (trV vv, a, b)).1 := by
  intro i
  induction i with
  | zero => intro _; exact ⟨rfl, rfl⟩
  | succ i ih =>
    intro hi
    obtain ⟨i1, i2⟩ := ih (by omega)
    obtain ⟨c1, c2, c3⟩ := cp_inv (x := x) (y := y) (v := trV vv) (b := b) ha i (by omega)
    have hcl := cnt_le (thS (trV vv) x) i
    have hb : b ≤ (cpF x y i (trV vv, a, b)).2.2 := (cpF_to x y (trV vv, a, b) (Nat.zero_le i)).2
    have e : ∀ j r, ¬ j = 8 → (cpF x y i (trV vv, a, b)).1 j r = (wcF kn b x y i (vv, a, b)).1 j r := by
      intro j r hj
      rw [← i2]; exact trV_ne hj
    have e8 : (1 : Int32) - (wcF kn b x y i (vv, a, b)).1 8 i = trV vv 8 i := by
      have h1 : trV (wcF kn b x y i (vv, a, b)).1 8 i = (cpF x y i (trV vv, a, b)).1 8 i := by rw [i2]
      rw [cpF_old i 8 i (by omega) (by omega)] at h1
      exact h1
    have eo : onB kn (wcF kn b x y i (vv, a, b)).1 (nI i) x = thS (cpF x y i (trV vv, a, b)).1 x i := by
      unfold onB thS tW
      have g1 : ¬ nI i < 0 := nI_pos (by omega)
      have g2 : ¬ nI a ≤ nI i := nI_ge (by omega) (by omega)
      rw [hk, nI_clamp (by omega), e 2 i (by decide), cpF_old i 8 i (by omega) (by omega)]
      have g3 : ((wcF kn b x y i (vv, a, b)).1 8 i = 0) ↔ ¬ (trV vv 8 i = 0) := by
        have := i32_11 e8
        rcases h8 i (by omega) with q | q
        · rw [this, q]; decide
        · rw [this, q]; decide
      simp only [g1, g2, g3, decide_false, Bool.not_false, Bool.true_and, decide_not]
    cases hc : thS (cpF x y i (trV vv, a, b)).1 x i with
    | true =>
      rw [cpF_t hc]
      have hw : wcF kn b x y (i + 1) (vv, a, b) = wcS b y i (wcF kn b x y i (vv, a, b)) := by rw [wcF, if_pos (eo.trans hc)]
      rw [hw]
      unfold wcS cpS
      rw [i1]
      have ea : trV (nwV (wcF kn b x y i (vv, a, b)).1 (cpF x y i (trV vv, a, b)).2.1 y ((wcF kn b x y i (vv, a, b)).1 3 i) ((wcF kn b x y i (vv, a, b)).1 4 i) ((wcF kn b x y i (vv, a, b)).1 5 i) ((wcF kn b x y i (vv, a, b)).1 6 i) ((wcF kn b x y i (vv, a, b)).1 7 i)) = adV (cpF x y i (trV vv, a, b)).1 (cpF x y i (trV vv, a, b)).2.1 y ((cpF x y i (trV vv, a, b)).1 3 i) ((cpF x y i (trV vv, a, b)).1 4 i) ((cpF x y i (trV vv, a, b)).1 5 i) ((cpF x y i (trV vv, a, b)).1 6 i) ((cpF x y i (trV vv, a, b)).1 7 i) := by
        rw [trV_nw, i2, e 3 i (by decide), e 4 i (by decide), e 5 i (by decide), e 6 i (by decide), e 7 i (by decide)]
      have ho := ocF_trV (x := nI i) (y := nI (cpF x y i (trV vv, a, b)).2.1) (v := nwV (wcF kn b x y i (vv, a, b)).1 (cpF x y i (trV vv, a, b)).2.1 y ((wcF kn b x y i (vv, a, b)).1 3 i) ((wcF kn b x y i (vv, a, b)).1 4 i) ((wcF kn b x y i (vv, a, b)).1 5 i) ((wcF kn b x y i (vv, a, b)).1 6 i) ((wcF kn b x y i (vv, a, b)).1 7 i)) (b := (cpF x y i (trV vv, a, b)).2.2) b
      rw [ea] at ho
      have hx := ocF_ext (x := nI i) (y := nI (cpF x y i (trV vv, a, b)).2.1) (v := adV (cpF x y i (trV vv, a, b)).1 (cpF x y i (trV vv, a, b)).2.1 y ((cpF x y i (trV vv, a, b)).1 3 i) ((cpF x y i (trV vv, a, b)).1 4 i) ((cpF x y i (trV vv, a, b)).1 5 i) ((cpF x y i (trV vv, a, b)).1 6 i) ((cpF x y i (trV vv, a, b)).1 7 i)) (b := (cpF x y i (trV vv, a, b)).2.2) (c := b) (fun k k1 k2 => by
        obtain ⟨w, w1, w2, w3⟩ := c2 k k1 k2
        rw [adV_old _ (by omega), w3, nI_eq (by omega) (by omega)]
        omega) ((cpF x y i (trV vv, a, b)).2.2 - b) (by omega)
      rw [show b + ((cpF x y i (trV vv, a, b)).2.2 - b) = (cpF x y i (trV vv, a, b)).2.2 by omega] at hx
      rw [hx]
      exact ⟨by rw [ho.1], ho.2⟩
    | false =>
      rw [cpF_f hc]
      have hw : wcF kn b x y (i + 1) (vv, a, b) = wcF kn b x y i (vv, a, b) := by rw [wcF, if_neg (by rw [eo, hc]; decide)]
      rw [hw]
      exact ⟨i1, i2⟩
end P49
theorem trV_inj {v v' : Ar} {j r : Nat} (h : trV v j r = trV v' j r) : v j r = v' j r := by
  by_cases h8 : j = 8
  · subst h8
    have h1 : (1 : Int32) - v 8 r = 1 - v' 8 r := h
    have h2 := i32_11 h1
    rw [h2]
    exact (i32_11 rfl).symm
  · rw [trV_ne h8, trV_ne h8] at h; exact h
