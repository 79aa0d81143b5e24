/-! pure: what every drawing of a right log keeps -/
def iv (n0 n1 a b : Nat) (v : Ar) : Prop :=
  (n0 ≤ 6 ∧ n1 ≤ 8 ∧ a ≤ 40 ∧ b ≤ 60) ∧
  (∀ w, w < a → (∃ k, k < n0 ∧ v 2 w = nI k) ∧ (∃ k, k < n1 ∧ v 3 w = nI k) ∧ inZ (v 4 w) (-1000) 1000 ∧ inZ (v 5 w) (-1000) 1000 ∧ inZ (v 6 w) (-1000) 1000 ∧ inZ (v 7 w) (-1000) 1000 ∧ (¬ (v 4 w = v 6 w ↔ v 5 w = v 7 w)) ∧ (v 8 w = 0 ∨ v 8 w = 1)) ∧
  (∀ k, k < n1 → inZ (v 1 k) 2 100) ∧ (∀ k, k < n0 → inZ (v 0 k) (-1000) 10000) ∧
  (∀ o, o < b → (∃ w, w < a ∧ v 9 o = nI w) ∧ inZ (v 10 o) 0 2000 ∧ inZ (v 11 o) 1 2000)
theorem inv_iv {z : (Nat → Nat) × Ar} : inv z ↔ iv (z.1 0) (z.1 1) (z.1 2) (z.1 3) z.2 := Iff.rfl
theorem adV_2 (v : Ar) (r : Nat) (a b c d e f : Int32) : adV v r a b c d e f 2 r = a := by simp [adV, u1_at]
theorem adV_3 (v : Ar) (r : Nat) (a b c d e f : Int32) : adV v r a b c d e f 3 r = b := by simp [adV, u1_at]
theorem adV_4 (v : Ar) (r : Nat) (a b c d e f : Int32) : adV v r a b c d e f 4 r = c := by simp [adV, u1_at]
theorem adV_5 (v : Ar) (r : Nat) (a b c d e f : Int32) : adV v r a b c d e f 5 r = d := by simp [adV, u1_at]
theorem adV_6 (v : Ar) (r : Nat) (a b c d e f : Int32) : adV v r a b c d e f 6 r = e := by simp [adV, u1_at]
theorem adV_7 (v : Ar) (r : Nat) (a b c d e f : Int32) : adV v r a b c d e f 7 r = f := by simp [adV, u1_at]
theorem adV_8 (v : Ar) (r : Nat) (a b c d e f : Int32) : adV v r a b c d e f 8 r = 1 := by simp [adV, u1_at]
theorem owV_9 (v : Ar) (r : Nat) (a b c : Int32) : owV v r a b c 9 r = a := by simp [owV, u1_at]
theorem owV_10 (v : Ar) (r : Nat) (a b c : Int32) : owV v r a b c 10 r = b := by simp [owV, u1_at]
theorem owV_11 (v : Ar) (r : Nat) (a b c : Int32) : owV v r a b c 11 r = c := by simp [owV, u1_at]
section P43
variable {n0 n1 a b : Nat} {v : Ar}
theorem iv_add {s t c d e f : Int32} (h : iv n0 n1 a b v) (ha : a < 40) (hs : ∃ k, k < n0 ∧ s = nI k) (ht : ∃ k, k < n1 ∧ t = nI k) (hc : inZ c (-1000) 1000) (hd : inZ d (-1000) 1000) (he : inZ e (-1000) 1000) (hf : inZ f (-1000) 1000) (hx : ¬ (c = e ↔ d = f)) : iv n0 n1 (a + 1) b (adV v a s t c d e f) := by
  obtain ⟨h0, h1, h2, h3, h4⟩ := h
  refine ⟨⟨h0.1, h0.2.1, ha, h0.2.2.2⟩, fun w hw => ?_, fun k hk => ?_, fun k hk => ?_, fun o ho => ?_⟩
  · by_cases hwa : w = a
    · subst hwa
      rw [adV_2, adV_3, adV_4, adV_5, adV_6, adV_7, adV_8]
      exact ⟨hs, ht, hc, hd, he, hf, hx, Or.inr rfl⟩
    · rw [adV_old _ (by omega), adV_old _ (by omega), adV_old _ (by omega), adV_old _ (by omega), adV_old _ (by omega), adV_old _ (by omega), adV_old _ (by omega)]
      exact h1 w (by omega)
  · rw [adV_old _ (by omega)]; exact h2 k hk
  · rw [adV_old _ (by omega)]; exact h3 k hk
  · rw [adV_old _ (by omega), adV_old _ (by omega), adV_old _ (by omega)]
    obtain ⟨⟨w, hw, e1⟩, h5⟩ := h4 o ho
    exact ⟨⟨w, by omega, e1⟩, h5⟩
theorem iv_cut {x y z : Int32} (h : iv n0 n1 a b v) (hb : b < 60) (hx : ∃ w, w < a ∧ x = nI w) (hy : inZ y 0 2000) (hz : inZ z 1 2000) : iv n0 n1 a (b + 1) (owV v b x y z) := by
  obtain ⟨h0, h1, h2, h3, h4⟩ := h
  refine ⟨⟨h0.1, h0.2.1, h0.2.2.1, hb⟩, fun w hw => ?_, fun k hk => ?_, fun k hk => ?_, fun o ho => ?_⟩
  · rw [owV_old _ (by omega), owV_old _ (by omega), owV_old _ (by omega), owV_old _ (by omega), owV_old _ (by omega), owV_old _ (by omega), owV_old _ (by omega)]
    exact h1 w hw
  · rw [owV_old _ (by omega)]; exact h2 k hk
  · rw [owV_old _ (by omega)]; exact h3 k hk
  · by_cases hob : o = b
    · subst hob
      rw [owV_9, owV_10, owV_11]
      exact ⟨hx, hy, hz⟩
    · rw [owV_old _ (by omega), owV_old _ (by omega), owV_old _ (by omega)]
      exact h4 o (by omega)
theorem iv_oc {x y : Int32} (h : iv n0 n1 a b v) (hy : ∃ w, w < a ∧ y = nI w) : ∀ i, i ≤ b → (ocF x y i (v, b)).2 ≤ 60 → iv n0 n1 a (ocF x y i (v, b)).2 (ocF x y i (v, b)).1 := by
  intro i
  induction i with
  | zero => intro _ _; exact h
  | succ i ih =>
    intro hi h60
    have hm : b ≤ (ocF x y i (v, b)).2 := by have := ocF_mono x y (v, b) 0 i; rw [Nat.zero_add] at this; exact this
    by_cases hc : (ocF x y i (v, b)).1 9 i = x
    · rw [ocF_t hc] at h60 ⊢
      have h60' : (ocF x y i (v, b)).2 + 1 ≤ 60 := h60
      have hI := ih (by omega) (by omega)
      have hq := hI.2.2.2.2 i (by omega)
      exact iv_cut hI (by omega) hy hq.2.1 hq.2.2
    · rw [ocF_f hc] at h60 ⊢
      exact ih (by omega) h60
theorem iv_cp {x y : Int32} (h : iv n0 n1 a b v) (hy : ∃ k, k < n0 ∧ y = nI k) : ∀ i, i ≤ a → (cpF x y i (v, a, b)).2.1 ≤ 40 → (cpF x y i (v, a, b)).2.2 ≤ 60 → iv n0 n1 (cpF x y i (v, a, b)).2.1 (cpF x y i (v, a, b)).2.2 (cpF x y i (v, a, b)).1 := by
  intro i
  induction i with
  | zero => intro _ _ _; exact h
  | succ i ih =>
    intro hi h40 h60
    have hu := cpF_up1 x y (v, a, b) i
    have hm : a ≤ (cpF x y i (v, a, b)).2.1 := (cpF_to x y (v, a, b) (Nat.zero_le i)).1
    have hI := ih (by omega) (by omega) (by omega)
    cases hc : thS (cpF x y i (v, a, b)).1 x i with
    | true =>
      rw [cpF_t hc] at h40 h60 ⊢
      have h40' : (cpF x y i (v, a, b)).2.1 + 1 ≤ 40 := h40
      obtain ⟨q1, q2, q3, q4, q5, q6, q7, q8⟩ := hI.2.1 i (by omega)
      have hA := iv_add (s := y) hI (by omega) hy q2 q3 q4 q5 q6 q7
      exact iv_oc hA ⟨(cpF x y i (v, a, b)).2.1, by omega, rfl⟩ _ (Nat.le_refl _) h60
    | false =>
      rw [cpF_f hc]; exact hI
end P43
theorem inv_congr {z z' : (Nat → Nat) × Ar} (h : eqD z z') (hi : inv z) : inv z' := by
  have c0 := h.1 0 (by decide)
  have c1 := h.1 1 (by decide)
  have c2 := h.1 2 (by decide)
  have c3 := h.1 3 (by decide)
  obtain ⟨h0, h1, h2, h3, h4⟩ := hi
  unfold inv
  rw [← c0, ← c1, ← c2, ← c3]
  refine ⟨h0, fun w hw => ?_, fun k hk => ?_, fun k hk => ?_, fun o ho => ?_⟩
  · rw [← h.2 2 w ⟨by decide, hw⟩, ← h.2 3 w ⟨by decide, hw⟩, ← h.2 4 w ⟨by decide, hw⟩, ← h.2 5 w ⟨by decide, hw⟩, ← h.2 6 w ⟨by decide, hw⟩, ← h.2 7 w ⟨by decide, hw⟩, ← h.2 8 w ⟨by decide, hw⟩]
    exact h1 w hw
  · rw [← h.2 1 k ⟨by decide, hk⟩]; exact h2 k hk
  · rw [← h.2 0 k ⟨by decide, hk⟩]; exact h3 k hk
  · rw [← h.2 9 o ⟨by decide, ho⟩, ← h.2 10 o ⟨by decide, ho⟩, ← h.2 11 o ⟨by decide, ho⟩]; exact h4 o ho
theorem vA_ends {p q a : Int32} : p + a = q + a ↔ p = q := by
  constructor
  · intro h
    have h2 := congrArg (fun t => t - a) h
    simp only [Int32.add_sub_cancel] at h2
    exact h2
  · intro h; rw [h]
theorem mvV_4 (v : Ar) (t : Nat) (a b : Int32) : mvV v t a b 4 t = v 4 t + a := by simp [mvV, u1_at]
theorem mvV_5 (v : Ar) (t : Nat) (a b : Int32) : mvV v t a b 5 t = v 5 t + b := by simp [mvV, u1_at]
theorem mvV_6 (v : Ar) (t : Nat) (a b : Int32) : mvV v t a b 6 t = v 6 t + a := by simp [mvV, u1_at]
theorem mvV_7 (v : Ar) (t : Nat) (a b : Int32) : mvV v t a b 7 t = v 7 t + b := by simp [mvV, u1_at]
theorem mvV_old (v : Ar) {t : Nat} {a b : Int32} {j r : Nat} (hj : ¬ (4 ≤ j ∧ j ≤ 7 ∧ r = t)) : mvV v t a b j r = v j r := by
  unfold mvV
  rw [u1_ne _ _ (by omega), u1_ne _ _ (by omega), u1_ne _ _ (by omega), u1_ne _ _ (by omega)]
theorem inv_step {lg : Nat → Int32} {k : Nat} {z : (Nat → Nat) × Ar} (hi : inv z) (hv : vA lg k z) : inv (stD lg k z) := by
  obtain ⟨n, v⟩ := z
  have hI : iv (n 0) (n 1) (n 2) (n 3) v := hi
  obtain ⟨h0, h1, h2, h3, h4⟩ := hI
  rcases hv with ⟨e, g1, g2⟩ | ⟨e, ⟨t, et, ht⟩, g2⟩ | ⟨e, g1, g2⟩ | ⟨e, ⟨t, et, ht⟩, g2⟩ | ⟨e, g1, ⟨t, et, ht⟩, ⟨u, eu, hu⟩, g3, g4, g5, g6, g7⟩ | ⟨e, t, et, ht, g3, g4, g5, g6⟩ | ⟨e, ⟨t, et, ht⟩, u, eu, hu⟩ | ⟨e, t, et, ht, _⟩ | ⟨e, g1, ⟨t, et, ht⟩, g2, g3⟩ | ⟨e, _, ⟨u, eu, hu⟩, g1, g2⟩
  · rw [stD_0 e]
    have g1' : n 0 < 6 := g1
    show iv (n 0 + 1) (n 1) (n 2) (n 3) (u1 v 0 (n 0) _)
    refine ⟨⟨g1, h0.2⟩, fun w hw => ?_, fun k hk => ?_, fun k hk => ?_, fun o ho => ?_⟩
    · rw [u1_ne _ _ (by omega), u1_ne _ _ (by omega), u1_ne _ _ (by omega), u1_ne _ _ (by omega), u1_ne _ _ (by omega), u1_ne _ _ (by omega), u1_ne _ _ (by omega)]
      obtain ⟨⟨m, hm, em⟩, q⟩ := h1 w hw
      exact ⟨⟨m, by omega, em⟩, q⟩
    · rw [u1_ne _ _ (by omega)]; exact h2 k hk
    · by_cases hkn : k = n 0
      · subst hkn; rw [u1_eq]; exact g2
      · rw [u1_ne _ _ (by omega)]; exact h3 k (by omega)
    · rw [u1_ne _ _ (by omega), u1_ne _ _ (by omega), u1_ne _ _ (by omega)]; exact h4 o ho
  · rw [stD_1 e, et]
    have ht' : t < n 0 := ht
    rw [nI_clamp (by omega)]
    show iv (n 0) (n 1) (n 2) (n 3) (u1 v 0 t _)
    refine ⟨h0, fun w hw => ?_, fun k hk => ?_, fun k hk => ?_, fun o ho => ?_⟩
    · rw [u1_ne _ _ (by omega), u1_ne _ _ (by omega), u1_ne _ _ (by omega), u1_ne _ _ (by omega), u1_ne _ _ (by omega), u1_ne _ _ (by omega), u1_ne _ _ (by omega)]
      exact h1 w hw
    · rw [u1_ne _ _ (by omega)]; exact h2 k hk
    · by_cases hkn : k = t
      · subst hkn; rw [u1_eq]; exact g2
      · rw [u1_ne _ _ (by omega)]; exact h3 k (by omega)
    · rw [u1_ne _ _ (by omega), u1_ne _ _ (by omega), u1_ne _ _ (by omega)]; exact h4 o ho
  · rw [stD_2 e]
    have g1' : n 1 < 8 := g1
    show iv (n 0) (n 1 + 1) (n 2) (n 3) (u1 v 1 (n 1) _)
    refine ⟨⟨h0.1, g1, h0.2.2⟩, fun w hw => ?_, fun k hk => ?_, fun k hk => ?_, fun o ho => ?_⟩
    · rw [u1_ne _ _ (by omega), u1_ne _ _ (by omega), u1_ne _ _ (by omega), u1_ne _ _ (by omega), u1_ne _ _ (by omega), u1_ne _ _ (by omega), u1_ne _ _ (by omega)]
      obtain ⟨q0, ⟨m, hm, em⟩, q⟩ := h1 w hw
      exact ⟨q0, ⟨m, by omega, em⟩, q⟩
    · by_cases hkn : k = n 1
      · subst hkn; rw [u1_eq]; exact g2
      · rw [u1_ne _ _ (by omega)]; exact h2 k (by omega)
    · rw [u1_ne _ _ (by omega)]; exact h3 k hk
    · rw [u1_ne _ _ (by omega), u1_ne _ _ (by omega), u1_ne _ _ (by omega)]; exact h4 o ho
  · rw [stD_3 e, et]
    have ht' : t < n 1 := ht
    rw [nI_clamp (by omega)]
    show iv (n 0) (n 1) (n 2) (n 3) (u1 v 1 t _)
    refine ⟨h0, fun w hw => ?_, fun k hk => ?_, fun k hk => ?_, fun o ho => ?_⟩
    · rw [u1_ne _ _ (by omega), u1_ne _ _ (by omega), u1_ne _ _ (by omega), u1_ne _ _ (by omega), u1_ne _ _ (by omega), u1_ne _ _ (by omega), u1_ne _ _ (by omega)]
      exact h1 w hw
    · by_cases hkn : k = t
      · subst hkn; rw [u1_eq]; exact g2
      · rw [u1_ne _ _ (by omega)]; exact h2 k (by omega)
    · rw [u1_ne _ _ (by omega)]; exact h3 k hk
    · rw [u1_ne _ _ (by omega), u1_ne _ _ (by omega), u1_ne _ _ (by omega)]; exact h4 o ho
  · rw [stD_4 e]
    show iv (n 0) (n 1) (n 2 + 1) (n 3) (adV v (n 2) _ _ _ _ _ _)
    exact iv_add ⟨h0, h1, h2, h3, h4⟩ g1 ⟨t, ht, et⟩ ⟨u, hu, eu⟩ g3 g4 g5 g6 g7
  · rw [stD_5 e, et]
    have ht' : t < n 2 := ht
    rw [nI_clamp (by omega)]
    show iv (n 0) (n 1) (n 2) (n 3) (mvV v t _ _)
    refine ⟨h0, fun w hw => ?_, fun k hk => ?_, fun k hk => ?_, fun o ho => ?_⟩
    · by_cases hwt : w = t
      · subst hwt
        obtain ⟨q1, q2, q3, q4, q5, q6, q7, q8⟩ := h1 w hw
        rw [mvV_old _ (by omega), mvV_old (j := 3) _ (by omega), mvV_old (j := 8) _ (by omega), mvV_4, mvV_5, mvV_6, mvV_7, vA_ends, vA_ends]
        exact ⟨q1, q2, g3, g4, g5, g6, q7, q8⟩
      · rw [mvV_old _ (by omega), mvV_old _ (by omega), mvV_old _ (by omega), mvV_old _ (by omega), mvV_old _ (by omega), mvV_old _ (by omega), mvV_old _ (by omega)]
        exact h1 w hw
    · rw [mvV_old _ (by omega)]; exact h2 k hk
    · rw [mvV_old _ (by omega)]; exact h3 k hk
    · rw [mvV_old _ (by omega), mvV_old _ (by omega), mvV_old _ (by omega)]; exact h4 o ho
  · rw [stD_6 e, et]
    have ht' : t < n 2 := ht
    rw [nI_clamp (by omega)]
    show iv (n 0) (n 1) (n 2) (n 3) (u1 v 3 t _)
    refine ⟨h0, fun w hw => ?_, fun k hk => ?_, fun k hk => ?_, fun o ho => ?_⟩
    · obtain ⟨q1, q2, q3⟩ := h1 w hw
      rw [u1_ne (j' := 2) _ _ (by omega), u1_ne (j' := 4) _ _ (by omega), u1_ne (j' := 5) _ _ (by omega), u1_ne (j' := 6) _ _ (by omega), u1_ne (j' := 7) _ _ (by omega), u1_ne (j' := 8) _ _ (by omega)]
      refine ⟨q1, ?_, q3⟩
      by_cases hwt : w = t
      · subst hwt; rw [u1_eq]; exact ⟨u, hu, eu⟩
      · rw [u1_ne _ _ (by omega)]; exact q2
    · rw [u1_ne _ _ (by omega)]; exact h2 k hk
    · rw [u1_ne _ _ (by omega)]; exact h3 k hk
    · rw [u1_ne _ _ (by omega), u1_ne _ _ (by omega), u1_ne _ _ (by omega)]; exact h4 o ho
  · rw [stD_7 e, et]
    have ht' : t < n 2 := ht
    rw [nI_clamp (by omega)]
    show iv (n 0) (n 1) (n 2) (n 3) (u1 v 8 t _)
    refine ⟨h0, fun w hw => ?_, fun k hk => ?_, fun k hk => ?_, fun o ho => ?_⟩
    · obtain ⟨q1, q2, q3, q4, q5, q6, q7, q8⟩ := h1 w hw
      rw [u1_ne (j' := 2) _ _ (by omega), u1_ne (j' := 3) _ _ (by omega), u1_ne (j' := 4) _ _ (by omega), u1_ne (j' := 5) _ _ (by omega), u1_ne (j' := 6) _ _ (by omega), u1_ne (j' := 7) _ _ (by omega)]
      refine ⟨q1, q2, q3, q4, q5, q6, q7, ?_⟩
      by_cases hwt : w = t
      · subst hwt; rw [u1_eq]; exact Or.inl rfl
      · rw [u1_ne _ _ (by omega)]; exact q8
    · rw [u1_ne _ _ (by omega)]; exact h2 k hk
    · rw [u1_ne _ _ (by omega)]; exact h3 k hk
    · rw [u1_ne _ _ (by omega), u1_ne _ _ (by omega), u1_ne _ _ (by omega)]; exact h4 o ho
  · rw [stD_8 e]
    show iv (n 0) (n 1) (n 2) (n 3 + 1) (owV v (n 3) _ _ _)
    exact iv_cut ⟨h0, h1, h2, h3, h4⟩ g1 ⟨t, ht, et⟩ g2 g3
  · rw [stD_9 e]
    show iv (n 0) (n 1) (cpF _ _ (n 2) (v, n 2, n 3)).2.1 (cpF _ _ (n 2) (v, n 2, n 3)).2.2 (cpF _ _ (n 2) (v, n 2, n 3)).1
    exact iv_cp ⟨h0, h1, h2, h3, h4⟩ ⟨u, hu, eu⟩ _ (Nat.le_refl _) g1 g2
theorem inv_0 : inv (fun _ => 0, fun _ _ => 0) :=
  ⟨⟨Nat.zero_le _, Nat.zero_le _, Nat.zero_le _, Nat.zero_le _⟩, fun w hw => absurd hw (Nat.not_lt_zero _), fun w hw => absurd hw (Nat.not_lt_zero _), fun w hw => absurd hw (Nat.not_lt_zero _), fun w hw => absurd hw (Nat.not_lt_zero _)⟩
theorem inv_Dk {lg : Nat → Int32} : ∀ k, (∀ i, i < k → vA lg i (Dk lg i)) → inv (Dk lg k) := by
  intro k
  induction k with
  | zero => intro _; exact inv_0
  | succ k ih => intro h; exact inv_step (ih (fun i hi => h i (by omega))) (h k (by omega))
theorem inv_lt {z : (Nat → Nat) × Ar} (h : inv z) : z.1 2 < 2 ^ 31 := by have := h.1.2.2.1; omega
theorem rp_congr {lg : Nat → Int32} {v : Ar} : ∀ k, (∀ i, i < k → vA lg i (Dk lg i)) → eqD (Dk lg k) (rpF lg k (fun _ => 0, v)) := by
  intro k
  induction k with
  | zero => intro _; exact ⟨fun _ _ => rfl, fun j r hs => absurd hs.2 (Nat.not_lt_zero _)⟩
  | succ k ih =>
    intro h
    have hI := inv_Dk k (fun i hi => h i (by omega))
    exact stD_congr (ih (fun i hi => h i (by omega))) (inv_lt hI) (h k (by omega))
theorem okD_of {lg : Nat → Int32} {k : Nat} {z : (Nat → Nat) × Ar} (hb : z.1 0 ≤ 6 ∧ z.1 1 ≤ 8 ∧ z.1 2 ≤ 40 ∧ z.1 3 ≤ 60) (hv : vA lg k z) : okD lg k z := by
  obtain ⟨b0, b1, b2, b3⟩ := hb
  rcases hv with ⟨e, g1, g2⟩ | ⟨e, ⟨t, et, ht⟩, g2⟩ | ⟨e, g1, g2⟩ | ⟨e, ⟨t, et, ht⟩, g2⟩ | ⟨e, g1, g7⟩ | ⟨e, t, et, ht, g3⟩ | ⟨e, ⟨t, et, ht⟩, u, eu, hu⟩ | ⟨e, t, et, ht, _⟩ | ⟨e, g1, g2⟩ | ⟨e, _, _, g1, g2⟩
  · exact Or.inl ⟨e, g1⟩
  · exact Or.inr (Or.inl ⟨e, t, et, by omega⟩)
  · exact Or.inr (Or.inr (Or.inl ⟨e, g1⟩))
  · exact Or.inr (Or.inr (Or.inr (Or.inl ⟨e, t, et, by omega⟩)))
  · exact Or.inr (Or.inr (Or.inr (Or.inr (Or.inl ⟨e, g1⟩))))
  · exact Or.inr (Or.inr (Or.inr (Or.inr (Or.inr (Or.inl ⟨e, t, et, by omega⟩)))))
  · exact Or.inr (Or.inr (Or.inr (Or.inr (Or.inr (Or.inr (Or.inl ⟨e, t, et, by omega⟩))))))
  · exact Or.inr (Or.inr (Or.inr (Or.inr (Or.inr (Or.inr (Or.inr (Or.inl ⟨e, t, et, by omega⟩)))))))
  · exact Or.inr (Or.inr (Or.inr (Or.inr (Or.inr (Or.inr (Or.inr (Or.inr (Or.inl ⟨e, g1⟩))))))))
  · refine Or.inr (Or.inr (Or.inr (Or.inr (Or.inr (Or.inr (Or.inr (Or.inr (Or.inr ⟨e, b2, b3, fun i hi ht => ?_, fun i hi => ?_⟩))))))))
    · have h1 := cpF_to (lg (7 * k + 1)) (lg (7 * k + 2)) (z.2, z.1 2, z.1 3) (show i + 1 ≤ z.1 2 from hi)
      rw [cpF_t ht] at h1
      have h2 : (cpF (lg (7 * k + 1)) (lg (7 * k + 2)) i (z.2, z.1 2, z.1 3)).2.1 + 1 ≤ _ := h1.1
      omega
    · have h1 := cpF_to (lg (7 * k + 1)) (lg (7 * k + 2)) (z.2, z.1 2, z.1 3) (show i + 1 ≤ z.1 2 from hi)
      exact Nat.le_trans h1.2 g2
