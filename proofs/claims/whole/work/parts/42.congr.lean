/-! pure: the acts of the log respect agreement; what they leave -/
theorem eqD_row {n n' : Nat → Nat} {v v' w w' : Ar} {i : Nat} (h : eqD (n, v) (n', v')) (hi : i < 4) (hr : AS (fun j r => SN n j r ∨ (ow j = i ∧ j < 12 ∧ r = n i)) w w') : eqD (va_up n i (n i + 1), w) (va_up n' i (n' i + 1), w') := by
  refine ⟨fun i' hi' => ?_, hr.mono (fun j r hs => ?_)⟩
  · show va_up n i (n i + 1) i' = va_up n' i (n' i + 1) i'
    have e1 : n i' = n' i' := h.1 i' hi'
    have e2 : n i = n' i := h.1 i hi
    rw [va_at1, va_at1, e1, e2]
  · rcases SN_add hs with h1 | ⟨h1, h2, h3⟩
    · exact Or.inl h1
    · exact Or.inr ⟨h2, h1, h3⟩
section P42
variable {lg lg' : Nat → Int32} {k : Nat} {z z' : (Nat → Nat) × Ar}
theorem stD_congr (h : eqD z z') (hb : z.1 2 < 2 ^ 31) (hv : vA lg k z) : eqD (stD lg k z) (stD lg k z') := by
  obtain ⟨n, v⟩ := z
  obtain ⟨n', v'⟩ := z'
  have hc : ∀ i, i < 4 → n i = n' i := h.1
  have hr : AS (SN n) v v' := h.2
  rcases hv with ⟨e, h1, _⟩ | ⟨e, ⟨t, et, ht⟩, _⟩ | ⟨e, h1, _⟩ | ⟨e, ⟨t, et, ht⟩, _⟩ | ⟨e, h1, _⟩ | ⟨e, t, et, ht, _⟩ | ⟨e, ⟨t, et, ht⟩, _⟩ | ⟨e, t, et, ht, _⟩ | ⟨e, h1, _⟩ | ⟨e, _⟩
  · rw [stD_0 e, stD_0 e]
    refine eqD_row h (by decide) ?_
    show AS _ (u1 v 0 (n 0) _) (u1 v' 0 (n' 0) _)
    rw [← hc 0 (by decide)]
    exact (hr.u 0 (n 0) _).mono (fun j r hs => hs.imp id (fun q => ⟨ow_0.mp q.1, q.2.2⟩))
  · rw [stD_1 e, stD_1 e]
    exact ⟨hc, (hr.u 0 _ _).mono (fun j r hs => Or.inl hs)⟩
  · rw [stD_2 e, stD_2 e]
    refine eqD_row h (by decide) ?_
    show AS _ (u1 v 1 (n 1) _) (u1 v' 1 (n' 1) _)
    rw [← hc 1 (by decide)]
    exact (hr.u 1 (n 1) _).mono (fun j r hs => hs.imp id (fun q => ⟨ow_1.mp q.1, q.2.2⟩))
  · rw [stD_3 e, stD_3 e]
    exact ⟨hc, (hr.u 1 _ _).mono (fun j r hs => Or.inl hs)⟩
  · rw [stD_4 e, stD_4 e]
    refine eqD_row h (by decide) ?_
    show AS _ (adV v (n 2) _ _ _ _ _ _) (adV v' (n' 2) _ _ _ _ _ _)
    rw [← hc 2 (by decide)]
    exact (hr.ad (n 2) _ _ _ _ _ _).mono (fun j r hs => hs.imp id (fun q => ⟨(ow_2.mp q.1).1, (ow_2.mp q.1).2, q.2.2⟩))
  · rw [stD_5 e, stD_5 e, et, nI_clamp (show t < 2 ^ 31 from Nat.lt_trans ht hb)]
    exact ⟨hc, hr.mv ⟨by decide, ht⟩ ⟨by decide, ht⟩ ⟨by decide, ht⟩ ⟨by decide, ht⟩ _ _⟩
  · rw [stD_6 e, stD_6 e]
    exact ⟨hc, (hr.u 3 _ _).mono (fun j r hs => Or.inl hs)⟩
  · rw [stD_7 e, stD_7 e]
    exact ⟨hc, (hr.u 8 _ _).mono (fun j r hs => Or.inl hs)⟩
  · rw [stD_8 e, stD_8 e]
    refine eqD_row h (by decide) ?_
    show AS _ (owV v (n 3) _ _ _) (owV v' (n' 3) _ _ _)
    rw [← hc 3 (by decide)]
    exact (hr.ow (n 3) _ _ _).mono (fun j r hs => hs.imp id (fun q => ⟨ow_3.mp q.1, by omega, q.2.2⟩))
  · rw [stD_9 e, stD_9 e]
    have hs : AS (SC n (n 2) (n 3)) v v' := hr.mono (fun j r hs => (SC_self n j r).mp hs)
    have hp := cpF_congr (x := lg (7 * k + 1)) (y := lg (7 * k + 2)) hs (n 2) (Nat.le_refl _)
    show eqD (va_up (va_up n 2 _) 3 _, _) (va_up (va_up n' 2 (cpF _ _ (n' 2) (v', n' 2, n' 3)).2.1) 3 (cpF _ _ (n' 2) (v', n' 2, n' 3)).2.2, (cpF _ _ (n' 2) (v', n' 2, n' 3)).1)
    rw [← hc 2 (by decide), ← hc 3 (by decide), ← hp.1]
    refine ⟨fun i hi => ?_, hp.2⟩
    show va_up (va_up n 2 _) 3 _ i = va_up (va_up n' 2 _) 3 _ i
    simp only [va_at1, hc i hi]
theorem vA_congr (h : eqD z z') (hv : vA lg k z) : vA lg k z' := by
  have c0 := h.1 0 (by decide)
  have c1 := h.1 1 (by decide)
  have c2 := h.1 2 (by decide)
  have c3 := h.1 3 (by decide)
  unfold vA
  rw [← c0, ← c1, ← c2, ← c3]
  rcases hv with h1 | h1 | h1 | h1 | h1 | ⟨e, t, et, ht, p⟩ | h1 | ⟨e, t, et, ht, p⟩ | h1 | ⟨e, p, q, r, s⟩
  · exact Or.inl h1
  · exact Or.inr (Or.inl h1)
  · exact Or.inr (Or.inr (Or.inl h1))
  · exact Or.inr (Or.inr (Or.inr (Or.inl h1)))
  · exact Or.inr (Or.inr (Or.inr (Or.inr (Or.inl h1))))
  · refine Or.inr (Or.inr (Or.inr (Or.inr (Or.inr (Or.inl ⟨e, t, et, ht, ?_⟩)))))
    rw [← h.2 4 t ⟨by decide, ht⟩, ← h.2 5 t ⟨by decide, ht⟩, ← h.2 6 t ⟨by decide, ht⟩, ← h.2 7 t ⟨by decide, ht⟩]
    exact p
  · exact Or.inr (Or.inr (Or.inr (Or.inr (Or.inr (Or.inr (Or.inl h1))))))
  · refine Or.inr (Or.inr (Or.inr (Or.inr (Or.inr (Or.inr (Or.inr (Or.inl ⟨e, t, et, ht, ?_⟩)))))))
    rw [← h.2 8 t ⟨by decide, ht⟩]
    exact p
  · exact Or.inr (Or.inr (Or.inr (Or.inr (Or.inr (Or.inr (Or.inr (Or.inr (Or.inl h1))))))))
  · refine Or.inr (Or.inr (Or.inr (Or.inr (Or.inr (Or.inr (Or.inr (Or.inr (Or.inr ⟨e, p, q, ?_⟩))))))))
    have hs : AS (SC z.1 (z.1 2) (z.1 3)) z.2 z'.2 := h.2.mono (fun j r hs => (SC_self z.1 j r).mp hs)
    have hp := cpF_congr (x := lg (7 * k + 1)) (y := lg (7 * k + 2)) hs (z.1 2) (Nat.le_refl _)
    rw [← hp.1]
    exact ⟨r, s⟩
theorem stD_lg (h : ∀ i, i < 7 → lg (7 * k + i) = lg' (7 * k + i)) : stD lg k z = stD lg' k z := by
  have e0 : lg (7 * k) = lg' (7 * k) := h 0 (by decide)
  have e1 := h 1 (by decide)
  have e2 := h 2 (by decide)
  have e3 := h 3 (by decide)
  have e4 := h 4 (by decide)
  have e5 := h 5 (by decide)
  have e6 := h 6 (by decide)
  unfold stD
  rw [e0, e1, e2, e3, e4, e5, e6]
theorem vA_lg (h : ∀ i, i < 7 → lg (7 * k + i) = lg' (7 * k + i)) (hv : vA lg k z) : vA lg' k z := by
  have e0 : lg (7 * k) = lg' (7 * k) := h 0 (by decide)
  have e1 := h 1 (by decide)
  have e2 := h 2 (by decide)
  have e3 := h 3 (by decide)
  have e4 := h 4 (by decide)
  have e5 := h 5 (by decide)
  have e6 := h 6 (by decide)
  unfold vA at hv ⊢
  rw [e0, e1, e2, e3, e4, e5, e6] at hv
  exact hv
theorem rpF_lg : ∀ k, (∀ i, i < 7 * k → lg i = lg' i) → rpF lg k z = rpF lg' k z := by
  intro k
  induction k with
  | zero => intro _; rfl
  | succ k ih =>
    intro h
    rw [rpF, rpF, ih (fun i hi => h i (by omega)), stD_lg (fun i hi => h (7 * k + i) (by omega))]
theorem Dk_lg (h : ∀ i, i < 7 * k → lg i = lg' i) : Dk lg k = Dk lg' k := rpF_lg k h
theorem Dk_succ (lg : Nat → Int32) (k : Nat) : Dk lg (k + 1) = stD lg k (Dk lg k) := rfl
theorem mat_lg {vv : Ar} {dn : Bool} (h : ∀ i, i < 7 * (k + 1) → lg i = lg' i) (hm : mat vv lg k dn) : mat vv lg' k dn := by
  have e0 : lg (7 * k) = lg' (7 * k) := h _ (by omega)
  have e1 : lg (7 * k + 1) = lg' (7 * k + 1) := h _ (by omega)
  have e2 : lg (7 * k + 2) = lg' (7 * k + 2) := h _ (by omega)
  have e3 : lg (7 * k + 3) = lg' (7 * k + 3) := h _ (by omega)
  have d0 : Dk lg k = Dk lg' k := Dk_lg (fun i hi => h i (by omega))
  have d1 : Dk lg (k + 1) = Dk lg' (k + 1) := Dk_lg h
  unfold mat at hm ⊢
  rw [e0, e1, e2, e3, d0, d1] at hm
  exact hm
theorem mat_congr {vv vv' : Ar} {dn : Bool} (h : ∀ j, 12 ≤ j → vv' j k = vv j k) (hm : mat vv lg k dn) : mat vv' lg k dn := by
  unfold mat at hm ⊢
  rw [h 12 (by decide), h 13 (by decide), h 14 (by decide), h 15 (by decide)]
  exact hm
theorem ocF_hi {x y : Int32} {p : Ar × Nat} {j : Nat} (hj : 12 ≤ j) : ∀ i, (ocF x y i p).1 j = p.1 j := by
  intro i
  induction i with
  | zero => rfl
  | succ i ih =>
    by_cases hc : (ocF x y i p).1 9 i = x
    · rw [ocF_t hc]
      show owV _ _ _ _ _ j = _
      unfold owV
      rw [u1_row _ _ (by omega), u1_row _ _ (by omega), u1_row _ _ (by omega)]
      exact ih
    · rw [ocF_f hc]; exact ih
theorem adV_row (v : Ar) {r : Nat} {a b c d e f : Int32} {j : Nat} (hj : ¬ (2 ≤ j ∧ j ≤ 8)) : adV v r a b c d e f j = v j := by
  unfold adV
  rw [u1_row _ _ (by omega), u1_row _ _ (by omega), u1_row _ _ (by omega), u1_row _ _ (by omega), u1_row _ _ (by omega), u1_row _ _ (by omega), u1_row _ _ (by omega)]
theorem cpF_hi {x y : Int32} {p : Ar × Nat × Nat} {j : Nat} (hj : 12 ≤ j) : ∀ i, (cpF x y i p).1 j = p.1 j := by
  intro i
  induction i with
  | zero => rfl
  | succ i ih =>
    cases hc : thS (cpF x y i p).1 x i with
    | true =>
      rw [cpF_t hc]
      show (ocF _ _ _ _).1 j = _
      rw [ocF_hi hj]
      show adV _ _ _ _ _ _ _ _ j = _
      rw [adV_row _ (by omega)]
      exact ih
    | false => rw [cpF_f hc]; exact ih
theorem mvV_row (v : Ar) {t : Nat} {a b : Int32} {j : Nat} (hj : ¬ (4 ≤ j ∧ j ≤ 7)) : mvV v t a b j = v j := by
  unfold mvV
  rw [u1_row _ _ (by omega), u1_row _ _ (by omega), u1_row _ _ (by omega), u1_row _ _ (by omega)]
theorem owV_row (v : Ar) {t : Nat} {a b c : Int32} {j : Nat} (hj : ¬ (9 ≤ j ∧ j ≤ 11)) : owV v t a b c j = v j := by
  unfold owV
  rw [u1_row _ _ (by omega), u1_row _ _ (by omega), u1_row _ _ (by omega)]
theorem stD_hi {j : Nat} (hj : 12 ≤ j) : (stD lg k z).2 j = z.2 j := by
  unfold stD
  split
  · exact u1_row _ _ (by omega)
  split
  · exact u1_row _ _ (by omega)
  split
  · exact u1_row _ _ (by omega)
  split
  · exact u1_row _ _ (by omega)
  split
  · exact adV_row _ (by omega)
  split
  · exact mvV_row _ (by omega)
  split
  · exact u1_row _ _ (by omega)
  split
  · exact u1_row _ _ (by omega)
  split
  · exact owV_row _ (by omega)
  · exact cpF_hi hj _
theorem rpF_hi {j : Nat} (hj : 12 ≤ j) : ∀ k, (rpF lg k z).2 j = z.2 j := by
  intro k
  induction k with
  | zero => rfl
  | succ k ih => rw [rpF, stD_hi hj]; exact ih
/-! counts only grow -/
theorem cpF_up1 (x y : Int32) (p : Ar × Nat × Nat) (i : Nat) : (cpF x y i p).2.1 ≤ (cpF x y (i + 1) p).2.1 ∧ (cpF x y i p).2.2 ≤ (cpF x y (i + 1) p).2.2 := by
  cases hc : thS (cpF x y i p).1 x i with
  | true =>
    rw [cpF_t hc]
    refine ⟨Nat.le_succ _, ?_⟩
    show _ ≤ (ocF _ _ _ (_, (cpF x y i p).2.2)).2
    have := ocF_mono (nI i) (nI (cpF x y i p).2.1) (adV (cpF x y i p).1 (cpF x y i p).2.1 y ((cpF x y i p).1 3 i) ((cpF x y i p).1 4 i) ((cpF x y i p).1 5 i) ((cpF x y i p).1 6 i) ((cpF x y i p).1 7 i), (cpF x y i p).2.2) 0 (cpF x y i p).2.2
    rw [Nat.zero_add] at this
    exact this
  | false => rw [cpF_f hc]; exact ⟨Nat.le_refl _, Nat.le_refl _⟩
theorem cpF_up (x y : Int32) (p : Ar × Nat × Nat) (i : Nat) : ∀ m, (cpF x y i p).2.1 ≤ (cpF x y (i + m) p).2.1 ∧ (cpF x y i p).2.2 ≤ (cpF x y (i + m) p).2.2 := by
  intro m
  induction m with
  | zero => exact ⟨Nat.le_refl _, Nat.le_refl _⟩
  | succ m ih => have := cpF_up1 x y p (i + m); exact ⟨Nat.le_trans ih.1 this.1, Nat.le_trans ih.2 this.2⟩
theorem cpF_to (x y : Int32) (p : Ar × Nat × Nat) {i n : Nat} (h : i ≤ n) : (cpF x y i p).2.1 ≤ (cpF x y n p).2.1 ∧ (cpF x y i p).2.2 ≤ (cpF x y n p).2.2 := by
  have := cpF_up x y p i (n - i)
  rw [Nat.add_sub_cancel' h] at this
  exact this
theorem stD_le (i : Nat) : z.1 i ≤ (stD lg k z).1 i := by
  have hu : ∀ (m : Nat → Nat) (a b c : Nat), m a ≤ b → m c ≤ va_up m a b c := by
    intro m a b c hm
    rw [va_at1]
    by_cases hc : c = a
    · rw [if_pos hc, hc]; exact hm
    · rw [if_neg hc]; exact Nat.le_refl _
  unfold stD
  split
  · exact hu _ _ _ _ (Nat.le_succ _)
  split
  · exact Nat.le_refl _
  split
  · exact hu _ _ _ _ (Nat.le_succ _)
  split
  · exact Nat.le_refl _
  split
  · exact hu _ _ _ _ (Nat.le_succ _)
  split
  · exact Nat.le_refl _
  split
  · exact Nat.le_refl _
  split
  · exact Nat.le_refl _
  split
  · exact hu _ _ _ _ (Nat.le_succ _)
  · have h0 := cpF_to (lg (7 * k + 1)) (lg (7 * k + 2)) (z.2, z.1 2, z.1 3) (Nat.zero_le (z.1 2))
    refine Nat.le_trans (hu z.1 2 (cpF (lg (7 * k + 1)) (lg (7 * k + 2)) (z.1 2) (z.2, z.1 2, z.1 3)).2.1 i h0.1) (hu _ _ _ _ ?_)
    rw [va_at1, if_neg (by decide)]
    exact h0.2
theorem Dk_le (lg : Nat → Int32) (i k : Nat) : ∀ m, (Dk lg k).1 i ≤ (Dk lg (k + m)).1 i := by
  intro m
  induction m with
  | zero => exact Nat.le_refl _
  | succ m ih => exact Nat.le_trans ih (stD_le i)
theorem Dk_to (lg : Nat → Int32) (i : Nat) {k n : Nat} (h : k ≤ n) : (Dk lg k).1 i ≤ (Dk lg n).1 i := by
  have := Dk_le lg i k (n - k)
  rw [Nat.add_sub_cancel' h] at this
  exact this
/-! acts that bring rows leave the old ones -/
theorem ocF_old {x y : Int32} {v : Ar} {b : Nat} : ∀ i j r, ¬ (9 ≤ j ∧ j ≤ 11 ∧ b ≤ r) → (ocF x y i (v, b)).1 j r = v j r := by
  intro i
  induction i with
  | zero => intro j r _; rfl
  | succ i ih =>
    intro j r h
    by_cases hc : (ocF x y i (v, b)).1 9 i = x
    · have hm : b ≤ (ocF x y i (v, b)).2 := by have := ocF_mono x y (v, b) 0 i; rw [Nat.zero_add] at this; exact this
      rw [ocF_t hc]
      show owV _ _ _ _ _ j r = _
      unfold owV
      rw [u1_ne _ _ (by omega), u1_ne _ _ (by omega), u1_ne _ _ (by omega)]
      exact ih j r h
    · rw [ocF_f hc]; exact ih j r h
theorem adV_old (v : Ar) {i : Nat} {a b c d e f : Int32} {j r : Nat} (hj : ¬ (2 ≤ j ∧ j ≤ 8 ∧ r = i)) : adV v i a b c d e f j r = v j r := by
  unfold adV
  rw [u1_ne _ _ (by omega), u1_ne _ _ (by omega), u1_ne _ _ (by omega), u1_ne _ _ (by omega), u1_ne _ _ (by omega), u1_ne _ _ (by omega), u1_ne _ _ (by omega)]
theorem owV_old (v : Ar) {i : Nat} {a b c : Int32} {j r : Nat} (hj : ¬ (9 ≤ j ∧ j ≤ 11 ∧ r = i)) : owV v i a b c j r = v j r := by
  unfold owV
  rw [u1_ne _ _ (by omega), u1_ne _ _ (by omega), u1_ne _ _ (by omega)]
theorem cpF_old {x y : Int32} {v : Ar} {a b : Nat} : ∀ i j r, ¬ (2 ≤ j ∧ j ≤ 8 ∧ a ≤ r) → ¬ (9 ≤ j ∧ j ≤ 11 ∧ b ≤ r) → (cpF x y i (v, a, b)).1 j r = v j r := by
  intro i
  induction i with
  | zero => intro j r _ _; rfl
  | succ i ih =>
    intro j r h1 h2
    cases hc : thS (cpF x y i (v, a, b)).1 x i with
    | true =>
      have hm := cpF_to x y (v, a, b) (Nat.zero_le i)
      have hm1 : a ≤ (cpF x y i (v, a, b)).2.1 := hm.1
      have hm2 : b ≤ (cpF x y i (v, a, b)).2.2 := hm.2
      rw [cpF_t hc]
      show (ocF _ _ _ _).1 j r = _
      rw [ocF_old _ j r (by omega), adV_old _ (by omega)]
      exact ih j r h1 h2
    | false => rw [cpF_f hc]; exact ih j r h1 h2
theorem stD_old (hk : lg (7 * k) = 0 ∨ lg (7 * k) = 2 ∨ lg (7 * k) = 4 ∨ lg (7 * k) = 8 ∨ lg (7 * k) = 9) {j r : Nat} (hs : SN z.1 j r) : (stD lg k z).2 j r = z.2 j r := by
  obtain ⟨hj, hr⟩ := hs
  have g0 : j = 0 → r < z.1 0 := fun e => by rw [ow_0.mpr e] at hr; exact hr
  have g1 : j = 1 → r < z.1 1 := fun e => by rw [ow_1.mpr e] at hr; exact hr
  have g2 : 2 ≤ j ∧ j ≤ 8 → r < z.1 2 := fun e => by rw [ow_2.mpr e] at hr; exact hr
  have g3 : 9 ≤ j → r < z.1 3 := fun e => by rw [ow_3.mpr e] at hr; exact hr
  rcases hk with e | e | e | e | e
  · rw [stD_0 e]; exact u1_ne _ _ (by omega)
  · rw [stD_2 e]; exact u1_ne _ _ (by omega)
  · rw [stD_4 e]; exact adV_old _ (by omega)
  · rw [stD_8 e]; exact owV_old _ (by omega)
  · rw [stD_9 e]; exact cpF_old _ j r (by omega) (by omega)
end P42
