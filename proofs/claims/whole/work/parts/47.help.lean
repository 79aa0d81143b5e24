/-! pure: helps for the acts -/
theorem in_lv {x : Int32} (h : inB x.toInt64 (-1000) 10000 = true) : inZ x (-1000) 10000 := by
  rw [inB_eq, Int32.toInt_toInt64] at h
  simp only [Bool.and_eq_true, decide_eq_true_eq] at h
  exact h
theorem in_th {x : Int32} (h : thB x = true) : inZ x 2 100 := by
  simp only [thB, Bool.and_eq_true, Bool.not_eq_true', decide_eq_false_iff_not] at h
  have h1 := h.1.1
  have h2 := h.1.2
  rw [Int32.lt_iff_toInt_lt] at h1 h2
  have e1 : (2 : Int32).toInt = 2 := rfl
  have e2 : (100 : Int32).toInt = 100 := rfl
  exact ⟨by omega, by omega⟩
theorem sum_in {p y : Int32} (h : -1000 ≤ (p.toInt64 + y.toInt64).toInt ∧ (p.toInt64 + y.toInt64).toInt ≤ 1000) : inZ (p + y) (-1000) 1000 := by
  have p1 := p.toInt_lt
  have p2 := p.le_toInt
  have y1 := y.toInt_lt
  have y2 := y.le_toInt
  rw [Jvm.Kit.i64_add (by rw [Int32.toInt_toInt64, Int32.toInt_toInt64]; omega) (by rw [Int32.toInt_toInt64, Int32.toInt_toInt64]; omega), Int32.toInt_toInt64, Int32.toInt_toInt64] at h
  unfold inZ
  rw [Jvm.Kit.i32_add (by omega) (by omega)]
  exact h
theorem pl_in {x y : Int32} (h : ipB x.toInt64 y.toInt64 = true) : inZ x (-1000) 1000 ∧ inZ y (-1000) 1000 := by
  have := ipB_in h
  rw [Int32.toInt_toInt64, Int32.toInt_toInt64] at this
  exact this
theorem nwV_old (v : Ar) {i : Nat} {a b c d e f : Int32} {j r : Nat} (hj : ¬ (2 ≤ j ∧ j ≤ 8 ∧ r = i)) : nwV v i a b c d e f j r = v j r := by
  unfold nwV
  rw [u1_ne _ _ (by omega), u1_ne _ _ (by omega), u1_ne _ _ (by omega), u1_ne _ _ (by omega), u1_ne _ _ (by omega), u1_ne _ _ (by omega), u1_ne _ _ (by omega)]
theorem trV_nw (v : Ar) (i : Nat) (a b c d e f : Int32) : trV (nwV v i a b c d e f) = adV (trV v) i a b c d e f := by
  unfold nwV adV
  simp only [trV_u1]
  rfl
theorem trV_ow (v : Ar) (i : Nat) (a b c : Int32) : trV (owV v i a b c) = owV (trV v) i a b c := by
  unfold owV
  simp only [trV_u1]
  rfl
theorem tail_n {lg : Nat → Int32} {k : Nat} {n : Nat → Nat} {v vv1 w : Ar} (hk : lg (7 * k) = 1 ∨ lg (7 * k) = 3 ∨ lg (7 * k) = 6 ∨ lg (7 * k) = 5 ∨ lg (7 * k) = 7) : ∀ j r, j < 12 → n (ow j) ≤ r → r < (stD lg k (n, v)).1 (ow j) → vv1 j r = w j r := by
  intro j r hj h1 h2
  rw [stD_n hk] at h2
  have h2' : r < n (ow j) := h2
  omega
section P47
variable {kn : Nat → Int32} {vv : Ar} {nn : Nat → Nat} {mk : Nat → Int32} {mv : Ar} {mn : Nat → Nat}
theorem Rel.bn (h : Rel kn vv nn mk mv mn) {j : Nat} (hj : j < mn 0) (y : Int32) : bnB kn vv j y = bnB mk mv j y := by
  obtain ⟨b0, b1, b2, b3⟩ := h.b
  unfold bnB
  rw [h.k (show 0 < 4 by decide), h.r0 (show j - 1 < mn 0 by omega)]
  by_cases g : mk 0 ≤ nI (j + 1)
  · simp [g]
  · have hj1 := ltC (h.m (show 0 < 4 by decide)) g (by omega) (by omega)
    rw [h.r0 hj1]
theorem Rel.ha (h : Rel kn vv nn mk mv mn) {i : Nat} (hi : i < 4) {x : Int32} (hx : haB (mk i) x = true) : ∃ t, x = nI t ∧ t < mn i := by
  have hb := h.b
  have hn : mn i < 2 ^ 31 := by
    have : ∀ i, i < 4 → mn i < 2 ^ 31 := lt4 (by omega) (by omega) (by omega) (by omega)
    exact this i hi
  obtain ⟨j, hj, e⟩ := haB_n (h.m hi) hn hx
  exact ⟨j, e, hj⟩
theorem Rel.mw (h : Rel kn vv nn mk mv mn) {x : Int32} (hx : mW mk mv x = true) : ∃ t, x = nI t ∧ t < mn 2 ∧ x.toNatClampNeg = t ∧ ¬ mv 8 t = 0 := by
  obtain ⟨b0, b1, b2, b3⟩ := h.b
  obtain ⟨j, hj, e⟩ := mW_n h.2.1 hx
  have ec : x.toNatClampNeg = j := by rw [e]; exact nI_clamp (by omega)
  simp only [mW, Bool.and_eq_true, Bool.not_eq_true', decide_eq_false_iff_not] at hx
  rw [ec] at hx
  exact ⟨j, e, hj, ec, hx.2⟩
end P47
