/-! pure: what class and reference read alike -/
theorem i32_11 {v m : Int32} (h : 1 - v = m) : v = 1 - m := by
  rw [← h, Int32.sub_eq_add_neg 1 (1 - v), Int32.neg_sub, Int32.add_comm, Int32.sub_add_cancel]
theorem inB_eq (v a b : Int64) : inB v a b = (decide (a.toInt ≤ v.toInt) && decide (v.toInt ≤ b.toInt)) := by
  unfold inB
  have e1 : (lg_cmp v a < 0) ↔ ¬ (a.toInt ≤ v.toInt) := by rw [lg_cmp_lt, Int64.lt_iff_toInt_lt]; omega
  have e2 : (0 < lg_cmp v b) ↔ ¬ (v.toInt ≤ b.toInt) := by rw [lg_cmp_gt, Int64.lt_iff_toInt_lt]; omega
  simp only [e1, e2, decide_not, Bool.not_not]
theorem plB_eq (x y : Int64) : plB x y = ipB x y := by
  unfold ipB
  rw [inB_eq, inB_eq]
  unfold plB
  have e1 : (lg_cmp x (-1000) < 0) ↔ ¬ ((-1000 : Int64).toInt ≤ x.toInt) := by rw [lg_cmp_lt, Int64.lt_iff_toInt_lt]; omega
  have e2 : (0 < lg_cmp x 1000) ↔ ¬ (x.toInt ≤ (1000 : Int64).toInt) := by rw [lg_cmp_gt, Int64.lt_iff_toInt_lt]; omega
  have e3 : (lg_cmp y (-1000) < 0) ↔ ¬ ((-1000 : Int64).toInt ≤ y.toInt) := by rw [lg_cmp_lt, Int64.lt_iff_toInt_lt]; omega
  have e4 : (lg_cmp y 1000 ≤ 0) ↔ (y.toInt ≤ (1000 : Int64).toInt) := by rw [lg_cmp_le, Int64.le_iff_toInt_le]
  simp only [e1, e2, e3, e4, decide_not, Bool.not_not, Bool.and_assoc]
theorem ipB_in {x y : Int64} (h : ipB x y = true) : (-1000 ≤ x.toInt ∧ x.toInt ≤ 1000) ∧ (-1000 ≤ y.toInt ∧ y.toInt ≤ 1000) := by
  unfold ipB at h
  rw [inB_eq, inB_eq] at h
  simp only [Bool.and_eq_true, decide_eq_true_eq] at h
  exact h
theorem inB_lv (x : Int32) : inB x.toInt64 (-1000) 10000 = (!decide (x < -1000) && decide (x ≤ 10000)) := by
  rw [inB_eq, Int32.toInt_toInt64]
  have e1 : (x < -1000) ↔ ¬ ((-1000 : Int64).toInt ≤ x.toInt) := by
    rw [Int32.lt_iff_toInt_lt]
    have : (-1000 : Int32).toInt = (-1000 : Int64).toInt := rfl
    omega
  have e2 : (x ≤ 10000) ↔ (x.toInt ≤ (10000 : Int64).toInt) := by rw [Int32.le_iff_toInt_le]; exact Iff.rfl
  simp only [e1, e2, decide_not, Bool.not_not]
theorem inB_sw (x : Int32) {n : Nat} {b : Int64} (hb : b.toInt = n) : inB x.toInt64 0 b = swB x n := by
  rw [inB_eq, Int32.toInt_toInt64, hb]; rfl
theorem kAct_0 {a b : Bool} {d : Nat} (h : kAct a b d = 0) : a = true ∧ b = true ∧ d < 200 := by
  refine ⟨?_, ?_, kAct_lt h⟩
  · cases a
    · simp [kAct] at h
    · rfl
  · cases a
    · simp [kAct] at h
    · cases b
      · simp [kAct] at h
      · rfl
theorem ab_si (x : Int32) : abI x = siI x := by unfold abI siI; rw [Int32.zero_sub]
section P46
variable {kn : Nat → Int32} {vv : Ar} {nn : Nat → Nat} {mk : Nat → Int32} {mv : Ar} {mn : Nat → Nat}
theorem Rel.n (h : Rel kn vv nn mk mv mn) {i : Nat} (hi : i < 4) : nn i = mn i := h.2.2.1 i hi
theorem Rel.n4 (h : Rel kn vv nn mk mv mn) : nn 4 = mn 4 := h.2.2.2.1
theorem Rel.k (h : Rel kn vv nn mk mv mn) {i : Nat} (hi : i < 4) : kn i = mk i := by rw [h.1.1 i (by omega), h.2.1.1 i (by omega), h.n hi]
theorem Rel.m (h : Rel kn vv nn mk mv mn) {i : Nat} (hi : i < 4) : mk i = nI (mn i) := h.2.1.1 i (by omega)
theorem Rel.b (h : Rel kn vv nn mk mv mn) : mn 0 ≤ 6 ∧ mn 1 ≤ 8 ∧ mn 2 ≤ 40 ∧ mn 3 ≤ 60 := h.iM.1
theorem Rel.rw (h : Rel kn vv nn mk mv mn) {j r : Nat} (hj : j < 12) (h8 : ¬ j = 8) (hr : r < mn (ow j)) : vv j r = mv j r := by
  have := h.et.2 j r ⟨hj, hr⟩
  rw [show ((mn, trV vv) : (Nat → Nat) × Ar).2 j r = vv j r from trV_ne h8] at this
  exact this.symm
theorem Rel.r2 (h : Rel kn vv nn mk mv mn) {j r : Nat} (h2 : 2 ≤ j) (h7 : j ≤ 7) (hr : r < mn 2) : vv j r = mv j r := h.rw (by omega) (by omega) (by rw [ow_2.mpr ⟨h2, by omega⟩]; exact hr)
theorem Rel.r3 (h : Rel kn vv nn mk mv mn) {j r : Nat} (h2 : 9 ≤ j) (h7 : j ≤ 11) (hr : r < mn 3) : vv j r = mv j r := h.rw (by omega) (by omega) (by rw [ow_3.mpr h2]; exact hr)
theorem Rel.r0 (h : Rel kn vv nn mk mv mn) {r : Nat} (hr : r < mn 0) : vv 0 r = mv 0 r := h.rw (by decide) (by decide) hr
theorem Rel.r1 (h : Rel kn vv nn mk mv mn) {r : Nat} (hr : r < mn 1) : vv 1 r = mv 1 r := h.rw (by decide) (by decide) hr
theorem Rel.r8 (h : Rel kn vv nn mk mv mn) {r : Nat} (hr : r < mn 2) : (vv 8 r = 0) ↔ ¬ (mv 8 r = 0) := by
  have h1 : mv 8 r = trV vv 8 r := h.et.2 8 r ⟨by decide, hr⟩
  have h2 : mv 8 r = 1 - vv 8 r := h1
  have h3 : mv 8 r = 0 ∨ mv 8 r = 1 := (h.iM.2.1 r hr).2.2.2.2.2.2.2
  have h4 := i32_11 h2.symm
  rcases h3 with h3 | h3
  · rw [h4, h3]; decide
  · rw [h4, h3]; decide
theorem Rel.m8 (h : Rel kn vv nn mk mv mn) {r : Nat} (hr : r < mn 2) (h0 : ¬ mv 8 r = 0) : mv 8 r = 1 := ((h.iM.2.1 r hr).2.2.2.2.2.2.2).resolve_left h0
theorem Rel.tw (h : Rel kn vv nn mk mv mn) (x : Int32) : tW kn vv x = mW mk mv x := by
  unfold tW mW
  rw [h.k (show 2 < 4 by decide)]
  by_cases h0 : x < 0
  · simp [h0]
  · by_cases h1 : mk 2 ≤ x
    · simp [h1]
    · obtain ⟨b0, b1, b2, b3⟩ := h.b
      obtain ⟨j, hj, rfl⟩ := vp_in_of (ixW h0 h1 (h.m (show 2 < 4 by decide)) (Nat.le_refl _) (by omega)) (show mn 2 < 2 ^ 31 by omega)
      rw [nI_clamp (by omega)]
      have := h.r8 hj
      simp only [h0, h1, this, decide_not]
theorem Rel.on (h : Rel kn vv nn mk mv mn) {i : Nat} (hi : i < mn 2) (x : Int32) : onB kn vv (nI i) x = thS mv x i := by
  obtain ⟨b0, b1, b2, b3⟩ := h.b
  unfold onB thS
  rw [h.tw]
  unfold mW
  rw [nI_clamp (by omega), h.m (show 2 < 4 by decide), h.r2 (by decide) (by decide) hi]
  have g1 : ¬ nI i < 0 := nI_pos (by omega)
  have g2 : ¬ nI (mn 2) ≤ nI i := nI_ge hi (by omega)
  simp [g1, g2]
theorem Rel.wi (h : Rel kn vv nn mk mv mn) {i : Nat} (hi : i < mn 2) (x : Int32) : wiB kn vv (nI i) x = tyS mv x i := by
  obtain ⟨b0, b1, b2, b3⟩ := h.b
  unfold wiB tyS
  rw [h.tw]
  unfold mW
  rw [nI_clamp (by omega), h.m (show 2 < 4 by decide), h.r2 (by decide) (by decide) hi]
  have g1 : ¬ nI i < 0 := nI_pos (by omega)
  have g2 : ¬ nI (mn 2) ≤ nI i := nI_ge hi (by omega)
  simp [g1, g2]
theorem Rel.le (h : Rel kn vv nn mk mv mn) {i : Nat} (hi : i < mn 2) : leC vv i = leM mv i := by
  unfold leC leM
  rw [ab_si, ab_si, h.r2 (by decide) (by decide) hi, h.r2 (j := 4) (by decide) (by decide) hi, h.r2 (j := 7) (by decide) (by decide) hi, h.r2 (j := 5) (by decide) (by decide) hi]
theorem si_in {x : Int32} {n : Int} (h1 : -n ≤ x.toInt) (h2 : x.toInt ≤ n) (hn : n < 2 ^ 31) : 0 ≤ (siI x).toInt ∧ (siI x).toInt ≤ n ∧ (x.toInt = 0 → (siI x).toInt = 0) := by
  unfold siI
  by_cases h0 : 0 ≤ x
  · rw [if_pos h0]
    rw [Int32.le_iff_toInt_le] at h0
    have : (0 : Int32).toInt = 0 := rfl
    omega
  · rw [if_neg h0]
    rw [Int32.le_iff_toInt_le] at h0
    have e : (0 : Int32).toInt = 0 := rfl
    rw [Jvm.Kit.i32_neg (by omega)]
    omega
theorem leM_in {n : Nat → Nat} {v : Ar} (h : inv (n, v)) {i : Nat} (hi : i < n 2) : 0 ≤ (leM v i).toInt ∧ (leM v i).toInt ≤ 2000 := by
  obtain ⟨q1, q2, q3, q4, q5, q6, q7, q8⟩ := h.2.1 i hi
  have g3 : -1000 ≤ (v 4 i).toInt ∧ (v 4 i).toInt ≤ 1000 := q3
  have g4 : -1000 ≤ (v 5 i).toInt ∧ (v 5 i).toInt ≤ 1000 := q4
  have g5 : -1000 ≤ (v 6 i).toInt ∧ (v 6 i).toInt ≤ 1000 := q5
  have g6 : -1000 ≤ (v 7 i).toInt ∧ (v 7 i).toInt ≤ 1000 := q6
  have d1 : (v 6 i - v 4 i).toInt = (v 6 i).toInt - (v 4 i).toInt := Jvm.Kit.i32_sub (by omega) (by omega)
  have d2 : (v 7 i - v 5 i).toInt = (v 7 i).toInt - (v 5 i).toInt := Jvm.Kit.i32_sub (by omega) (by omega)
  have s1 := si_in (x := v 6 i - v 4 i) (n := 2000) (by omega) (by omega) (by decide)
  have s2 := si_in (x := v 7 i - v 5 i) (n := 2000) (by omega) (by omega) (by decide)
  have hz : (v 6 i - v 4 i).toInt = 0 ∨ (v 7 i - v 5 i).toInt = 0 := by
    have q7' : ¬ (v 4 i = v 6 i ↔ v 5 i = v 7 i) := q7
    by_cases p1 : v 4 i = v 6 i
    · left; rw [d1, p1]; omega
    · by_cases p2 : v 5 i = v 7 i
      · right; rw [d2, p2]; omega
      · exact absurd ⟨fun p => absurd p p1, fun p => absurd p p2⟩ q7'
  unfold leM
  rw [Jvm.Kit.i32_add (by omega) (by omega)]
  rcases hz with hz | hz
  · have := s1.2.2 hz; omega
  · have := s2.2.2 hz; omega
theorem fr_eq (v : Ar) (n : Nat → Nat) (x y z : Int32) : ∀ i, frB v n x y z i = (!(fstN (ovB v x y z) i).isSome && decide (n 3 < 60)) := by
  intro i
  induction i with
  | zero => simp [frB, fstN]
  | succ i ih =>
    rw [frB, ih]
    have e : (!decide (v 9 i = x) || decide (v 10 i + v 11 i ≤ y) || !decide (v 10 i < y + z)) = !ovB v x y z i := by
      unfold ovB
      have : (v 10 i < y + z) ↔ ¬ (y + z ≤ v 10 i) := by rw [Int32.not_le]
      simp only [this, decide_not, Bool.not_not, Bool.not_and]
      cases decide (v 9 i = x) <;> cases decide (v 10 i + v 11 i ≤ y) <;> cases decide (y + z ≤ v 10 i) <;> rfl
    rw [e]
    simp only [fstN]
    cases hf : fstN (ovB v x y z) i with
    | some j => simp
    | none =>
      cases ho : ovB v x y z i <;> simp
end P46
