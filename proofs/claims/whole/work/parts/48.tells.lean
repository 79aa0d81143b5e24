/-! pure: what is told, alike -/
theorem i32_l_add {a b : Int32} (h1 : -2 ^ 31 ≤ a.toInt + b.toInt) (h2 : a.toInt + b.toInt < 2 ^ 31) : (a + b).toInt64 = a.toInt64 + b.toInt64 := by
  apply Int64.toInt_inj.mp
  rw [Int32.toInt_toInt64, Jvm.Kit.i32_add h1 h2, Jvm.Kit.i64_add (by rw [Int32.toInt_toInt64, Int32.toInt_toInt64]; omega) (by rw [Int32.toInt_toInt64, Int32.toInt_toInt64]; omega), Int32.toInt_toInt64, Int32.toInt_toInt64]
theorem swB_1 (x : Int32) : swB x 1 = (decide (x = 0) || decide (x = 1)) := by
  have e0 : x = 0 ↔ x.toInt = 0 := by rw [← Int32.toInt_inj]; exact Iff.rfl
  have e1 : x = 1 ↔ x.toInt = 1 := by rw [← Int32.toInt_inj]; exact Iff.rfl
  unfold swB
  rw [Bool.eq_iff_iff]
  simp only [Bool.and_eq_true, Bool.or_eq_true, decide_eq_true_eq, e0, e1]
  omega
theorem kTell_0 {a : Bool} (h : kTell a = 0) : a = true := by
  cases a
  · simp [kTell] at h
  · rfl
section P48i
variable {n : Nat → Nat} {v : Ar}
theorem ha_in (h : inv (n, v)) {i : Nat} (hi : i < n 2) : 1 ≤ (haC v i).toInt ∧ (haC v i).toInt ≤ 50 := by
  obtain ⟨q1, ⟨k, hk, ek⟩, _⟩ := h.2.1 i hi
  have hk8 : n 1 ≤ 8 := h.1.2.1
  have hk' : k < n 1 := hk
  have hz : 2 ≤ (v 1 k).toInt ∧ (v 1 k).toInt ≤ 100 := h.2.2.1 k hk
  unfold haC
  rw [show v 3 i = nI k from ek, nI_clamp (by omega), Jvm.Kit.i32_div (fun hc => absurd hc.2 (by decide)), show (2 : Int32).toInt = 2 from rfl, Int.tdiv_eq_ediv_of_nonneg (by omega)]
  omega
theorem jo_in (h : inv (n, v)) (w : Nat) (x y : Int32) : -50 ≤ (joM v n w x y).toInt ∧ (joM v n w x y).toInt ≤ 50 := by
  have b2 : n 2 ≤ 40 := h.1.2.2.1
  unfold joM
  cases hf : fstN (jnB v w x y) (n 2) with
  | none => rw [gaC_none]; exact ⟨by decide, by decide⟩
  | some j =>
    have hj := (fstN_spec hf).1
    have hh := ha_in h hj
    rw [gaC_some _ _ (by omega)]
    split
    · omega
    · rw [Jvm.Kit.i32_neg (by omega)]; omega
theorem sum_w {p : Nat → Bool} {f : Nat → Int32} : ∀ m, m ≤ 60 → (∀ i, i < m → inZ (f i) 1 2000) → (0 ≤ (sumI p f m).toInt ∧ (sumI p f m).toInt ≤ 2000 * m) ∧ (sumI p f m).toInt64 = sumL p (fun i => (f i).toInt64) m := by
  intro m
  induction m with
  | zero => intro _ _; exact ⟨⟨by simp [sumI], by simp [sumI]⟩, rfl⟩
  | succ m ih =>
    intro hm hf
    obtain ⟨⟨h1, h2⟩, h3⟩ := ih (by omega) (fun i hi => hf i (by omega))
    have hz : 1 ≤ (f m).toInt ∧ (f m).toInt ≤ 2000 := hf m (by omega)
    simp only [sumI, sumL]
    by_cases hp : p m = true
    · rw [if_pos hp, if_pos hp, Jvm.Kit.i32_add (by omega) (by omega), i32_l_add (by omega) (by omega), h3]
      exact ⟨⟨by omega, by omega⟩, rfl⟩
    · rw [if_neg hp, if_neg hp]
      exact ⟨⟨h1, by omega⟩, h3⟩
theorem asM_eq (v : Ar) (w : Nat) (h z : Int64) : ∀ m, asM v w h z m = z - sumL (fun i => decide (v 9 i = nI w)) (fun i => (v 11 i).toInt64) m * (if 0 ≤ lg_cmp h 200 then 200 else h) := by
  intro m
  induction m with
  | zero => simp [asM, sumL]
  | succ m ih =>
    simp only [asM, sumL]
    by_cases hp : v 9 m = nI w
    · rw [if_pos hp, if_pos (show decide (v 9 m = nI w) = true by simp [hp]), ih, Int64.add_mul, Int64.sub_sub]
    · rw [if_neg hp, if_neg (show ¬ decide (v 9 m = nI w) = true by simp [hp]), ih]
theorem mi_200 (h : Int32) : (miI h 200).toInt64 = if 0 ≤ lg_cmp h.toInt64 200 then 200 else h.toInt64 := by
  unfold miI
  have e : (0 ≤ lg_cmp h.toInt64 200) ↔ (200 ≤ h.toInt) := by
    rw [lg_cmp_ge, Int64.le_iff_toInt_le, Int32.toInt_toInt64]; exact Iff.rfl
  have e2 : ((200 : Int32) < h) ↔ 200 < h.toInt := by rw [Int32.lt_iff_toInt_lt]; exact Iff.rfl
  by_cases g : 200 < h.toInt
  · rw [if_pos (e2.mpr g), if_pos (e.mpr (by omega))]; rfl
  · rw [if_neg (fun q => g (e2.mp q))]
    by_cases g2 : h.toInt = 200
    · rw [if_pos (e.mpr (by omega))]
      apply Int64.toInt_inj.mp
      rw [Int32.toInt_toInt64, g2]; rfl
    · rw [if_neg (fun q => g2 (by have := e.mp q; omega))]
end P48i
section P48
variable {kn : Nat → Int32} {vv : Ar} {nn : Nat → Nat} {mk : Nat → Int32} {mv : Ar} {mn : Nat → Nat}
theorem Rel.al (h : Rel kn vv nn mk mv mn) {i : Nat} (hi : i < mn 2) : alX vv i = alX mv i := by
  unfold alX
  rw [h.r2 (by decide) (by decide) hi, h.r2 (j := 7) (by decide) (by decide) hi]
theorem Rel.ac (h : Rel kn vv nn mk mv mn) {w i : Nat} (hw : w < mn 2) (hi : i < mn 2) (x y : Int32) : acB kn vv w x y i = jnB mv w x y i := by
  unfold acB jnB
  rw [h.on hi, h.al hi, h.al hw, h.r2 (by decide) (by decide) hw]
  unfold thS enB
  rw [h.r2 (j := 4) (by decide) (by decide) hi, h.r2 (j := 5) (by decide) (by decide) hi, h.r2 (j := 6) (by decide) (by decide) hi, h.r2 (j := 7) (by decide) (by decide) hi]
theorem Rel.hc (h : Rel kn vv nn mk mv mn) {i : Nat} (hi : i < mn 2) : haC vv i = haC mv i := by
  obtain ⟨b0, b1, b2, b3⟩ := h.b
  obtain ⟨q1, ⟨k, hk, ek⟩, _⟩ := h.iM.2.1 i hi
  have hk' : k < mn 1 := hk
  unfold haC
  rw [h.r2 (by decide) (by decide) hi, show mv 3 i = nI k from ek, nI_clamp (by omega), h.r1 hk']
theorem Rel.jo (h : Rel kn vv nn mk mv mn) {w : Nat} (hw : w < mn 2) (x y : Int32) : gaC vv w (lsC kn vv nn w x y) = joM mv mn w x y := by
  obtain ⟨b0, b1, b2, b3⟩ := h.b
  unfold lsC joM
  rw [h.n (show 2 < 4 by decide), fstN_congr (q := jnB mv w x y) (fun i hi => h.ac hw hi x y)]
  cases hf : fstN (jnB mv w x y) (mn 2) with
  | none => rw [gaC_none, gaC_none]
  | some j =>
    have hj := (fstN_spec hf).1
    rw [gaC_some _ _ (by omega), gaC_some _ _ (by omega), h.hc hj]
theorem Rel.ne (h : Rel kn vv nn mk mv mn) {w : Nat} (hw : w < mn 2) : neC kn vv nn w = (neM mv mn w).toInt64 := by
  have g1 := leM_in h.iM hw
  have g2 := jo_in h.iM w (mv 4 w) (mv 5 w)
  have g3 := jo_in h.iM w (mv 6 w) (mv 7 w)
  unfold neC neM
  have g4 : (leM mv w + joM mv mn w (mv 4 w) (mv 5 w)).toInt = (leM mv w).toInt + (joM mv mn w (mv 4 w) (mv 5 w)).toInt := Jvm.Kit.i32_add (by omega) (by omega)
  rw [h.jo hw, h.jo hw, h.le hw, h.r2 (by decide) (by decide) hw, h.r2 (j := 5) (by decide) (by decide) hw, h.r2 (j := 6) (by decide) (by decide) hw, h.r2 (j := 7) (by decide) (by decide) hw]
  rw [i32_l_add (by omega) (by omega), i32_l_add (by omega) (by omega)]
theorem Rel.he (h : Rel kn vv nn mk mv mn) {x : Nat} (hx : x < mn 0) : heC kn vv x = heC mk mv x := by
  obtain ⟨b0, b1, b2, b3⟩ := h.b
  unfold heC
  rw [h.k (show 0 < 4 by decide)]
  by_cases g : mk 0 ≤ nI (x + 1)
  · rw [if_pos g, if_pos g]
  · have hj1 := ltC (h.m (show 0 < 4 by decide)) g (by omega) (by omega)
    rw [if_neg g, if_neg g, h.r0 hj1, h.r0 hx]
theorem Rel.ar (h : Rel kn vv nn mk mv mn) {w : Nat} (hw : w < mn 2) : arC kn vv nn w = arM mk mv mn w := by
  obtain ⟨b0, b1, b2, b3⟩ := h.b
  obtain ⟨⟨k, hk, ek⟩, _⟩ := h.iM.2.1 w hw
  have hk' : k < mn 0 := hk
  have ek' : mv 2 w = nI k := ek
  have ew : wdC vv nn (nI w) = sumI (fun i => decide (mv 9 i = nI w)) (mv 11) (mn 3) := by
    unfold wdC
    rw [h.n (show 3 < 4 by decide)]
    exact sumI_congr (fun i hi => by rw [h.r3 (by decide) (by decide) hi]) (fun i hi _ => h.r3 (by decide) (by decide) hi)
  have hs := sum_w (p := fun i => decide (mv 9 i = nI w)) (f := mv 11) (mn 3) b3 (fun i hi => (h.iM.2.2.2.2 i hi).2.2)
  unfold arC arM
  rw [asM_eq, ew, hs.2, mi_200, h.ne hw, h.r2 (by decide) (by decide) hw, ek', nI_clamp (by omega), h.he hk']
theorem Rel.op (h : Rel kn vv nn mk mv mn) (w : Int32) : cnt (fun i => decide (vv 9 i = w)) (nn 3) = cnt (fun i => decide (mv 9 i = w)) (mn 3) := by
  rw [h.n (show 3 < 4 by decide)]
  exact cnt_congr (fun i hi => by rw [h.r3 (by decide) (by decide) hi])
theorem Rel.wa (h : Rel kn vv nn mk mv mn) {w : Nat} (hw : w < mn 2) (y : Int32) : waR kn vv nn w y = waM mk mv mn w y := by
  unfold waR waM
  rw [h.op, h.ar hw, h.ne hw, h.le hw, h.r2 (j := 2) (by decide) (by decide) hw, h.r2 (j := 3) (by decide) (by decide) hw, h.r2 (j := 4) (by decide) (by decide) hw, h.r2 (j := 5) (by decide) (by decide) hw, h.r2 (j := 6) (by decide) (by decide) hw, h.r2 (j := 7) (by decide) (by decide) hw]
theorem Rel.sr (h : Rel kn vv nn mk mv mn) {t : Nat} (ht : t < mn 0) (y : Int32) : srR kn vv nn (nI t) y = saM mk mv mn (nI t) y := by
  obtain ⟨b0, b1, b2, b3⟩ := h.b
  have hcn := cnt_congr (p := fun i => onB kn vv (nI i) (nI t)) (q := thS mv (nI t)) (n := mn 2) (fun i hi => h.on hi _)
  have hsm := sumL_congr (p := fun i => onB kn vv (nI i) (nI t)) (q := thS mv (nI t)) (f := arC kn vv nn) (g := arM mk mv mn) (n := mn 2) (fun i hi => h.on hi _) (fun i hi _ => h.ar hi)
  have hle := cnt_le (thS mv (nI t)) (mn 2)
  unfold srR saM
  rw [h.n (show 2 < 4 by decide), hcn, hsm, nI_clamp (by omega), h.r0 ht, h.he ht, nI_l (by omega)]
theorem Rel.ty (h : Rel kn vv nn mk mv mn) {t : Nat} (ht : t < mn 1) (y : Int32) : tyR kn vv nn (nI t) y = taM mv mn (nI t) y := by
  obtain ⟨b0, b1, b2, b3⟩ := h.b
  have hcn := cnt_congr (p := fun i => wiB kn vv (nI i) (nI t)) (q := tyS mv (nI t)) (n := mn 2) (fun i hi => h.wi hi _)
  have hsm := sumL_congr (p := fun i => wiB kn vv (nI i) (nI t)) (q := tyS mv (nI t)) (f := neC kn vv nn) (g := fun i => (neM mv mn i).toInt64) (n := mn 2) (fun i hi => h.wi hi _) (fun i hi _ => h.ne hi)
  have hle := cnt_le (tyS mv (nI t)) (mn 2)
  unfold tyR taM
  rw [h.n (show 2 < 4 by decide), hcn, hsm, nI_clamp (by omega), h.r1 ht, nI_l (by omega)]
theorem hb_eq {n : Nat → Nat} {v : Ar} (h : inv (n, v)) {i : Nat} (hi : i < n 2) (x y : Int32) : coB v i x y = hbB v i x y := by
  obtain ⟨q1, q2, q3, q4, q5, q6, q7, q8⟩ := h.2.1 i hi
  have g3 : -1000 ≤ (v 4 i).toInt ∧ (v 4 i).toInt ≤ 1000 := q3
  have g4 : -1000 ≤ (v 5 i).toInt ∧ (v 5 i).toInt ≤ 1000 := q4
  have g5 : -1000 ≤ (v 6 i).toInt ∧ (v 6 i).toInt ≤ 1000 := q5
  have g6 : -1000 ≤ (v 7 i).toInt ∧ (v 7 i).toInt ≤ 1000 := q6
  have g7 : ¬ (v 4 i = v 6 i ↔ v 5 i = v 7 i) := q7
  have gh := ha_in h hi
  have x1 := x.toInt_lt
  have x2 := x.le_toInt
  have y1 := y.toInt_lt
  have y2 := y.le_toInt
  have z0 : (0 : Int32).toInt = 0 := rfl
  have mi : ∀ a b : Int32, ((miI a b).toInt = b.toInt ∧ b.toInt ≤ a.toInt) ∨ ((miI a b).toInt = a.toInt ∧ a.toInt ≤ b.toInt) := by
    intro a b; unfold miI
    by_cases q : b < a
    · rw [if_pos q]; rw [Int32.lt_iff_toInt_lt] at q; omega
    · rw [if_neg q]; rw [Int32.lt_iff_toInt_lt] at q; omega
  have ma : ∀ a b : Int32, ((maI a b).toInt = b.toInt ∧ a.toInt ≤ b.toInt) ∨ ((maI a b).toInt = a.toInt ∧ b.toInt ≤ a.toInt) := by
    intro a b; unfold maI
    by_cases q : a < b
    · rw [if_pos q]; rw [Int32.lt_iff_toInt_lt] at q; omega
    · rw [if_neg q]; rw [Int32.lt_iff_toInt_lt] at q; omega
  have li : ∀ a b : Int32, ((if b ≤ a then b else a).toInt = b.toInt ∧ b.toInt ≤ a.toInt) ∨ ((if b ≤ a then b else a).toInt = a.toInt ∧ a.toInt ≤ b.toInt) := by
    intro a b
    by_cases q : b ≤ a
    · rw [if_pos q]; rw [Int32.le_iff_toInt_le] at q; omega
    · rw [if_neg q]; rw [Int32.le_iff_toInt_le] at q; omega
  have lj : ∀ a b : Int32, ((if b ≤ a then a else b).toInt = a.toInt ∧ b.toInt ≤ a.toInt) ∨ ((if b ≤ a then a else b).toInt = b.toInt ∧ a.toInt ≤ b.toInt) := by
    intro a b
    by_cases q : b ≤ a
    · rw [if_pos q]; rw [Int32.le_iff_toInt_le] at q; omega
    · rw [if_neg q]; rw [Int32.le_iff_toInt_le] at q; omega
  have m1 := mi (v 4 i) (v 6 i)
  have m2 := ma (v 4 i) (v 6 i)
  have m3 := mi (v 5 i) (v 7 i)
  have m4 := ma (v 5 i) (v 7 i)
  have hneg : (-haC v i).toInt64.toInt = -(haC v i).toInt := by rw [Int32.toInt_toInt64, Jvm.Kit.i32_neg (by omega)]
  have s1 : (miI (v 4 i) (v 6 i) - 0).toInt = (miI (v 4 i) (v 6 i)).toInt - 0 := Jvm.Kit.i32_sub (by omega) (by omega)
  have s2 : (maI (v 4 i) (v 6 i) + 0).toInt = (maI (v 4 i) (v 6 i)).toInt + 0 := Jvm.Kit.i32_add (by omega) (by omega)
  have s3 : (miI (v 5 i) (v 7 i) - 0).toInt = (miI (v 5 i) (v 7 i)).toInt - 0 := Jvm.Kit.i32_sub (by omega) (by omega)
  have s4 : (maI (v 5 i) (v 7 i) + 0).toInt = (maI (v 5 i) (v 7 i)).toInt + 0 := Jvm.Kit.i32_add (by omega) (by omega)
  have t1 : (miI (v 4 i) (v 6 i) - haC v i).toInt = (miI (v 4 i) (v 6 i)).toInt - (haC v i).toInt := Jvm.Kit.i32_sub (by omega) (by omega)
  have t2 : (maI (v 4 i) (v 6 i) + haC v i).toInt = (maI (v 4 i) (v 6 i)).toInt + (haC v i).toInt := Jvm.Kit.i32_add (by omega) (by omega)
  have t3 : (miI (v 5 i) (v 7 i) - haC v i).toInt = (miI (v 5 i) (v 7 i)).toInt - (haC v i).toInt := Jvm.Kit.i32_sub (by omega) (by omega)
  have t4 : (maI (v 5 i) (v 7 i) + haC v i).toInt = (maI (v 5 i) (v 7 i)).toInt + (haC v i).toInt := Jvm.Kit.i32_add (by omega) (by omega)
  unfold coB hbB
  by_cases ha : alX v i = true
  · have e57 : v 5 i = v 7 i := by simpa [alX] using ha
    have f57 : (v 5 i).toInt = (v 7 i).toInt := by rw [e57]
    have ey : (y.toInt64 - (v 5 i).toInt64).toInt = y.toInt - (v 5 i).toInt := by
      rw [Jvm.Kit.i64_sub (by rw [Int32.toInt_toInt64, Int32.toInt_toInt64]; omega) (by rw [Int32.toInt_toInt64, Int32.toInt_toInt64]; omega), Int32.toInt_toInt64, Int32.toInt_toInt64]
    have n1 := li (v 4 i) (v 6 i)
    have n2 := lj (v 4 i) (v 6 i)
    simp only [ha, if_true, lg_cmp_lt, lg_cmp_gt]
    simp only [Int64.lt_iff_toInt_lt, Int32.lt_iff_toInt_lt, ey, hneg, Int32.toInt_toInt64]
    rw [s1, s2, t3, t4]
    rw [Bool.eq_iff_iff]
    simp only [Bool.and_eq_true, Bool.not_eq_true', decide_eq_false_iff_not]
    omega
  · have n57 : ¬ v 5 i = v 7 i := by simpa [alX] using ha
    have e46 : v 4 i = v 6 i := by
      by_cases p : v 4 i = v 6 i
      · exact p
      · exact absurd ⟨fun q => absurd q p, fun q => absurd q n57⟩ g7
    have f46 : (v 4 i).toInt = (v 6 i).toInt := by rw [e46]
    have ex : (x.toInt64 - (v 4 i).toInt64).toInt = x.toInt - (v 4 i).toInt := by
      rw [Jvm.Kit.i64_sub (by rw [Int32.toInt_toInt64, Int32.toInt_toInt64]; omega) (by rw [Int32.toInt_toInt64, Int32.toInt_toInt64]; omega), Int32.toInt_toInt64, Int32.toInt_toInt64]
    have ha' : alX v i = false := by simpa using ha
    have n1 := li (v 5 i) (v 7 i)
    have n2 := lj (v 5 i) (v 7 i)
    simp only [ha', Bool.false_eq_true, if_false, lg_cmp_lt, lg_cmp_gt]
    simp only [Int64.lt_iff_toInt_lt, Int32.lt_iff_toInt_lt, ex, hneg, Int32.toInt_toInt64]
    rw [t1, t2, s3, s4]
    rw [Bool.eq_iff_iff]
    simp only [Bool.and_eq_true, Bool.not_eq_true', decide_eq_false_iff_not]
    omega
theorem Rel.co (h : Rel kn vv nn mk mv mn) {i : Nat} (hi : i < mn 2) (x y : Int32) : coB vv i x y = hbB mv i x y := by
  rw [← hb_eq h.iM hi]
  unfold coB
  rw [h.al hi, h.hc hi, h.r2 (j := 4) (by decide) (by decide) hi, h.r2 (j := 5) (by decide) (by decide) hi, h.r2 (j := 6) (by decide) (by decide) hi, h.r2 (j := 7) (by decide) (by decide) hi]
theorem Rel.bd (h : Rel kn vv nn mk mv mn) {i : Nat} (hi : i < mn 2) (x y z : Int32) : bdB kn vv x y z i = bdM mv x y z i := by
  unfold bdB bdM
  rw [h.on hi, h.co hi]
theorem Rel.kt (h : Rel kn vv nn mk mv mn) (x y z : Int32) (q : Nat) : kth (bdB kn vv x y z) q (nn 2) = kth (bdM mv x y z) q (mn 2) := by
  unfold kth
  rw [h.n (show 2 < 4 by decide)]
  refine fstN_congr (fun i hi => ?_)
  rw [h.bd hi, cnt_congr (q := bdM mv x y z) (fun i' hi' => h.bd (by omega) x y z)]
theorem Rel.tl (h : Rel kn vv nn mk mv mn) (p q : Prop) [Decidable p] [Decidable q] (c : Int32) : ∃ nn' mn' : Nat → Nat, Rel (if p then kn else kn) (if q then vv else vv) nn' (va_up mk 6 c) mv mn' := by
  refine ⟨nn, mn, ?_⟩
  rw [ite_self, ite_self]
  exact h.k6 c
end P48
