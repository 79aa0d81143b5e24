/-! pure: rows, agreement -/
theorem u1_at (v : Ar) (j i : Nat) (x : Int32) (j' r : Nat) : u1 v j i x j' r = if j' = j ∧ r = i then x else v j' r := by
  by_cases h1 : j' = j
  · subst h1
    have e : u1 v j' i x j' = fun r => if r = i then x else v j' r := by
      simp only [u1, va_up, if_true]; rfl
    rw [e]
    by_cases h2 : r = i <;> simp [h2]
  · simp only [u1, va_up]; rw [if_neg h1, if_neg (fun hc => h1 hc.1)]
theorem u1_eq (v : Ar) (j i : Nat) (x : Int32) : u1 v j i x j i = x := by rw [u1_at, if_pos ⟨rfl, rfl⟩]
theorem u1_ne (v : Ar) {j i : Nat} (x : Int32) {j' r : Nat} (h : ¬ (j' = j ∧ r = i)) : u1 v j i x j' r = v j' r := by rw [u1_at, if_neg h]
theorem u1_row (v : Ar) {j i : Nat} (x : Int32) {j' : Nat} (h : ¬ j' = j) : u1 v j i x j' = v j' := by
  funext r; exact u1_ne v x (fun hc => h hc.1)
theorem trV_u1 (v : Ar) (j i : Nat) (x : Int32) : trV (u1 v j i x) = u1 (trV v) j i (if j = 8 then 1 - x else x) := by
  funext j' r
  by_cases h : j' = j ∧ r = i
  · obtain ⟨rfl, rfl⟩ := h
    rw [u1_eq]
    by_cases h8 : j' = 8
    · subst h8; simp only [trV, u1_eq, if_true]
    · simp only [trV, h8, if_false, u1_eq]
  · rw [u1_ne _ _ h]
    by_cases h8 : j' = 8
    · subst h8; simp only [trV, if_true, u1_ne _ _ h]
    · simp only [trV, h8, if_false, u1_ne _ _ h]
theorem trV_ne {v : Ar} {j r : Nat} (h : ¬ j = 8) : trV v j r = v j r := by simp [trV, h]
theorem ow_0 {j : Nat} : ow j = 0 ↔ j = 0 := by unfold ow; split <;> (try split) <;> (try split) <;> omega
theorem ow_1 {j : Nat} : ow j = 1 ↔ j = 1 := by unfold ow; split <;> (try split) <;> (try split) <;> omega
theorem ow_2 {j : Nat} : ow j = 2 ↔ 2 ≤ j ∧ j ≤ 8 := by unfold ow; split <;> (try split) <;> (try split) <;> omega
theorem ow_3 {j : Nat} : ow j = 3 ↔ 9 ≤ j := by unfold ow; split <;> (try split) <;> (try split) <;> omega
theorem ow_lt (j : Nat) : ow j < 4 := by unfold ow; split <;> (try split) <;> (try split) <;> omega
theorem AS.refl (S : Nat → Nat → Prop) (v : Ar) : AS S v v := fun _ _ _ => rfl
theorem AS.symm {S : Nat → Nat → Prop} {v v' : Ar} (h : AS S v v') : AS S v' v := fun j r hs => (h j r hs).symm
theorem AS.trans {S : Nat → Nat → Prop} {v v' v'' : Ar} (h : AS S v v') (h' : AS S v' v'') : AS S v v'' := fun j r hs => (h j r hs).trans (h' j r hs)
theorem AS.mono {S S' : Nat → Nat → Prop} {v v' : Ar} (h : AS S v v') (hs : ∀ j r, S' j r → S j r) : AS S' v v' := fun j r hj => h j r (hs j r hj)
theorem AS.u {S : Nat → Nat → Prop} {v v' : Ar} (h : AS S v v') (j i : Nat) (x : Int32) : AS (fun j' r => S j' r ∨ (j' = j ∧ r = i)) (u1 v j i x) (u1 v' j i x) := by
  intro j' r hs
  by_cases hc : j' = j ∧ r = i
  · obtain ⟨rfl, rfl⟩ := hc; rw [u1_eq, u1_eq]
  · rw [u1_ne _ _ hc, u1_ne _ _ hc]; exact h j' r (hs.resolve_right hc)
theorem AS.uo {S : Nat → Nat → Prop} (v : Ar) (j i : Nat) (x : Int32) (ho : ∀ j' r, S j' r → ¬ (j' = j ∧ r = i)) : AS S (u1 v j i x) v := fun j' r hs => u1_ne v x (ho j' r hs)
theorem AS.ad {S : Nat → Nat → Prop} {v v' : Ar} (h : AS S v v') (i : Nat) (a b c d e f : Int32) : AS (fun j r => S j r ∨ (2 ≤ j ∧ j ≤ 8 ∧ r = i)) (adV v i a b c d e f) (adV v' i a b c d e f) := by
  refine (((((((h.u 2 i a).u 3 i b).u 4 i c).u 5 i d).u 6 i e).u 7 i f).u 8 i 1).mono (fun j r hs => ?_)
  rcases hs with hs | ⟨h1, h2, rfl⟩
  · exact Or.inl (Or.inl (Or.inl (Or.inl (Or.inl (Or.inl (Or.inl hs))))))
  · have : j = 2 ∨ j = 3 ∨ j = 4 ∨ j = 5 ∨ j = 6 ∨ j = 7 ∨ j = 8 := by omega
    rcases this with rfl | rfl | rfl | rfl | rfl | rfl | rfl <;> simp
theorem AS.ow {S : Nat → Nat → Prop} {v v' : Ar} (h : AS S v v') (i : Nat) (a b c : Int32) : AS (fun j r => S j r ∨ (9 ≤ j ∧ j ≤ 11 ∧ r = i)) (owV v i a b c) (owV v' i a b c) := by
  refine (((h.u 9 i a).u 10 i b).u 11 i c).mono (fun j r hs => ?_)
  rcases hs with hs | ⟨h1, h2, rfl⟩
  · exact Or.inl (Or.inl (Or.inl hs))
  · have : j = 9 ∨ j = 10 ∨ j = 11 := by omega
    rcases this with rfl | rfl | rfl <;> simp
theorem AS.mv {S : Nat → Nat → Prop} {v v' : Ar} (h : AS S v v') {t : Nat} (h4 : S 4 t) (h5 : S 5 t) (h6 : S 6 t) (h7 : S 7 t) (a b : Int32) : AS S (mvV v t a b) (mvV v' t a b) := by
  unfold mvV
  rw [h 4 t h4, h 5 t h5, h 6 t h6, h 7 t h7]
  exact ((((h.u 4 t _).u 6 t _).u 5 t _).u 7 t _).mono (fun j r hs => Or.inl (Or.inl (Or.inl (Or.inl hs))))
theorem va_at1 {α : Type} (n : Nat → α) (i : Nat) (a : α) (k : Nat) : va_up n i a k = if k = i then a else n k := by simp only [va_up]
theorem SN_add {n : Nat → Nat} {i j r : Nat} (h : SN (va_up n i (n i + 1)) j r) : SN n j r ∨ (j < 12 ∧ ow j = i ∧ r = n i) := by
  obtain ⟨h1, h2⟩ := h
  rw [va_at1] at h2
  by_cases hc : ow j = i
  · rw [if_pos hc] at h2
    by_cases hr : r = n i
    · exact Or.inr ⟨h1, hc, hr⟩
    · exact Or.inl ⟨h1, by rw [hc]; omega⟩
  · rw [if_neg hc] at h2; exact Or.inl ⟨h1, h2⟩
/-- counts and rows agree -/
def eqD (z z' : (Nat → Nat) × Ar) : Prop := (∀ i, i < 4 → z.1 i = z'.1 i) ∧ AS (SN z.1) z.2 z'.2
theorem SN_eq {n n' : Nat → Nat} (h : ∀ i, i < 4 → n i = n' i) {j r : Nat} (hs : SN n j r) : SN n' j r := ⟨hs.1, by rw [← h _ (ow_lt j)]; exact hs.2⟩
theorem eqD.refl (z : (Nat → Nat) × Ar) : eqD z z := ⟨fun _ _ => rfl, AS.refl _ _⟩
theorem eqD.symm {z z' : (Nat → Nat) × Ar} (h : eqD z z') : eqD z' z := ⟨fun i hi => (h.1 i hi).symm, (h.2.symm).mono (fun j r hs => SN_eq (fun i hi => (h.1 i hi).symm) hs)⟩
theorem eqD.trans {z z' z'' : (Nat → Nat) × Ar} (h : eqD z z') (h' : eqD z' z'') : eqD z z'' := ⟨fun i hi => (h.1 i hi).trans (h'.1 i hi), h.2.trans (h'.2.mono (fun j r hs => SN_eq h.1 hs))⟩
/-! the acts of the log, one by one -/
section STD
variable {lg : Nat → Int32} {k : Nat} {z : (Nat → Nat) × Ar}
theorem stD_0 (e : lg (7 * k) = 0) : stD lg k z = (va_up z.1 0 (z.1 0 + 1), u1 z.2 0 (z.1 0) (lg (7 * k + 1))) := by simp [stD, e]
theorem stD_1 (e : lg (7 * k) = 1) : stD lg k z = (z.1, u1 z.2 0 (lg (7 * k + 1)).toNatClampNeg (lg (7 * k + 2))) := by simp [stD, e]
theorem stD_2 (e : lg (7 * k) = 2) : stD lg k z = (va_up z.1 1 (z.1 1 + 1), u1 z.2 1 (z.1 1) (lg (7 * k + 1))) := by simp [stD, e]
theorem stD_3 (e : lg (7 * k) = 3) : stD lg k z = (z.1, u1 z.2 1 (lg (7 * k + 1)).toNatClampNeg (lg (7 * k + 2))) := by simp [stD, e]
theorem stD_4 (e : lg (7 * k) = 4) : stD lg k z = (va_up z.1 2 (z.1 2 + 1), adV z.2 (z.1 2) (lg (7 * k + 1)) (lg (7 * k + 2)) (lg (7 * k + 3)) (lg (7 * k + 4)) (lg (7 * k + 5)) (lg (7 * k + 6))) := by simp [stD, e]
theorem stD_5 (e : lg (7 * k) = 5) : stD lg k z = (z.1, mvV z.2 (lg (7 * k + 1)).toNatClampNeg (lg (7 * k + 2)) (lg (7 * k + 3))) := by simp [stD, e]
theorem stD_6 (e : lg (7 * k) = 6) : stD lg k z = (z.1, u1 z.2 3 (lg (7 * k + 1)).toNatClampNeg (lg (7 * k + 2))) := by simp [stD, e]
theorem stD_7 (e : lg (7 * k) = 7) : stD lg k z = (z.1, u1 z.2 8 (lg (7 * k + 1)).toNatClampNeg 0) := by simp [stD, e]
theorem stD_8 (e : lg (7 * k) = 8) : stD lg k z = (va_up z.1 3 (z.1 3 + 1), owV z.2 (z.1 3) (lg (7 * k + 1)) (lg (7 * k + 2)) (lg (7 * k + 3))) := by simp [stD, e]
theorem stD_9 (e : lg (7 * k) = 9) : stD lg k z = (va_up (va_up z.1 2 (cpF (lg (7 * k + 1)) (lg (7 * k + 2)) (z.1 2) (z.2, z.1 2, z.1 3)).2.1) 3 (cpF (lg (7 * k + 1)) (lg (7 * k + 2)) (z.1 2) (z.2, z.1 2, z.1 3)).2.2, (cpF (lg (7 * k + 1)) (lg (7 * k + 2)) (z.1 2) (z.2, z.1 2, z.1 3)).1) := by simp [stD, e]
end STD
/-! copies -/
def SC (n : Nat → Nat) (a b : Nat) : Nat → Nat → Prop := SN (va_up (va_up n 2 a) 3 b)
theorem SC_2 {n : Nat → Nat} {a b j r : Nat} (hj : 2 ≤ j) (hj8 : j ≤ 8) : SC n a b j r ↔ r < a := by
  have h : ow j = 2 := ow_2.mpr ⟨hj, hj8⟩
  simp only [SC, SN, va_at1, h]
  exact ⟨fun h => h.2, fun h => ⟨by omega, h⟩⟩
theorem SC_3 {n : Nat → Nat} {a b j r : Nat} (hj : 9 ≤ j) (hj8 : j ≤ 11) : SC n a b j r ↔ r < b := by
  have h : ow j = 3 := ow_3.mpr hj
  simp only [SC, SN, va_at1, h]
  exact ⟨fun h => h.2, fun h => ⟨by omega, h⟩⟩
theorem SC_a {n : Nat → Nat} {a b j r : Nat} (h : SC n (a + 1) b j r) : SC n a b j r ∨ (2 ≤ j ∧ j ≤ 8 ∧ r = a) := by
  by_cases h2 : 2 ≤ j ∧ j ≤ 8
  · rw [SC_2 h2.1 h2.2] at h
    by_cases hr : r = a
    · exact Or.inr ⟨h2.1, h2.2, hr⟩
    · exact Or.inl ((SC_2 h2.1 h2.2).mpr (by omega))
  · have ho : ¬ ow j = 2 := fun hc => h2 (ow_2.mp hc)
    simp only [SC, SN, va_at1, ho, if_false] at h ⊢
    exact Or.inl h
theorem SC_b {n : Nat → Nat} {a b j r : Nat} (h : SC n a (b + 1) j r) : SC n a b j r ∨ (9 ≤ j ∧ j ≤ 11 ∧ r = b) := by
  by_cases h2 : 9 ≤ j
  · have h12 : j < 12 := h.1
    rw [SC_3 h2 (by omega)] at h
    by_cases hr : r = b
    · exact Or.inr ⟨h2, by omega, hr⟩
    · exact Or.inl ((SC_3 h2 (by omega)).mpr (by omega))
  · have ho : ¬ ow j = 3 := fun hc => h2 (ow_3.mp hc)
    simp only [SC, SN, va_at1, ho, if_false] at h ⊢
    exact Or.inl h
theorem SC_self (n : Nat → Nat) (j r : Nat) : SC n (n 2) (n 3) j r ↔ SN n j r := by
  simp only [SC, SN, va_at1]
  by_cases h3 : ow j = 3
  · simp [h3]
  · by_cases h2 : ow j = 2 <;> simp [h3, h2]
theorem ocF_congr {n : Nat → Nat} {a b : Nat} {x y : Int32} {v v' : Ar} (h : AS (SC n a b) v v') : ∀ i, i ≤ b → (ocF x y i (v, b)).2 = (ocF x y i (v', b)).2 ∧ AS (SC n a (ocF x y i (v, b)).2) (ocF x y i (v, b)).1 (ocF x y i (v', b)).1 := by
  intro i
  induction i with
  | zero => intro _; exact ⟨rfl, h⟩
  | succ i ih =>
    intro hi
    obtain ⟨e1, e2⟩ := ih (by omega)
    have hm : b ≤ (ocF x y i (v, b)).2 := by have := ocF_mono x y (v, b) 0 i; rw [Nat.zero_add] at this; exact this
    have r9 := e2 9 i ((SC_3 (by decide) (by decide)).mpr (by omega))
    have r10 := e2 10 i ((SC_3 (by decide) (by decide)).mpr (by omega))
    have r11 := e2 11 i ((SC_3 (by decide) (by decide)).mpr (by omega))
    by_cases hc : (ocF x y i (v, b)).1 9 i = x
    · rw [ocF_t hc, ocF_t (show (ocF x y i (v', b)).1 9 i = x by rw [← r9]; exact hc)]
      refine ⟨by show _ + 1 = _ + 1; rw [e1], ?_⟩
      show AS (SC n a ((ocF x y i (v, b)).2 + 1)) (owV _ _ _ _ _) (owV _ _ _ _ _)
      rw [← e1, ← r10, ← r11]
      exact (e2.ow _ _ _ _).mono (fun j r hs => SC_b hs)
    · rw [ocF_f hc, ocF_f (show ¬ (ocF x y i (v', b)).1 9 i = x by rw [← r9]; exact hc)]
      exact ⟨e1, e2⟩
theorem cpF_congr {n : Nat → Nat} {a b : Nat} {x y : Int32} {v v' : Ar} (h : AS (SC n a b) v v') : ∀ i, i ≤ a → (cpF x y i (v, a, b)).2 = (cpF x y i (v', a, b)).2 ∧ AS (SC n (cpF x y i (v, a, b)).2.1 (cpF x y i (v, a, b)).2.2) (cpF x y i (v, a, b)).1 (cpF x y i (v', a, b)).1 := by
  intro i
  induction i with
  | zero => intro _; exact ⟨rfl, h⟩
  | succ i ih =>
    intro hi
    obtain ⟨e1, e2⟩ := ih (by omega)
    have hm : a ≤ (cpF x y i (v, a, b)).2.1 := cpF_mono1 x y (v, a, b) i
    have rr : ∀ j, 2 ≤ j → j ≤ 8 → (cpF x y i (v, a, b)).1 j i = (cpF x y i (v', a, b)).1 j i := fun j h1 h2 => e2 j i ((SC_2 h1 h2).mpr (by omega))
    have et : thS (cpF x y i (v, a, b)).1 x i = thS (cpF x y i (v', a, b)).1 x i := by simp only [thS, rr 8 (by decide) (by decide), rr 2 (by decide) (by decide)]
    cases hc : thS (cpF x y i (v, a, b)).1 x i with
    | true =>
      rw [cpF_t hc, cpF_t (by rw [← et]; exact hc)]
      have ha := (e2.ad (cpF x y i (v, a, b)).2.1 y ((cpF x y i (v, a, b)).1 3 i) ((cpF x y i (v, a, b)).1 4 i) ((cpF x y i (v, a, b)).1 5 i) ((cpF x y i (v, a, b)).1 6 i) ((cpF x y i (v, a, b)).1 7 i)).mono (S' := SC n ((cpF x y i (v, a, b)).2.1 + 1) (cpF x y i (v, a, b)).2.2) (fun j r hs => SC_a hs)
      have ho := ocF_congr (x := nI i) (y := nI (cpF x y i (v, a, b)).2.1) ha (cpF x y i (v, a, b)).2.2 (Nat.le_refl _)
      simp only [cpS]
      rw [← e1, ← rr 3 (by decide) (by decide), ← rr 4 (by decide) (by decide), ← rr 5 (by decide) (by decide), ← rr 6 (by decide) (by decide), ← rr 7 (by decide) (by decide)]
      exact ⟨by rw [ho.1], ho.2⟩
    | false =>
      rw [cpF_f hc, cpF_f (by rw [← et]; exact hc)]
      exact ⟨e1, e2⟩
