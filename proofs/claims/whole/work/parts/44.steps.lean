/-! pure: the class's step forward and backward, against the log's drawings -/
def CS (lg : Nat → Int32) (d H : Nat) (vv : Ar) : Prop :=
  (∀ k, k < H → vA lg k (Dk lg k)) ∧ AS (SN (Dk lg d).1) (trV vv) (Dk lg d).2 ∧ (∀ k, k < H → mat vv lg k (decide (k < d))) ∧
  (∀ k, d ≤ k → k < H → ∀ j r, j < 12 → (Dk lg k).1 (ow j) ≤ r → r < (Dk lg (k + 1)).1 (ow j) → trV vv j r = (Dk lg (k + 1)).2 j r)
theorem trV_congr {vv vv' : Ar} {j r : Nat} (h : vv' j r = vv j r) : trV vv' j r = trV vv j r := by
  by_cases h8 : j = 8
  · subst h8; simp only [trV, if_true, h]
  · simp only [trV, h8, if_false, h]
section P44
variable {lg : Nat → Int32} {d H e e0 : Nat} {vv vv' : Ar}
theorem CS.put (h : CS lg e0 H vv) (he : (e0 = d ∧ e = d + 1) ∨ (e0 = d + 1 ∧ e = d)) (hc : ∀ i, i < 4 → (Dk lg (d + 1)).1 i = (Dk lg d).1 i)
    (hh : ∀ j k, 12 ≤ j → ¬ k = d → vv' j k = vv j k) (hm : mat vv' lg d (decide (d < e))) (hr : AS (SN (Dk lg e).1) (trV vv') (Dk lg e).2)
    (ho : ∀ j r, j < 12 → (Dk lg d).1 (ow j) ≤ r → vv' j r = vv j r) : CS lg e H vv' := by
  obtain ⟨h1, h2, h3, h4⟩ := h
  refine ⟨h1, hr, fun k hk => ?_, fun k hk1 hk2 j r hj q1 q2 => ?_⟩
  · by_cases hkd : k = d
    · subst hkd; exact hm
    · have hd : decide (k < e) = decide (k < e0) := by
        have : k < e ↔ k < e0 := by omega
        simp only [this]
      rw [hd]
      exact mat_congr (fun j hj => hh j k hj hkd) (h3 k hk)
  · by_cases hkd : k = d
    · subst hkd
      rw [hc _ (ow_lt j)] at q2
      omega
    · have hdk : d ≤ k := by omega
      have := Dk_to lg (ow j) hdk
      rw [trV_congr (ho j r hj (by omega))]
      exact h4 k (by omega) hk2 j r hj q1 q2
theorem CS.come (h : CS lg e0 H vv) (he : (e0 = d ∧ e = d + 1) ∨ (e0 = d + 1 ∧ e = d)) (hd : d < H)
    (hm : mat vv lg d (decide (d < e))) (hr : ∀ j r, SN (Dk lg d).1 j r → (Dk lg (d + 1)).2 j r = (Dk lg d).2 j r) : CS lg e H vv := by
  obtain ⟨h1, h2, h3, h4⟩ := h
  refine ⟨h1, fun j r hs => ?_, fun k hk => ?_, fun k hk1 hk2 j r hj q1 q2 => ?_⟩
  · rcases he with ⟨rfl, rfl⟩ | ⟨rfl, rfl⟩
    · by_cases hb : r < (Dk lg e0).1 (ow j)
      · rw [hr j r ⟨hs.1, hb⟩]; exact h2 j r ⟨hs.1, hb⟩
      · exact h4 e0 (Nat.le_refl _) hd j r hs.1 (by omega) hs.2
    · rw [← hr j r hs]
      exact h2 j r ⟨hs.1, Nat.lt_of_lt_of_le hs.2 (Dk_to lg (ow j) (Nat.le_succ _))⟩
  · by_cases hkd : k = d
    · subst hkd; exact hm
    · have hd : decide (k < e) = decide (k < e0) := by
        have : k < e ↔ k < e0 := by omega
        simp only [this]
      rw [hd]
      exact h3 k hk
  · by_cases hkd : e0 ≤ k
    · exact h4 k hkd hk2 j r hj q1 q2
    · have hk : k = d := by omega
      have he0 : e0 = k + 1 := by omega
      subst he0
      exact h2 j r ⟨hj, q2⟩
theorem stK_hi (kn : Nat → Int32) (vv : Ar) (q : Nat) (x : Int32) {i : Nat} (hi : 4 ≤ i) : stK kn vv q x i = kn i := by
  unfold stK
  split
  · rw [va_at1, if_neg (by omega)]
  split
  · rw [va_at1, if_neg (by omega)]
  split
  · rw [va_at1, if_neg (by omega), va_at1, if_neg (by omega)]
  · rfl
theorem i32_back (x y : Int32) : x + y + -1 * y = x := by rw [← Int32.neg_eq_neg_one_mul, Int32.add_neg_eq_sub, Int32.add_sub_cancel]
theorem nI_back {n m : Nat} (h : n ≤ m) : nI m + -1 * nI (m - n) = nI n := by
  have e : m = n + (m - n) := by omega
  rw [show nI m = nI n + nI (m - n) by rw [nI_add]; rw [← e]]
  exact i32_back _ _
theorem nI_forth {n m : Nat} (h : n ≤ m) : nI n + 1 * nI (m - n) = nI m := by
  rw [Int32.one_mul, nI_add, Nat.add_sub_cancel' h]
theorem stV_c {q : Nat} {x : Int32} (h : vv 12 q = 0 ∨ vv 12 q = 1 ∨ vv 12 q = 2) : stV vv q x = vv := by unfold stV; rw [if_pos h]
theorem stV_6 {q : Nat} {x : Int32} (h : vv 12 q = 6) : stV vv q x = shV vv (vv 13 q).toNatClampNeg (x * vv 14 q) (x * vv 15 q) := by simp [stV, h]
theorem stV_7 {q : Nat} {x : Int32} (h : vv 12 q = 7) : stV vv q x = u1 vv 8 (vv 13 q).toNatClampNeg (if x = 1 then 1 else 0) := by simp [stV, h]
theorem stV_3 {q : Nat} {x : Int32} (h : vv 12 q = 3) : stV vv q x = u1 (u1 vv 0 (vv 13 q).toNatClampNeg (vv 14 q)) 14 q (vv 0 (vv 13 q).toNatClampNeg) := by simp [stV, h, exV, exR]
theorem stV_4 {q : Nat} {x : Int32} (h : vv 12 q = 4) : stV vv q x = u1 (u1 vv 1 (vv 13 q).toNatClampNeg (vv 14 q)) 14 q (vv 1 (vv 13 q).toNatClampNeg) := by simp [stV, h, exV, exR]
theorem stV_5 {q : Nat} {x : Int32} (h : vv 12 q = 5) : stV vv q x = u1 (u1 vv 3 (vv 13 q).toNatClampNeg (vv 14 q)) 14 q (vv 3 (vv 13 q).toNatClampNeg) := by simp [stV, h, exV, exR]
theorem shV_4 (v : Ar) (t : Nat) (a b : Int32) : shV v t a b 4 t = v 4 t + a := by simp [shV, u1_at]
theorem shV_5 (v : Ar) (t : Nat) (a b : Int32) : shV v t a b 5 t = v 5 t + b := by simp [shV, u1_at]
theorem shV_6 (v : Ar) (t : Nat) (a b : Int32) : shV v t a b 6 t = v 6 t + a := by simp [shV, u1_at]
theorem shV_7 (v : Ar) (t : Nat) (a b : Int32) : shV v t a b 7 t = v 7 t + b := by simp [shV, u1_at]
theorem shV_old (v : Ar) {t : Nat} {a b : Int32} {j r : Nat} (hj : ¬ (4 ≤ j ∧ j ≤ 7 ∧ r = t)) : shV v t a b j r = v j r := by
  unfold shV
  rw [u1_ne _ _ (by omega), u1_ne _ _ (by omega), u1_ne _ _ (by omega), u1_ne _ _ (by omega)]
theorem CS.exch {J t : Nat} {x y : Int32} (h : CS lg e0 H vv) (he : (e0 = d ∧ e = d + 1) ∨ (e0 = d + 1 ∧ e = d)) (hc : (Dk lg (d + 1)).1 = (Dk lg d).1)
    (hJ : J < 12) (hJ8 : ¬ J = 8) (ht : t < (Dk lg d).1 (ow J)) (hrow : ∀ j r, ¬ (j = J ∧ r = t) → (Dk lg (d + 1)).2 j r = (Dk lg d).2 j r) (hx : x = (Dk lg e).2 J t)
    (hm : mat (u1 (u1 vv J t x) 14 d y) lg d (decide (d < e))) : CS lg e H (u1 (u1 vv J t x) 14 d y) := by
  have hce : (Dk lg e).1 = (Dk lg e0).1 := by rcases he with ⟨rfl, rfl⟩ | ⟨rfl, rfl⟩ <;> rw [hc]
  have hre : ∀ j r, ¬ (j = J ∧ r = t) → (Dk lg e).2 j r = (Dk lg e0).2 j r := by
    intro j r hn
    rcases he with ⟨rfl, rfl⟩ | ⟨rfl, rfl⟩
    · exact hrow j r hn
    · exact (hrow j r hn).symm
  refine h.put he (fun i _ => by rw [hc]) (fun j k hj hk => ?_) hm (fun j r hs => ?_) (fun j r hj hr => ?_)
  · rw [u1_ne _ _ (by omega), u1_ne _ _ (by omega)]
  · have hj12 := hs.1
    rw [trV_congr (u1_ne _ _ (by omega))]
    by_cases hb : j = J ∧ r = t
    · obtain ⟨rfl, rfl⟩ := hb
      rw [trV_ne hJ8, u1_eq, hx]
    · rw [trV_congr (u1_ne _ _ hb), hre j r hb]
      rw [hce] at hs
      exact h.2.1 j r hs
  · rw [u1_ne _ _ (by omega)]
    refine u1_ne _ _ (fun hb => ?_)
    obtain ⟨rfl, rfl⟩ := hb
    omega
theorem Dk_at {k : Nat} (z : (Nat → Nat) × Ar) (h : stD lg k (Dk lg k) = z) : Dk lg (k + 1) = z := h
theorem CS.step {x : Int32} (h : CS lg e0 H vv) (he : (e0 = d ∧ e = d + 1 ∧ x = 1) ∨ (e0 = d + 1 ∧ e = d ∧ x = -1)) (hd : d < H) : CS lg e H (stV vv d x) := by
  have he' : (e0 = d ∧ e = d + 1) ∨ (e0 = d + 1 ∧ e = d) := he.imp (fun q => ⟨q.1, q.2.1⟩) (fun q => ⟨q.1, q.2.1⟩)
  have hv := h.1 d hd
  have hm := h.2.2.1 d hd
  have hI := inv_Dk d (fun i hi => h.1 i (by omega))
  obtain ⟨b0, b1, b2, b3⟩ := hI.1
  rcases hm with ⟨e1, e2⟩ | ⟨e1, e2⟩ | ⟨e1, e2, e3⟩ | ⟨e1, e2, e3, e4⟩ | ⟨e1, e2, e3, e4⟩ | ⟨e1, e2, e3, e4⟩ | ⟨e1, e2, e3, e4, e5⟩ | ⟨e1, e2, e3⟩
  · rw [stV_c (Or.inl e2)]
    exact h.come he' hd (Or.inl ⟨e1, e2⟩) (fun j r hs => stD_old (Or.inl e1) hs)
  · rw [stV_c (Or.inr (Or.inl e2))]
    exact h.come he' hd (Or.inr (Or.inl ⟨e1, e2⟩)) (fun j r hs => stD_old (Or.inr (Or.inl e1)) hs)
  · rw [stV_c (Or.inr (Or.inr e2))]
    exact h.come he' hd (Or.inr (Or.inr (Or.inl ⟨e1, e2, e3⟩))) (fun j r hs => stD_old (Or.inr (Or.inr e1)) hs)
  · have hvt : ∃ t, lg (7 * d + 1) = nI t ∧ t < (Dk lg d).1 0 := by
      unfold vA at hv; rw [e1] at hv; simp at hv; exact hv.1
    obtain ⟨t, et, ht⟩ := hvt
    have ec : (lg (7 * d + 1)).toNatClampNeg = t := by rw [et]; exact nI_clamp (by omega)
    have hD : Dk lg (d + 1) = ((Dk lg d).1, u1 (Dk lg d).2 0 t (lg (7 * d + 2))) := by rw [Dk_succ, stD_1 e1, ec]
    have hD2 : (Dk lg (d + 1)).2 0 t = lg (7 * d + 2) := by rw [hD]; exact u1_eq (Dk lg d).2 0 t (lg (7 * d + 2))
    have hs0 : SN (Dk lg e0).1 0 t := by
      refine ⟨by decide, ?_⟩
      rcases he' with ⟨rfl, _⟩ | ⟨rfl, _⟩
      · exact ht
      · rw [hD]; exact ht
    have hold := h.2.1 0 t hs0
    rw [trV_ne (by decide)] at hold
    rw [stV_3 e2, e3, ec]
    refine h.exch he' (by rw [hD]) (by decide) (by decide) ht (fun j r hn => by rw [hD]; exact u1_ne _ _ hn) ?_ (Or.inr (Or.inr (Or.inr (Or.inl ⟨e1, ?_, ?_, ?_⟩))))
    · rw [e4, ec]
      rcases he' with ⟨rfl, rfl⟩ | ⟨rfl, rfl⟩
      · rw [if_neg (by simp), hD2]
      · rw [if_pos (by simp)]
    · rw [u1_ne _ _ (by omega), u1_ne _ _ (by omega)]; exact e2
    · rw [u1_ne _ _ (by omega), u1_ne _ _ (by omega)]; exact e3
    · rw [u1_eq, ec, hold]
      rcases he' with ⟨rfl, rfl⟩ | ⟨rfl, rfl⟩
      · rw [if_pos (by simp)]
      · rw [if_neg (by simp), hD2]
  · have hvt : ∃ t, lg (7 * d + 1) = nI t ∧ t < (Dk lg d).1 1 := by
      unfold vA at hv; rw [e1] at hv; simp at hv; exact hv.1
    obtain ⟨t, et, ht⟩ := hvt
    have ec : (lg (7 * d + 1)).toNatClampNeg = t := by rw [et]; exact nI_clamp (by omega)
    have hD : Dk lg (d + 1) = ((Dk lg d).1, u1 (Dk lg d).2 1 t (lg (7 * d + 2))) := by rw [Dk_succ, stD_3 e1, ec]
    have hD2 : (Dk lg (d + 1)).2 1 t = lg (7 * d + 2) := by rw [hD]; exact u1_eq (Dk lg d).2 1 t (lg (7 * d + 2))
    have hs0 : SN (Dk lg e0).1 1 t := by
      refine ⟨by decide, ?_⟩
      rcases he' with ⟨rfl, _⟩ | ⟨rfl, _⟩
      · exact ht
      · rw [hD]; exact ht
    have hold := h.2.1 1 t hs0
    rw [trV_ne (by decide)] at hold
    rw [stV_4 e2, e3, ec]
    refine h.exch he' (by rw [hD]) (by decide) (by decide) ht (fun j r hn => by rw [hD]; exact u1_ne _ _ hn) ?_ (Or.inr (Or.inr (Or.inr (Or.inr (Or.inl ⟨e1, ?_, ?_, ?_⟩)))))
    · rw [e4, ec]
      rcases he' with ⟨rfl, rfl⟩ | ⟨rfl, rfl⟩
      · rw [if_neg (by simp), hD2]
      · rw [if_pos (by simp)]
    · rw [u1_ne _ _ (by omega), u1_ne _ _ (by omega)]; exact e2
    · rw [u1_ne _ _ (by omega), u1_ne _ _ (by omega)]; exact e3
    · rw [u1_eq, ec, hold]
      rcases he' with ⟨rfl, rfl⟩ | ⟨rfl, rfl⟩
      · rw [if_pos (by simp)]
      · rw [if_neg (by simp), hD2]
  · have hvt : ∃ t, lg (7 * d + 1) = nI t ∧ t < (Dk lg d).1 2 := by
      unfold vA at hv; rw [e1] at hv; simp at hv; exact hv.1
    obtain ⟨t, et, ht⟩ := hvt
    have ec : (lg (7 * d + 1)).toNatClampNeg = t := by rw [et]; exact nI_clamp (by omega)
    have hD : Dk lg (d + 1) = ((Dk lg d).1, u1 (Dk lg d).2 3 t (lg (7 * d + 2))) := by rw [Dk_succ, stD_6 e1, ec]
    have hD2 : (Dk lg (d + 1)).2 3 t = lg (7 * d + 2) := by rw [hD]; exact u1_eq (Dk lg d).2 3 t (lg (7 * d + 2))
    have hs0 : SN (Dk lg e0).1 3 t := by
      refine ⟨by decide, ?_⟩
      rcases he' with ⟨rfl, _⟩ | ⟨rfl, _⟩
      · exact ht
      · rw [hD]; exact ht
    have hold := h.2.1 3 t hs0
    rw [trV_ne (by decide)] at hold
    rw [stV_5 e2, e3, ec]
    refine h.exch he' (by rw [hD]) (by decide) (by decide) ht (fun j r hn => by rw [hD]; exact u1_ne _ _ hn) ?_ (Or.inr (Or.inr (Or.inr (Or.inr (Or.inr (Or.inl ⟨e1, ?_, ?_, ?_⟩))))))
    · rw [e4, ec]
      rcases he' with ⟨rfl, rfl⟩ | ⟨rfl, rfl⟩
      · rw [if_neg (by simp), hD2]
      · rw [if_pos (by simp)]
    · rw [u1_ne _ _ (by omega), u1_ne _ _ (by omega)]; exact e2
    · rw [u1_ne _ _ (by omega), u1_ne _ _ (by omega)]; exact e3
    · rw [u1_eq, ec, hold]
      rcases he' with ⟨rfl, rfl⟩ | ⟨rfl, rfl⟩
      · rw [if_pos (by simp)]
      · rw [if_neg (by simp), hD2]
  · have hvt : ∃ t, lg (7 * d + 1) = nI t ∧ t < (Dk lg d).1 2 := by
      unfold vA at hv; rw [e1] at hv; simp at hv
      obtain ⟨t, et, ht, _⟩ := hv
      exact ⟨t, et, ht⟩
    obtain ⟨t, et, ht⟩ := hvt
    have ec : (lg (7 * d + 1)).toNatClampNeg = t := by rw [et]; exact nI_clamp (by omega)
    have hD : Dk lg (d + 1) = ((Dk lg d).1, mvV (Dk lg d).2 t (lg (7 * d + 2)) (lg (7 * d + 3))) := by rw [Dk_succ, stD_5 e1, ec]
    have hcn : (Dk lg (d + 1)).1 = (Dk lg d).1 := by rw [hD]
    have hce : (Dk lg e).1 = (Dk lg e0).1 := by rcases he' with ⟨rfl, rfl⟩ | ⟨rfl, rfl⟩ <;> rw [hcn]
    have hs0 : ∀ j, 4 ≤ j → j ≤ 7 → SN (Dk lg e0).1 j t := by
      intro j h4 h7
      refine ⟨by omega, ?_⟩
      rw [ow_2.mpr ⟨by omega, by omega⟩]
      rcases he' with ⟨rfl, _⟩ | ⟨rfl, _⟩
      · exact ht
      · rw [hcn]; exact ht
    have hold : ∀ j, 4 ≤ j → j ≤ 7 → vv j t = (Dk lg e0).2 j t := by
      intro j h4 h7
      have := h.2.1 j t (hs0 j h4 h7)
      rw [trV_ne (by omega)] at this
      exact this
    have hre : ∀ j r, ¬ (4 ≤ j ∧ j ≤ 7 ∧ r = t) → (Dk lg e).2 j r = (Dk lg e0).2 j r := by
      intro j r hn
      rcases he' with ⟨rfl, rfl⟩ | ⟨rfl, rfl⟩
      · rw [hD]; exact mvV_old _ hn
      · rw [hD]; exact (mvV_old _ hn).symm
    have h4 : (Dk lg e).2 4 t = (Dk lg e0).2 4 t + x * lg (7 * d + 2) := by
      rcases he with ⟨rfl, rfl, rfl⟩ | ⟨rfl, rfl, rfl⟩
      · rw [hD, Int32.one_mul]; exact mvV_4 (Dk lg e0).2 t (lg (7 * e0 + 2)) (lg (7 * e0 + 3))
      · rw [hD, show (((Dk lg e).1, mvV (Dk lg e).2 t (lg (7 * e + 2)) (lg (7 * e + 3))) : (Nat → Nat) × Ar).2 4 t = (Dk lg e).2 4 t + lg (7 * e + 2) from mvV_4 (Dk lg e).2 t (lg (7 * e + 2)) (lg (7 * e + 3)), i32_back]
    have h5 : (Dk lg e).2 5 t = (Dk lg e0).2 5 t + x * lg (7 * d + 3) := by
      rcases he with ⟨rfl, rfl, rfl⟩ | ⟨rfl, rfl, rfl⟩
      · rw [hD, Int32.one_mul]; exact mvV_5 (Dk lg e0).2 t (lg (7 * e0 + 2)) (lg (7 * e0 + 3))
      · rw [hD, show (((Dk lg e).1, mvV (Dk lg e).2 t (lg (7 * e + 2)) (lg (7 * e + 3))) : (Nat → Nat) × Ar).2 5 t = (Dk lg e).2 5 t + lg (7 * e + 3) from mvV_5 (Dk lg e).2 t (lg (7 * e + 2)) (lg (7 * e + 3)), i32_back]
    have h6 : (Dk lg e).2 6 t = (Dk lg e0).2 6 t + x * lg (7 * d + 2) := by
      rcases he with ⟨rfl, rfl, rfl⟩ | ⟨rfl, rfl, rfl⟩
      · rw [hD, Int32.one_mul]; exact mvV_6 (Dk lg e0).2 t (lg (7 * e0 + 2)) (lg (7 * e0 + 3))
      · rw [hD, show (((Dk lg e).1, mvV (Dk lg e).2 t (lg (7 * e + 2)) (lg (7 * e + 3))) : (Nat → Nat) × Ar).2 6 t = (Dk lg e).2 6 t + lg (7 * e + 2) from mvV_6 (Dk lg e).2 t (lg (7 * e + 2)) (lg (7 * e + 3)), i32_back]
    have h7 : (Dk lg e).2 7 t = (Dk lg e0).2 7 t + x * lg (7 * d + 3) := by
      rcases he with ⟨rfl, rfl, rfl⟩ | ⟨rfl, rfl, rfl⟩
      · rw [hD, Int32.one_mul]; exact mvV_7 (Dk lg e0).2 t (lg (7 * e0 + 2)) (lg (7 * e0 + 3))
      · rw [hD, show (((Dk lg e).1, mvV (Dk lg e).2 t (lg (7 * e + 2)) (lg (7 * e + 3))) : (Nat → Nat) × Ar).2 7 t = (Dk lg e).2 7 t + lg (7 * e + 3) from mvV_7 (Dk lg e).2 t (lg (7 * e + 2)) (lg (7 * e + 3)), i32_back]
    rw [stV_6 e2, e3, ec, e4, e5]
    refine h.put he' (fun i _ => by rw [hcn]) (fun j k hj hk => shV_old _ (by omega)) (mat_congr (fun j hj => shV_old _ (by omega)) (Or.inr (Or.inr (Or.inr (Or.inr (Or.inr (Or.inr (Or.inl ⟨e1, e2, e3, e4, e5⟩)))))))) (fun j r hs => ?_) (fun j r hj hr => ?_)
    · by_cases hb : 4 ≤ j ∧ j ≤ 7 ∧ r = t
      · obtain ⟨hb1, hb2, rfl⟩ := hb
        rw [trV_ne (by omega)]
        have hj : j = 4 ∨ j = 5 ∨ j = 6 ∨ j = 7 := by omega
        rcases hj with rfl | rfl | rfl | rfl
        · rw [shV_4, hold 4 (by decide) (by decide), h4]
        · rw [shV_5, hold 5 (by decide) (by decide), h5]
        · rw [shV_6, hold 6 (by decide) (by decide), h6]
        · rw [shV_7, hold 7 (by decide) (by decide), h7]
      · rw [trV_congr (shV_old _ hb), hre j r hb]
        rw [hce] at hs
        exact h.2.1 j r hs
    · refine shV_old _ (fun hb => ?_)
      obtain ⟨hb1, hb2, rfl⟩ := hb
      rw [ow_2.mpr ⟨by omega, by omega⟩] at hr
      omega
  · have hvt : ∃ t, lg (7 * d + 1) = nI t ∧ t < (Dk lg d).1 2 ∧ (Dk lg d).2 8 t = 1 := by
      unfold vA at hv; rw [e1] at hv; simp at hv; exact hv
    obtain ⟨t, et, ht, h81⟩ := hvt
    have ec : (lg (7 * d + 1)).toNatClampNeg = t := by rw [et]; exact nI_clamp (by omega)
    have hD : Dk lg (d + 1) = ((Dk lg d).1, u1 (Dk lg d).2 8 t 0) := by rw [Dk_succ, stD_7 e1, ec]
    have hcn : (Dk lg (d + 1)).1 = (Dk lg d).1 := by rw [hD]
    have hce : (Dk lg e).1 = (Dk lg e0).1 := by rcases he' with ⟨rfl, rfl⟩ | ⟨rfl, rfl⟩ <;> rw [hcn]
    have hre : ∀ j r, ¬ (j = 8 ∧ r = t) → (Dk lg e).2 j r = (Dk lg e0).2 j r := by
      intro j r hn
      rcases he' with ⟨rfl, rfl⟩ | ⟨rfl, rfl⟩
      · rw [hD]; exact u1_ne _ _ hn
      · rw [hD]; exact (u1_ne _ _ hn).symm
    have h8 : (1 : Int32) - (if x = 1 then 1 else 0) = (Dk lg e).2 8 t := by
      rcases he with ⟨rfl, rfl, rfl⟩ | ⟨rfl, rfl, rfl⟩
      · rw [hD, if_pos rfl]; exact (u1_eq (Dk lg e0).2 8 t 0).symm
      · rw [if_neg (by decide), h81]; decide
    rw [stV_7 e2, e3, ec]
    refine h.put he' (fun i _ => by rw [hcn]) (fun j k hj hk => u1_ne _ _ (by omega)) (mat_congr (fun j hj => u1_ne _ _ (by omega)) (Or.inr (Or.inr (Or.inr (Or.inr (Or.inr (Or.inr (Or.inr ⟨e1, e2, e3⟩)))))))) (fun j r hs => ?_) (fun j r hj hr => ?_)
    · by_cases hb : j = 8 ∧ r = t
      · obtain ⟨rfl, rfl⟩ := hb
        rw [← h8]
        simp only [trV, if_true, u1_eq]
      · rw [trV_congr (u1_ne _ _ hb), hre j r hb]
        rw [hce] at hs
        exact h.2.1 j r hs
    · refine u1_ne _ _ (fun hb => ?_)
      obtain ⟨rfl, rfl⟩ := hb
      have hr' : (Dk lg d).1 2 ≤ r := hr
      omega
theorem stD_n {k : Nat} {z : (Nat → Nat) × Ar} (hk : lg (7 * k) = 1 ∨ lg (7 * k) = 3 ∨ lg (7 * k) = 6 ∨ lg (7 * k) = 5 ∨ lg (7 * k) = 7) : (stD lg k z).1 = z.1 := by
  rcases hk with e | e | e | e | e
  · rw [stD_1 e]
  · rw [stD_3 e]
  · rw [stD_6 e]
  · rw [stD_5 e]
  · rw [stD_7 e]
theorem stD_n01 {k : Nat} {z : (Nat → Nat) × Ar} (hk : lg (7 * k) = 4 ∨ lg (7 * k) = 8 ∨ lg (7 * k) = 9) : (stD lg k z).1 0 = z.1 0 ∧ (stD lg k z).1 1 = z.1 1 := by
  rcases hk with e | e | e
  · rw [stD_4 e]; exact ⟨rfl, rfl⟩
  · rw [stD_8 e]; exact ⟨rfl, rfl⟩
  · rw [stD_9 e]; exact ⟨rfl, rfl⟩
theorem lt4 {P : Nat → Prop} (h0 : P 0) (h1 : P 1) (h2 : P 2) (h3 : P 3) : ∀ i, i < 4 → P i := by
  intro i hi
  match i, hi with
  | 0, _ => exact h0
  | 1, _ => exact h1
  | 2, _ => exact h2
  | 3, _ => exact h3
  | i + 4, h => exact absurd h (by omega)
theorem stK_0 {kn : Nat → Int32} {q : Nat} {x : Int32} (h : vv 12 q = 0) : stK kn vv q x = va_up kn 0 (kn 0 + x) := by simp [stK, h]
theorem stK_1 {kn : Nat → Int32} {q : Nat} {x : Int32} (h : vv 12 q = 1) : stK kn vv q x = va_up kn 1 (kn 1 + x) := by simp [stK, h]
theorem stK_2 {kn : Nat → Int32} {q : Nat} {x : Int32} (h : vv 12 q = 2) : stK kn vv q x = va_up (va_up kn 2 (kn 2 + x * vv 14 q)) 3 (kn 3 + x * vv 15 q) := by simp [stK, h]
theorem stK_c {kn : Nat → Int32} {q : Nat} {x : Int32} (h : vv 12 q = 3 ∨ vv 12 q = 4 ∨ vv 12 q = 5 ∨ vv 12 q = 6 ∨ vv 12 q = 7) : stK kn vv q x = kn := by
  rcases h with h | h | h | h | h <;> simp [stK, h]
theorem CS.knF {kn : Nat → Int32} (h : CS lg e0 H vv) (hd : d < H) (hk : ∀ i, i < 4 → kn i = nI ((Dk lg d).1 i)) : ∀ i, i < 4 → stK kn vv d 1 i = nI ((Dk lg (d + 1)).1 i) := by
  have hm := h.2.2.1 d hd
  have k0 := hk 0 (by decide)
  have k1 := hk 1 (by decide)
  have k2 := hk 2 (by decide)
  have k3 := hk 3 (by decide)
  have l2 := Dk_to lg 2 (Nat.le_succ d)
  have l3 := Dk_to lg 3 (Nat.le_succ d)
  have hch : (vv 12 d = 3 ∨ vv 12 d = 4 ∨ vv 12 d = 5 ∨ vv 12 d = 6 ∨ vv 12 d = 7) → (lg (7 * d) = 1 ∨ lg (7 * d) = 3 ∨ lg (7 * d) = 6 ∨ lg (7 * d) = 5 ∨ lg (7 * d) = 7) → ∀ i, i < 4 → stK kn vv d 1 i = nI ((Dk lg (d + 1)).1 i) := by
    intro q1 q2 i hi
    rw [stK_c q1, Dk_succ, stD_n q2]; exact hk i hi
  rcases hm with ⟨e1, e2⟩ | ⟨e1, e2⟩ | ⟨e1, e2, e3, e4⟩ | ⟨e1, e2, e3, e4⟩ | ⟨e1, e2, e3, e4⟩ | ⟨e1, e2, e3, e4⟩ | ⟨e1, e2, e3, e4, e5⟩ | ⟨e1, e2, e3⟩
  · rw [stK_0 e2, Dk_succ, stD_0 e1]
    refine lt4 ?_ k1 k2 k3
    show kn 0 + 1 = nI ((Dk lg d).1 0 + 1)
    rw [k0, nI_1]
  · rw [stK_1 e2, Dk_succ, stD_2 e1]
    refine lt4 k0 ?_ k2 k3
    show kn 1 + 1 = nI ((Dk lg d).1 1 + 1)
    rw [k1, nI_1]
  · have h01 := stD_n01 (z := Dk lg d) e1
    rw [stK_2 e2]
    refine lt4 ?_ ?_ ?_ ?_
    · rw [Dk_succ, h01.1]; exact k0
    · rw [Dk_succ, h01.2]; exact k1
    · show kn 2 + 1 * vv 14 d = _
      rw [k2, e3, nI_forth l2]
    · show kn 3 + 1 * vv 15 d = _
      rw [k3, e4, nI_forth l3]
  · exact hch (Or.inl e2) (Or.inl e1)
  · exact hch (Or.inr (Or.inl e2)) (Or.inr (Or.inl e1))
  · exact hch (Or.inr (Or.inr (Or.inl e2))) (Or.inr (Or.inr (Or.inl e1)))
  · exact hch (Or.inr (Or.inr (Or.inr (Or.inl e2)))) (Or.inr (Or.inr (Or.inr (Or.inl e1))))
  · exact hch (Or.inr (Or.inr (Or.inr (Or.inr e2)))) (Or.inr (Or.inr (Or.inr (Or.inr e1))))
theorem CS.knB {kn : Nat → Int32} (h : CS lg e0 H vv) (hd : d < H) (hk : ∀ i, i < 4 → kn i = nI ((Dk lg (d + 1)).1 i)) : ∀ i, i < 4 → stK kn vv d (-1) i = nI ((Dk lg d).1 i) := by
  have hm := h.2.2.1 d hd
  have k0 := hk 0 (by decide)
  have k1 := hk 1 (by decide)
  have k2 := hk 2 (by decide)
  have k3 := hk 3 (by decide)
  have l2 := Dk_to lg 2 (Nat.le_succ d)
  have l3 := Dk_to lg 3 (Nat.le_succ d)
  have hch : (vv 12 d = 3 ∨ vv 12 d = 4 ∨ vv 12 d = 5 ∨ vv 12 d = 6 ∨ vv 12 d = 7) → (lg (7 * d) = 1 ∨ lg (7 * d) = 3 ∨ lg (7 * d) = 6 ∨ lg (7 * d) = 5 ∨ lg (7 * d) = 7) → ∀ i, i < 4 → stK kn vv d (-1) i = nI ((Dk lg d).1 i) := by
    intro q1 q2 i hi
    have := hk i hi
    rw [Dk_succ, stD_n q2] at this
    rw [stK_c q1]; exact this
  have hm1 : ∀ n : Nat, nI (n + 1) + -1 = nI n := by
    intro n
    rw [nI_succ, Int32.add_neg_eq_sub, Int32.add_sub_cancel]
  rcases hm with ⟨e1, e2⟩ | ⟨e1, e2⟩ | ⟨e1, e2, e3, e4⟩ | ⟨e1, e2, e3, e4⟩ | ⟨e1, e2, e3, e4⟩ | ⟨e1, e2, e3, e4⟩ | ⟨e1, e2, e3, e4, e5⟩ | ⟨e1, e2, e3⟩
  · rw [Dk_succ, stD_0 e1] at k0 k1 k2 k3
    rw [stK_0 e2]
    refine lt4 ?_ k1 k2 k3
    show kn 0 + -1 = nI ((Dk lg d).1 0)
    rw [k0]; exact hm1 _
  · rw [Dk_succ, stD_2 e1] at k0 k1 k2 k3
    rw [stK_1 e2]
    refine lt4 k0 ?_ k2 k3
    show kn 1 + -1 = nI ((Dk lg d).1 1)
    rw [k1]; exact hm1 _
  · have h01 := stD_n01 (z := Dk lg d) e1
    rw [stK_2 e2]
    refine lt4 ?_ ?_ ?_ ?_
    · rw [← h01.1]; exact k0
    · rw [← h01.2]; exact k1
    · show kn 2 + -1 * vv 14 d = _
      rw [k2, e3, nI_back l2]
    · show kn 3 + -1 * vv 15 d = _
      rw [k3, e4, nI_back l3]
  · exact hch (Or.inl e2) (Or.inl e1)
  · exact hch (Or.inr (Or.inl e2)) (Or.inr (Or.inl e1))
  · exact hch (Or.inr (Or.inr (Or.inl e2))) (Or.inr (Or.inr (Or.inl e1)))
  · exact hch (Or.inr (Or.inr (Or.inr (Or.inl e2)))) (Or.inr (Or.inr (Or.inr (Or.inl e1))))
  · exact hch (Or.inr (Or.inr (Or.inr (Or.inr e2)))) (Or.inr (Or.inr (Or.inr (Or.inr e1))))
end P44
