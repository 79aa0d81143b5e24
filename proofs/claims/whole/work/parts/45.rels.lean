/-! pure: Rel taken apart and made; undo, redo, start; an act -/
def nX (f : Nat → Nat) (a b : Nat) : Nat → Nat := fun i => if i < 4 then f i else if i = 4 then a else b
theorem nX_lt {f : Nat → Nat} {a b i : Nat} (h : i < 4) : nX f a b i = f i := by unfold nX; rw [if_pos h]
theorem nX_4 {f : Nat → Nat} {a b : Nat} : nX f a b 4 = a := rfl
theorem nX_5 {f : Nat → Nat} {a b : Nat} : nX f a b 5 = b := rfl
theorem lt6 {P : Nat → Prop} (h : ∀ i, i < 4 → P i) (h4 : P 4) (h5 : P 5) : ∀ i, i < 6 → P i := by
  intro i hi
  by_cases q : i < 4
  · exact h i q
  · have : i = 4 ∨ i = 5 := by omega
    rcases this with rfl | rfl
    · exact h4
    · exact h5
theorem Rel_mk {lg : Nat → Int32} {d u H : Nat} {kn : Nat → Int32} {vv : Ar} {mk : Nat → Int32} {mv : Ar} (f : Nat → Nat) (hlg : mv 12 = lg) (hH : H = d + u) (h200 : H ≤ 200) (hcs : CS lg d H vv)
    (hk : ∀ i, i < 4 → kn i = nI ((Dk lg d).1 i)) (k4 : kn 4 = nI d) (k5 : kn 5 = nI H) (hed : eqD (Dk lg d) (f, mv)) (hmk : ∀ i, i < 4 → mk i = nI (f i)) (m4 : mk 4 = nI d) (m5 : mk 5 = nI u) : Rel kn vv (nX (Dk lg d).1 d H) mk mv (nX f d u) := by
  subst hlg
  have hI := inv_Dk d (fun i hi => hcs.1 i (by omega))
  obtain ⟨b0, b1, b2, b3⟩ := hI.1
  have hf : ∀ i, i < 4 → (Dk (mv 12) d).1 i = f i := hed.1
  have f0 := hf 0 (by decide)
  have f1 := hf 1 (by decide)
  have f2 := hf 2 (by decide)
  have f3 := hf 3 (by decide)
  have hnf : ∀ i, i < 4 → nX (Dk (mv 12) d).1 d H i = nX f d u i := fun i hi => by rw [nX_lt hi, nX_lt hi]; exact hf i hi
  have hSf : ∀ j r, SN (nX f d u) j r → SN (Dk (mv 12) d).1 j r := fun j r hs => SN_eq (fun i hi => by rw [nX_lt hi]; exact (hf i hi).symm) hs
  have hSn : ∀ j r, SN (nX (Dk (mv 12) d).1 d H) j r → SN (Dk (mv 12) d).1 j r := fun j r hs => SN_eq (fun i hi => nX_lt hi) hs
  refine ⟨⟨lt6 (fun i hi => by rw [nX_lt hi]; exact hk i hi) k4 k5, b0, b1, b2, b3, ?_, h200⟩, ⟨lt6 (fun i hi => by rw [nX_lt hi]; exact hmk i hi) m4 m5, ?_, ?_, ?_, ?_, ?_, ?_⟩, hnf, rfl, hH, fun i hi => ?_, ?_, ?_, hcs.1, hcs.2.2.1, hcs.2.2.2⟩
  · show d ≤ H; omega
  · show f 0 ≤ 6; omega
  · show f 1 ≤ 8; omega
  · show f 2 ≤ 40; omega
  · show f 3 ≤ 60; omega
  · show d ≤ 200; omega
  · show u ≤ 200; omega
  · rw [nX_lt hi]; exact (hf i hi).symm
  · exact fun j r hs => (hed.2 j r (hSf j r hs)).symm
  · exact fun j r hs => (hcs.2.1 j r (hSn j r hs)).trans (hed.2 j r (hSn j r hs))
section P45
variable {kn : Nat → Int32} {vv : Ar} {nn : Nat → Nat} {mk : Nat → Int32} {mv : Ar} {mn : Nat → Nat}
theorem Rel.ed (h : Rel kn vv nn mk mv mn) : eqD (Dk (mv 12) (mn 4)) (mn, mv) := by
  obtain ⟨hC, hM, h1, h2, h3, h4, h5, h6, h7, h8, h9⟩ := h
  exact ⟨fun i hi => (h4 i hi).symm, fun j r hs => (h5 j r (SN_eq (fun i hi => (h4 i hi).symm) hs)).symm⟩
theorem Rel.et (h : Rel kn vv nn mk mv mn) : eqD (mn, mv) (mn, trV vv) := by
  obtain ⟨hC, hM, h1, h2, h3, h4, h5, h6, h7, h8, h9⟩ := h
  exact ⟨fun i hi => rfl, fun j r hs => (h6 j r (SN_eq (fun i hi => (h1 i hi).symm) hs)).symm⟩
theorem Rel.cs (h : Rel kn vv nn mk mv mn) : CS (mv 12) (mn 4) (nn 5) vv := by
  have hE := h.ed
  obtain ⟨hC, hM, h1, h2, h3, h4, h5, h6, h7, h8, h9⟩ := h
  refine ⟨h7, fun j r hs => ?_, ?_, ?_⟩
  · have hm : SN mn j r := SN_eq hE.1 hs
    have hn : SN nn j r := SN_eq (fun i hi => (h1 i hi).symm) hm
    exact (h6 j r hn).trans (h5 j r hm)
  · rw [← h2]; exact h8
  · rw [← h2]; exact h9
theorem Rel.iD (h : Rel kn vv nn mk mv mn) : inv (Dk (mv 12) (mn 4)) := by
  obtain ⟨hC, hM, h1, h2, h3, h4, h5, h6, h7, h8, h9⟩ := h
  exact inv_Dk _ (fun i hi => h7 i (by omega))
theorem Rel.iM (h : Rel kn vv nn mk mv mn) : inv (mn, mv) := inv_congr h.ed h.iD
theorem Rel.iT (h : Rel kn vv nn mk mv mn) : inv (mn, trV vv) := inv_congr h.et h.iM
theorem Rel.V (h : Rel kn vv nn mk mv mn) : okV nn vv ∧ okV mn mv ∧ ∀ o, o < mn 3 → ∃ w, w < 40 ∧ mv 9 o = nI w := by
  have hM := h.iM
  have hT := h.iT
  obtain ⟨b0, b1, b2, b3⟩ := hM.1
  have e0 : nn 0 = mn 0 := h.2.2.1 0 (by decide)
  have e1 : nn 1 = mn 1 := h.2.2.1 1 (by decide)
  have e2 : nn 2 = mn 2 := h.2.2.1 2 (by decide)
  refine ⟨⟨fun w hw => ?_, fun w hw => ?_⟩, ⟨fun w hw => (hM.2.1 w hw).1, fun w hw => (hM.2.1 w hw).2.1⟩, fun o ho => ?_⟩
  · rw [e2] at hw
    rw [e0]
    exact (hT.2.1 w hw).1
  · rw [e2] at hw
    rw [e1]
    exact (hT.2.1 w hw).2.1
  · obtain ⟨w, hw, e⟩ := (hM.2.2.2.2 o ho).1
    have hw' : w < mn 2 := hw
    have b2' : mn 2 ≤ 40 := b2
    exact ⟨w, by omega, e⟩
theorem sim_start : Rel (fun _ => 0) (fun _ _ => 0) (fun _ => 0) (fun _ => 0) (fun _ _ => 0) (fun _ => 0) := by
  refine ⟨⟨fun i _ => rfl, by decide, by decide, by decide, by decide, by decide, by decide⟩, ⟨fun i _ => rfl, by decide, by decide, by decide, by decide, by decide, by decide⟩, fun _ _ => rfl, rfl, rfl, fun _ _ => rfl, ?_, ?_, ?_, ?_, ?_⟩
  · exact fun j r hs => absurd hs.2 (Nat.not_lt_zero _)
  · exact fun j r hs => absurd hs.2 (Nat.not_lt_zero _)
  · exact fun k hk => absurd hk (Nat.not_lt_zero _)
  · exact fun k hk => absurd hk (Nat.not_lt_zero _)
  · exact fun k _ hk => absurd hk (Nat.not_lt_zero _)
theorem Rel.k6 (h : Rel kn vv nn mk mv mn) (c : Int32) : Rel kn vv nn (va_up mk 6 c) mv mn := ⟨h.1, okM_6 h.2.1, h.2.2⟩
theorem CS.okA {lg : Nat → Int32} {d e H : Nat} (h : CS lg e H vv) (hd : d < H) : okA vv d := by
  have hv := h.1 d hd
  have hm := h.2.2.1 d hd
  have hI := inv_Dk d (fun i hi => h.1 i (by omega))
  obtain ⟨b0, b1, b2, b3⟩ := hI.1
  rcases hm with ⟨e1, e2⟩ | ⟨e1, e2⟩ | ⟨e1, e2, e3⟩ | ⟨e1, e2, e3, e4⟩ | ⟨e1, e2, e3, e4⟩ | ⟨e1, e2, e3, e4⟩ | ⟨e1, e2, e3, e4, e5⟩ | ⟨e1, e2, e3⟩
  · exact Or.inl e2
  · exact Or.inr (Or.inl e2)
  · exact Or.inr (Or.inr (Or.inl e2))
  · obtain ⟨t, et, ht⟩ : ∃ t, lg (7 * d + 1) = nI t ∧ t < (Dk lg d).1 0 := by
      unfold vA at hv; rw [e1] at hv; simp at hv; exact hv.1
    exact Or.inr (Or.inr (Or.inr ⟨t, e3.trans et, Or.inl ⟨e2, by omega⟩⟩))
  · obtain ⟨t, et, ht⟩ : ∃ t, lg (7 * d + 1) = nI t ∧ t < (Dk lg d).1 1 := by
      unfold vA at hv; rw [e1] at hv; simp at hv; exact hv.1
    exact Or.inr (Or.inr (Or.inr ⟨t, e3.trans et, Or.inr (Or.inl ⟨e2, by omega⟩)⟩))
  · obtain ⟨t, et, ht⟩ : ∃ t, lg (7 * d + 1) = nI t ∧ t < (Dk lg d).1 2 := by
      unfold vA at hv; rw [e1] at hv; simp at hv; exact hv.1
    exact Or.inr (Or.inr (Or.inr ⟨t, e3.trans et, Or.inr (Or.inr (Or.inl ⟨e2, by omega⟩))⟩))
  · obtain ⟨t, et, ht⟩ : ∃ t, lg (7 * d + 1) = nI t ∧ t < (Dk lg d).1 2 := by
      unfold vA at hv; rw [e1] at hv; simp at hv
      obtain ⟨t, et, ht, _⟩ := hv
      exact ⟨t, et, ht⟩
    exact Or.inr (Or.inr (Or.inr ⟨t, e3.trans et, Or.inr (Or.inr (Or.inr (Or.inl ⟨e2, by omega⟩)))⟩))
  · obtain ⟨t, et, ht⟩ : ∃ t, lg (7 * d + 1) = nI t ∧ t < (Dk lg d).1 2 := by
      unfold vA at hv; rw [e1] at hv; simp at hv
      obtain ⟨t, et, ht, _⟩ := hv
      exact ⟨t, et, ht⟩
    exact Or.inr (Or.inr (Or.inr ⟨t, e3.trans et, Or.inr (Or.inr (Or.inr (Or.inr ⟨e2, by omega⟩)))⟩))
theorem bounds_eq {z z' : (Nat → Nat) × Ar} (h : eqD z z') (hi : inv z) : z'.1 0 ≤ 6 ∧ z'.1 1 ≤ 8 ∧ z'.1 2 ≤ 40 ∧ z'.1 3 ≤ 60 := (inv_congr h hi).1
theorem sim_undo (h : Rel kn vv nn mk mv mn) : (nn 4 = 0 ∧ mn 4 = 0 ∧ Rel kn vv nn (va_up mk 6 0) mv mn) ∨ ∃ d u, nn 4 = d + 1 ∧ mn 4 = d + 1 ∧ mn 5 = u ∧ d < 200 ∧ okA vv d ∧ (∀ k, k ≤ d → (rpF (mv 12) k (fun _ => 0, mv)).2 12 = mv 12) ∧ (∀ k, k < d → okD (mv 12) k (rpF (mv 12) k (fun _ => 0, mv))) ∧ ∃ nn' mn' : Nat → Nat, Rel (stK (va_up kn 4 (nI d)) vv d (-1)) (stV vv d (-1)) nn' (mkOf (va_up (va_up (va_up mk 6 0) 4 (nI d)) 5 (nI (u + 1))) (rpF (mv 12) d (fun _ => 0, mv)).1) (rpF (mv 12) d (fun _ => 0, mv)).2 mn' := by
  have hcs := h.cs
  have hed := h.ed
  obtain ⟨hC, hM, h1, h2, h3, h4, h5, h6, h7, h8, h9⟩ := id h
  by_cases h0 : mn 4 = 0
  · exact Or.inl ⟨h2.trans h0, h0, h.k6 0⟩
  · obtain ⟨d, hd⟩ : ∃ d, mn 4 = d + 1 := ⟨mn 4 - 1, by omega⟩
    have h200 : nn 5 ≤ 200 := hC.2.2.2.2.2.2
    have hv : ∀ k, k ≤ d → ∀ i, i < k → vA (mv 12) i (Dk (mv 12) i) := fun k hk i hi => hcs.1 i (by omega)
    rw [hd] at hcs
    refine Or.inr ⟨d, mn 5, h2.trans hd, hd, rfl, by omega, hcs.okA (by omega), fun k hk => rpF_hi (by decide) k, fun k hk => ?_, nX (Dk (mv 12) d).1 d (nn 5), nX (rpF (mv 12) d (fun _ => 0, mv)).1 d (mn 5 + 1), ?_⟩
    · have hr := rp_congr (v := mv) k (hv k (by omega))
      exact okD_of (bounds_eq hr (inv_Dk k (hv k (by omega)))) (vA_congr hr (hcs.1 k (by omega)))
    · refine Rel_mk (lg := mv 12) _ (rpF_hi (by decide) d) (by omega) h200 (hcs.step (Or.inr ⟨rfl, rfl, rfl⟩) (by omega)) ?_ ?_ ?_ (rp_congr d (hv d (Nat.le_refl _))) ?_ ?_ ?_
      · refine hcs.knB (by omega) (fun i hi => ?_)
        rw [va_at1, if_neg (by omega), hC.1 i (by omega), h1 i hi, h4 i hi, hd]
      · rw [stK_hi _ _ _ _ (by decide)]; rfl
      · rw [stK_hi _ _ _ _ (by decide), va_at1, if_neg (by decide)]; exact hC.1 5 (by decide)
      · intro i hi; unfold mkOf; rw [if_pos hi]
      · rfl
      · rfl
theorem sim_redo (h : Rel kn vv nn mk mv mn) : (nn 4 = nn 5 ∧ mn 5 = 0 ∧ Rel kn vv nn (va_up mk 6 0) mv mn) ∨ ∃ d u, nn 4 = d ∧ mn 4 = d ∧ mn 5 = u + 1 ∧ d < nn 5 ∧ d < 200 ∧ u < 200 ∧ okA vv d ∧ okD (mv 12) d (mn, mv) ∧ ∃ nn' mn' : Nat → Nat, Rel (va_up (stK kn vv d 1) 4 (stK kn vv d 1 4 + 1)) (stV vv d 1) nn' (va_up (va_up (mkOf (va_up mk 6 0) (stD (mv 12) d (mn, mv)).1) 4 (nI (d + 1))) 5 (nI u)) (stD (mv 12) d (mn, mv)).2 mn' := by
  have hcs := h.cs
  have hed := h.ed
  have hiD := h.iD
  obtain ⟨hC, hM, h1, h2, h3, h4, h5, h6, h7, h8, h9⟩ := id h
  by_cases h0 : mn 5 = 0
  · exact Or.inl ⟨by omega, h0, h.k6 0⟩
  · obtain ⟨u, hu⟩ : ∃ u, mn 5 = u + 1 := ⟨mn 5 - 1, by omega⟩
    have h200 : nn 5 ≤ 200 := hC.2.2.2.2.2.2
    have hv := hcs.1 (mn 4) (by omega)
    refine Or.inr ⟨mn 4, u, h2, rfl, hu, by omega, by omega, by omega, hcs.okA (by omega), okD_of (bounds_eq hed hiD) (vA_congr hed hv), nX (Dk (mv 12) (mn 4 + 1)).1 (mn 4 + 1) (nn 5), nX (stD (mv 12) (mn 4) (mn, mv)).1 (mn 4 + 1) u, ?_⟩
    refine Rel_mk (lg := mv 12) _ (stD_hi (by decide)) (by omega) h200 (hcs.step (Or.inl ⟨rfl, rfl, rfl⟩) (by omega)) ?_ ?_ ?_ (stD_congr hed (inv_lt hiD) hv) ?_ ?_ ?_
    · intro i hi
      rw [va_at1, if_neg (by omega)]
      exact hcs.knF (by omega) (fun i hi => by rw [hC.1 i (by omega), h1 i hi, h4 i hi]) i hi
    · rw [va_at1, if_pos rfl, stK_hi _ _ _ _ (by decide), hC.1 4 (by decide), h2, nI_1]
    · rw [va_at1, if_neg (by decide), stK_hi _ _ _ _ (by decide)]; exact hC.1 5 (by decide)
    · intro i hi
      rw [va_at1, if_neg (by omega), va_at1, if_neg (by omega)]
      unfold mkOf; rw [if_pos hi]
    · rw [va_at1, if_neg (by decide), va_at1, if_pos rfl]
    · rw [va_at1, if_pos rfl]
theorem lgV_at (v : Ar) (d : Nat) (k a b c e f g : Int32) : lgV v d k a b c e f g 12 (7 * d) = k ∧ lgV v d k a b c e f g 12 (7 * d + 1) = a ∧ lgV v d k a b c e f g 12 (7 * d + 2) = b ∧ lgV v d k a b c e f g 12 (7 * d + 3) = c ∧ lgV v d k a b c e f g 12 (7 * d + 4) = e ∧ lgV v d k a b c e f g 12 (7 * d + 5) = f ∧ lgV v d k a b c e f g 12 (7 * d + 6) = g := by
  simp [lgV, u1_at]
theorem lgV_lt (v : Ar) {d : Nat} {k a b c e f g : Int32} {i : Nat} (h : i < 7 * d) : lgV v d k a b c e f g 12 i = v 12 i := by
  unfold lgV
  rw [u1_ne _ _ (by omega), u1_ne _ _ (by omega), u1_ne _ _ (by omega), u1_ne _ _ (by omega), u1_ne _ _ (by omega), u1_ne _ _ (by omega), u1_ne _ _ (by omega)]
theorem lgV_row (v : Ar) {d : Nat} {k a b c e f g : Int32} {j : Nat} (h : ¬ j = 12) : lgV v d k a b c e f g j = v j := by
  unfold lgV
  rw [u1_row _ _ h, u1_row _ _ h, u1_row _ _ h, u1_row _ _ h, u1_row _ _ h, u1_row _ _ h, u1_row _ _ h]
theorem hwV_at (v : Ar) (d : Nat) (x y z u : Int32) : hwV v d x y z u 12 d = x ∧ hwV v d x y z u 13 d = y ∧ hwV v d x y z u 14 d = z ∧ hwV v d x y z u 15 d = u := by
  simp [hwV, u1_at]
theorem hwV_old (v : Ar) {d : Nat} {x y z u : Int32} {j r : Nat} (hj : ¬ (12 ≤ j ∧ r = d)) : hwV v d x y z u j r = v j r := by
  unfold hwV
  rw [u1_ne _ _ (by omega), u1_ne _ _ (by omega), u1_ne _ _ (by omega), u1_ne _ _ (by omega)]
/-- what an act owes, on counts n and rows v (the class's, turned) -/
def actO (mn : Nat → Nat) (mv vv vv1 : Ar) (k a b c e f g x y z u : Int32) : Prop :=
  mn 4 < 200 ∧ vA (lgV mv (mn 4) k a b c e f g 12) (mn 4) (mn, mv) ∧ (∀ j r, j < 12 → r < mn (ow j) → vv1 j r = vv j r) ∧ (∀ j r, 12 ≤ j → vv1 j r = vv j r) ∧
  ((k = 0 ∧ x = 0) ∨ (k = 2 ∧ x = 1) ∨ ((k = 4 ∨ k = 8 ∨ k = 9) ∧ x = 2 ∧ z = nI ((stD (lgV mv (mn 4) k a b c e f g 12) (mn 4) (mn, trV vv)).1 2 - mn 2) ∧ u = nI ((stD (lgV mv (mn 4) k a b c e f g 12) (mn 4) (mn, trV vv)).1 3 - mn 3)) ∨
    (k = 1 ∧ x = 3 ∧ y = a ∧ z = b) ∨ (k = 3 ∧ x = 4 ∧ y = a ∧ z = b) ∨ (k = 6 ∧ x = 5 ∧ y = a ∧ z = b) ∨ (k = 5 ∧ x = 6 ∧ y = a ∧ z = b ∧ u = c) ∨ (k = 7 ∧ x = 7 ∧ y = a)) ∧
  (∀ j r, j < 12 → mn (ow j) ≤ r → r < (stD (lgV mv (mn 4) k a b c e f g 12) (mn 4) (mn, trV vv)).1 (ow j) → trV vv1 j r = (stD (lgV mv (mn 4) k a b c e f g 12) (mn 4) (mn, trV vv)).2 j r)
theorem act_core (h : Rel kn vv nn mk mv mn) {kC kM : Nat} (hk : kC = kM) {vv1 : Ar} {k a b c e f g x y z u : Int32} (h0 : kM = 0 → actO mn mv vv vv1 k a b c e f g x y z u) :
    (kM = 0 → okD (lgV mv (mn 4) k a b c e f g 12) (mn 4) (mn, lgV mv (mn 4) k a b c e f g)) ∧
    ∃ nn' mn' : Nat → Nat, Rel (if kC = 0 then pfK kn vv1 (nn 4) x y z u else kn) (if kC = 0 then pfV vv1 (nn 4) x y z u else vv) nn' (maK kM mk mv mn k a b c e f g) (maV kM mv mn k a b c e f g) mn' := by
  subst hk
  have hcs := h.cs
  have hed := h.ed
  have hiD := h.iD
  have het := h.et
  obtain ⟨hC, hM, h1, h2, h3, h4, h5, h6, h7, h8, h9⟩ := id h
  have hel : eqD (mn, mv) (mn, lgV mv (mn 4) k a b c e f g) := ⟨fun _ _ => rfl, fun j r hs => by
    have hj : j < 12 := hs.1
    show mv j r = lgV mv (mn 4) k a b c e f g j r
    rw [lgV_row _ (by omega)]⟩
  by_cases hk : kC = 0
  · obtain ⟨q1, q2, q3, q4, q5, q6⟩ := h0 hk
    subst hk
    refine ⟨fun _ => okD_of (bounds_eq (hed.trans hel) hiD) (vA_congr hel q2), nX (Dk (lgV mv (mn 4) k a b c e f g 12) (mn 4 + 1)).1 (mn 4 + 1) (mn 4 + 1), nX (stD (lgV mv (mn 4) k a b c e f g 12) (mn 4) (mn, lgV mv (mn 4) k a b c e f g)).1 (mn 4 + 1) 0, ?_⟩
    rw [if_pos rfl, if_pos rfl]
    simp only [maK, maV, if_true]
    rw [h2]
    obtain ⟨l0, l1, l2, l3, l4, l5, l6⟩ := lgV_at mv (mn 4) k a b c e f g
    have hll : ∀ i, i < 7 * mn 4 → mv 12 i = lgV mv (mn 4) k a b c e f g 12 i := fun i hi => (lgV_lt mv hi).symm
    have hDD : ∀ i, i ≤ mn 4 → Dk (lgV mv (mn 4) k a b c e f g 12) i = Dk (mv 12) i := fun i hi => (Dk_lg (fun i' hi' => hll i' (by omega))).symm
    have hDd := hDD (mn 4) (Nat.le_refl _)
    have hvd : vA (lgV mv (mn 4) k a b c e f g 12) (mn 4) (Dk (mv 12) (mn 4)) := vA_congr hed.symm q2
    have hst : eqD (stD (lgV mv (mn 4) k a b c e f g 12) (mn 4) (Dk (mv 12) (mn 4))) (stD (lgV mv (mn 4) k a b c e f g 12) (mn 4) (mn, trV vv)) := stD_congr (hed.trans het) (inv_lt hiD) hvd
    have hD1 : Dk (lgV mv (mn 4) k a b c e f g 12) (mn 4 + 1) = stD (lgV mv (mn 4) k a b c e f g 12) (mn 4) (Dk (mv 12) (mn 4)) := by rw [Dk_succ, hDd]
    have hcs1 : CS (lgV mv (mn 4) k a b c e f g 12) (mn 4) (mn 4 + 1) (hwV vv1 (mn 4) x y z u) := by
      refine ⟨fun i hi => ?_, fun j r hs => ?_, fun i hi => ?_, fun i hi1 hi2 j r hj r1 r2 => ?_⟩
      · by_cases hid : i = mn 4
        · subst hid; rw [hDd]; exact hvd
        · rw [hDD i (by omega)]
          exact vA_lg (fun m hm => hll (7 * i + m) (by omega)) (hcs.1 i (by omega))
      · rw [hDd] at hs ⊢
        have hj : j < 12 := hs.1
        have hr : r < mn (ow j) := by have := hs.2; rw [hed.1 _ (ow_lt j)] at this; exact this
        rw [trV_congr (hwV_old _ (by omega)), trV_congr (q3 j r hj hr)]
        exact hcs.2.1 j r hs
      · by_cases hid : i = mn 4
        · rw [hid, show decide (mn 4 < mn 4) = false by simp]
          obtain ⟨w0, w1, w2, w3⟩ := hwV_at vv1 (mn 4) x y z u
          have n2 : (Dk (mv 12) (mn 4)).1 2 = mn 2 := hed.1 2 (by decide)
          have n3 : (Dk (mv 12) (mn 4)).1 3 = mn 3 := hed.1 3 (by decide)
          unfold mat
          rw [l0, l1, l2, l3, w0, w1, w2, w3, hD1, hst.1 2 (by decide), hst.1 3 (by decide), hDd, n2, n3]
          simp only [Bool.false_eq_true, if_false]
          exact q5
        · have hmm := hcs.2.2.1 i (by omega)
          exact mat_congr (fun j hj => by rw [hwV_old _ (by omega)]; exact q4 j i hj) (mat_lg (fun m hm => hll m (by omega)) hmm)
      · have hid : i = mn 4 := by omega
        subst hid
        rw [hD1] at r2 ⊢
        rw [hDd] at r1
        have n1 : (Dk (mv 12) (mn 4)).1 (ow j) = mn (ow j) := hed.1 _ (ow_lt j)
        rw [hst.2 j r ⟨hj, r2⟩, trV_congr (hwV_old _ (by omega))]
        rw [n1] at r1
        rw [hst.1 _ (ow_lt j)] at r2
        exact q6 j r hj r1 r2
    have hcs2 := hcs1.step (d := mn 4) (e := mn 4 + 1) (x := 1) (Or.inl ⟨rfl, rfl, rfl⟩) (by omega)
    have hknF : ∀ i, i < 4 → stK (va_up kn 5 (nI (mn 4) + 1)) (hwV vv1 (mn 4) x y z u) (mn 4) 1 i = nI ((Dk (lgV mv (mn 4) k a b c e f g 12) (mn 4 + 1)).1 i) := by
      refine hcs1.knF (by omega) (fun i hi => ?_)
      rw [va_at1, if_neg (by omega), hC.1 i (by omega), h1 i hi, h4 i hi, hDd]
    refine Rel_mk (lg := lgV mv (mn 4) k a b c e f g 12) _ (stD_hi (by decide)) rfl (by omega) hcs2 ?_ ?_ ?_ ?_ ?_ ?_ ?_
    · intro i hi
      unfold pfK
      rw [va_at1, if_neg (by omega)]
      exact hknF i hi
    · unfold pfK
      rw [va_at1, if_pos rfl, stK_hi _ _ _ _ (by decide), va_at1, if_neg (by decide), hC.1 4 (by decide), h2, nI_1]
    · unfold pfK
      rw [va_at1, if_neg (by decide), stK_hi _ _ _ _ (by decide), va_at1, if_pos rfl, nI_1]
    · rw [hD1]
      exact stD_congr (hed.trans hel) (inv_lt hiD) hvd
    · intro i hi; unfold acK mkOf; rw [if_pos hi]
    · rfl
    · rfl
  · refine ⟨fun hc => absurd hc hk, nn, mn, ?_⟩
    rw [if_neg hk, if_neg hk]
    simp only [maK, maV, hk, if_false]
    exact h.k6 _
end P45
