section
variable {kn : Nat → Int32} {vv : Ar} {nn : Nat → Nat} {mk : Nat → Int32} {mv : Ar} {mn : Nat → Nat}
theorem sim_storey (h : Rel kn vv nn mk mv mn) (x : Int32) : (kAct (lvB kn vv (nn 0) x) (decide (nn 0 < 6)) (nn 4)) = (kAct (rsB mk mv mn x) (decide (mn 0 < 6)) (mn 4)) ∧ ((kAct (rsB mk mv mn x) (decide (mn 0 < 6)) (mn 4)) = 0 → okD ((lgV mv (mn 4) 0 x 0 0 0 0 0) 12) (mn 4) (mn, (lgV mv (mn 4) 0 x 0 0 0 0 0))) ∧ ((kAct (lvB kn vv (nn 0) x) (decide (nn 0 < 6)) (nn 4)) = 0 → ((nI (nn 0))).toInt64 = ((maR (kAct (rsB mk mv mn x) (decide (mn 0 < 6)) (mn 4)) mv mn 0 x 0 0 0 0 0)).toInt64) ∧ ∃ nn' mn' : Nat → Nat, Rel (if (kAct (lvB kn vv (nn 0) x) (decide (nn 0 < 6)) (nn 4)) = 0 then (pfK kn (u1 vv 0 (nn 0) x) (nn 4) 0 (nI (nn 0)) 0 0) else kn) (if (kAct (lvB kn vv (nn 0) x) (decide (nn 0 < 6)) (nn 4)) = 0 then (pfV (u1 vv 0 (nn 0) x) (nn 4) 0 (nI (nn 0)) 0 0) else vv) nn' (maK (kAct (rsB mk mv mn x) (decide (mn 0 < 6)) (mn 4)) mk mv mn 0 x 0 0 0 0 0) (maV (kAct (rsB mk mv mn x) (decide (mn 0 < 6)) (mn 4)) mv mn 0 x 0 0 0 0 0) mn' := by
  obtain ⟨b0, b1, b2, b3⟩ := h.b
  have n0 := h.n (show 0 < 4 by decide)
  have hr : lvB kn vv (nn 0) x = rsB mk mv mn x := by
    unfold lvB rsB bnB
    rw [inB_lv, n0, h.k (show 0 < 4 by decide), h.m (show 0 < 4 by decide)]
    have g : nI (mn 0) ≤ nI (mn 0 + 1) := nI_le (by omega) (by omega)
    simp only [g, decide_true, Bool.true_or, Bool.and_true]
    by_cases hz : mn 0 = 0
    · simp only [hz, decide_true, Bool.true_or]
    · rw [h.r0 (show mn 0 - 1 < mn 0 by omega)]
  have hk : (kAct (lvB kn vv (nn 0) x) (decide (nn 0 < 6)) (nn 4)) = (kAct (rsB mk mv mn x) (decide (mn 0 < 6)) (mn 4)) := by rw [hr, n0, h.n4]
  have hO : (kAct (rsB mk mv mn x) (decide (mn 0 < 6)) (mn 4)) = 0 → actO mn mv vv (u1 vv 0 (nn 0) x) 0 x 0 0 0 0 0 0 (nI (nn 0)) 0 0 := by
    intro h0
    obtain ⟨a1, a2, a3⟩ := kAct_0 h0
    obtain ⟨l0, l1, l2, l3, l4, l5, l6⟩ := lgV_at mv (mn 4) 0 x 0 0 0 0 0
    have a2' : mn 0 < 6 := by simpa using a2
    simp only [rsB, Bool.and_eq_true] at a1
    refine ⟨a3, Or.inl ⟨l0, a2', by rw [l1]; exact in_lv a1.1⟩, fun j r hj hr => u1_ne _ _ ?_, fun j r hj => u1_ne _ _ (by omega), Or.inl ⟨rfl, rfl⟩, fun j r hj h1 h2 => ?_⟩
    · intro hb
      obtain ⟨rfl, rfl⟩ := hb
      rw [n0] at hr
      exact Nat.lt_irrefl _ hr
    · rw [stD_0 l0, l1, trV_u1, n0]
      rfl
  refine ⟨hk, (act_core h hk hO).1, fun h0 => ?_, (act_core h hk hO).2⟩
  rw [hk] at h0
  obtain ⟨l0, _⟩ := lgV_at mv (mn 4) 0 x 0 0 0 0 0
  rw [h0, n0]
  simp [maR, acR, stR, l0]
theorem sim_level (h : Rel kn vv nn mk mv mn) (x y : Int32) : (kAct (haB (kn 0) x && lvB kn vv x.toNatClampNeg y) (true) (nn 4)) = (kAct (rlB mk mv x y) (true) (mn 4)) ∧ ((kAct (rlB mk mv x y) (true) (mn 4)) = 0 → okD ((lgV mv (mn 4) 1 x y 0 0 0 0) 12) (mn 4) (mn, (lgV mv (mn 4) 1 x y 0 0 0 0))) ∧ True ∧ ∃ nn' mn' : Nat → Nat, Rel (if (kAct (haB (kn 0) x && lvB kn vv x.toNatClampNeg y) (true) (nn 4)) = 0 then (pfK kn vv (nn 4) 3 x y 0) else kn) (if (kAct (haB (kn 0) x && lvB kn vv x.toNatClampNeg y) (true) (nn 4)) = 0 then (pfV vv (nn 4) 3 x y 0) else vv) nn' (maK (kAct (rlB mk mv x y) (true) (mn 4)) mk mv mn 1 x y 0 0 0 0) (maV (kAct (rlB mk mv x y) (true) (mn 4)) mv mn 1 x y 0 0 0 0) mn' := by
  obtain ⟨b0, b1, b2, b3⟩ := h.b
  have hr : (haB (kn 0) x && lvB kn vv x.toNatClampNeg y) = rlB mk mv x y := by
    unfold rlB lvB
    rw [h.k (show 0 < 4 by decide)]
    cases hx : haB (mk 0) x with
    | false => simp only [Bool.false_and]
    | true =>
      obtain ⟨t, rfl, ht⟩ := h.ha (show 0 < 4 by decide) hx
      rw [nI_clamp (by omega), h.bn ht, inB_lv]
      simp only [Bool.true_and]
  have hk : (kAct (haB (kn 0) x && lvB kn vv x.toNatClampNeg y) (true) (nn 4)) = (kAct (rlB mk mv x y) (true) (mn 4)) := by rw [hr, h.n4]
  have hO : (kAct (rlB mk mv x y) (true) (mn 4)) = 0 → actO mn mv vv vv 1 x y 0 0 0 0 3 x y 0 := by
    intro h0
    obtain ⟨a1, a2, a3⟩ := kAct_0 h0
    obtain ⟨l0, l1, l2, l3, l4, l5, l6⟩ := lgV_at mv (mn 4) 1 x y 0 0 0 0
    simp only [rlB, Bool.and_eq_true] at a1
    obtain ⟨t, et, ht⟩ := h.ha (show 0 < 4 by decide) a1.1.1
    exact ⟨a3, Or.inr (Or.inl ⟨l0, ⟨t, l1.trans et, ht⟩, by rw [l2]; exact in_lv a1.1.2⟩), fun j r _ _ => rfl, fun j r _ => rfl, Or.inr (Or.inr (Or.inr (Or.inl ⟨rfl, rfl, rfl, rfl⟩))), tail_n (Or.inl l0)⟩
  exact ⟨hk, (act_core h hk hO).1, trivial, (act_core h hk hO).2⟩
theorem sim_type (h : Rel kn vv nn mk mv mn) (x : Int32) : (kAct (thB x) (decide (nn 1 < 8)) (nn 4)) = (kAct (thB x) (decide (mn 1 < 8)) (mn 4)) ∧ ((kAct (thB x) (decide (mn 1 < 8)) (mn 4)) = 0 → okD ((lgV mv (mn 4) 2 x 0 0 0 0 0) 12) (mn 4) (mn, (lgV mv (mn 4) 2 x 0 0 0 0 0))) ∧ ((kAct (thB x) (decide (nn 1 < 8)) (nn 4)) = 0 → ((nI (nn 1))).toInt64 = ((maR (kAct (thB x) (decide (mn 1 < 8)) (mn 4)) mv mn 2 x 0 0 0 0 0)).toInt64) ∧ ∃ nn' mn' : Nat → Nat, Rel (if (kAct (thB x) (decide (nn 1 < 8)) (nn 4)) = 0 then (pfK kn (u1 vv 1 (nn 1) x) (nn 4) 1 (nI (nn 1)) 0 0) else kn) (if (kAct (thB x) (decide (nn 1 < 8)) (nn 4)) = 0 then (pfV (u1 vv 1 (nn 1) x) (nn 4) 1 (nI (nn 1)) 0 0) else vv) nn' (maK (kAct (thB x) (decide (mn 1 < 8)) (mn 4)) mk mv mn 2 x 0 0 0 0 0) (maV (kAct (thB x) (decide (mn 1 < 8)) (mn 4)) mv mn 2 x 0 0 0 0 0) mn' := by
  obtain ⟨b0, b1, b2, b3⟩ := h.b
  have n1 := h.n (show 1 < 4 by decide)
  have hk : (kAct (thB x) (decide (nn 1 < 8)) (nn 4)) = (kAct (thB x) (decide (mn 1 < 8)) (mn 4)) := by rw [n1, h.n4]
  have hO : (kAct (thB x) (decide (mn 1 < 8)) (mn 4)) = 0 → actO mn mv vv (u1 vv 1 (nn 1) x) 2 x 0 0 0 0 0 1 (nI (nn 1)) 0 0 := by
    intro h0
    obtain ⟨a1, a2, a3⟩ := kAct_0 h0
    obtain ⟨l0, l1, l2, l3, l4, l5, l6⟩ := lgV_at mv (mn 4) 2 x 0 0 0 0 0
    have a2' : mn 1 < 8 := by simpa using a2
    refine ⟨a3, Or.inr (Or.inr (Or.inl ⟨l0, a2', by rw [l1]; exact in_th a1⟩)), fun j r hj hr => u1_ne _ _ ?_, fun j r hj => u1_ne _ _ (by omega), Or.inr (Or.inl ⟨rfl, rfl⟩), fun j r hj h1 h2 => ?_⟩
    · intro hb
      obtain ⟨rfl, rfl⟩ := hb
      rw [n1] at hr
      exact Nat.lt_irrefl _ hr
    · rw [stD_2 l0, l1, trV_u1, n1]
      rfl
  refine ⟨hk, (act_core h hk hO).1, fun h0 => ?_, (act_core h hk hO).2⟩
  rw [hk] at h0
  obtain ⟨l0, _⟩ := lgV_at mv (mn 4) 2 x 0 0 0 0 0
  rw [h0, n1]
  simp [maR, acR, stR, l0]
theorem sim_thickness (h : Rel kn vv nn mk mv mn) (x y : Int32) : (kAct (haB (kn 1) x && thB y) (true) (nn 4)) = (kAct (haB (mk 1) x && thB y) (true) (mn 4)) ∧ ((kAct (haB (mk 1) x && thB y) (true) (mn 4)) = 0 → okD ((lgV mv (mn 4) 3 x y 0 0 0 0) 12) (mn 4) (mn, (lgV mv (mn 4) 3 x y 0 0 0 0))) ∧ True ∧ ∃ nn' mn' : Nat → Nat, Rel (if (kAct (haB (kn 1) x && thB y) (true) (nn 4)) = 0 then (pfK kn vv (nn 4) 4 x y 0) else kn) (if (kAct (haB (kn 1) x && thB y) (true) (nn 4)) = 0 then (pfV vv (nn 4) 4 x y 0) else vv) nn' (maK (kAct (haB (mk 1) x && thB y) (true) (mn 4)) mk mv mn 3 x y 0 0 0 0) (maV (kAct (haB (mk 1) x && thB y) (true) (mn 4)) mv mn 3 x y 0 0 0 0) mn' := by
  obtain ⟨b0, b1, b2, b3⟩ := h.b
  have hk : (kAct (haB (kn 1) x && thB y) (true) (nn 4)) = (kAct (haB (mk 1) x && thB y) (true) (mn 4)) := by rw [h.k (show 1 < 4 by decide), h.n4]
  have hO : (kAct (haB (mk 1) x && thB y) (true) (mn 4)) = 0 → actO mn mv vv vv 3 x y 0 0 0 0 4 x y 0 := by
    intro h0
    obtain ⟨a1, a2, a3⟩ := kAct_0 h0
    obtain ⟨l0, l1, l2, l3, l4, l5, l6⟩ := lgV_at mv (mn 4) 3 x y 0 0 0 0
    simp only [Bool.and_eq_true] at a1
    obtain ⟨t, et, ht⟩ := h.ha (show 1 < 4 by decide) a1.1
    exact ⟨a3, Or.inr (Or.inr (Or.inr (Or.inl ⟨l0, ⟨t, l1.trans et, ht⟩, by rw [l2]; exact in_th a1.2⟩))), fun j r _ _ => rfl, fun j r _ => rfl, Or.inr (Or.inr (Or.inr (Or.inr (Or.inl ⟨rfl, rfl, rfl, rfl⟩)))), tail_n (Or.inr (Or.inl l0))⟩
  exact ⟨hk, (act_core h hk hO).1, trivial, (act_core h hk hO).2⟩
theorem sim_wall (h : Rel kn vv nn mk mv mn) (x1 x2 x3 x4 x5 x6 : Int32) : (kAct (haB (kn 0) x1 && haB (kn 1) x2 && plB x3.toInt64 x4.toInt64 && plB x5.toInt64 x6.toInt64 && (decide (x3 = x5) != decide (x4 = x6))) (decide (nn 2 < 40)) (nn 4)) = (kAct (rwB mk x1 x2 x3 x4 x5 x6) (decide (mn 2 < 40)) (mn 4)) ∧ ((kAct (rwB mk x1 x2 x3 x4 x5 x6) (decide (mn 2 < 40)) (mn 4)) = 0 → okD ((lgV mv (mn 4) 4 x1 x2 x3 x4 x5 x6) 12) (mn 4) (mn, (lgV mv (mn 4) 4 x1 x2 x3 x4 x5 x6))) ∧ ((kAct (haB (kn 0) x1 && haB (kn 1) x2 && plB x3.toInt64 x4.toInt64 && plB x5.toInt64 x6.toInt64 && (decide (x3 = x5) != decide (x4 = x6))) (decide (nn 2 < 40)) (nn 4)) = 0 → ((nI (nn 2))).toInt64 = ((maR (kAct (rwB mk x1 x2 x3 x4 x5 x6) (decide (mn 2 < 40)) (mn 4)) mv mn 4 x1 x2 x3 x4 x5 x6)).toInt64) ∧ ∃ nn' mn' : Nat → Nat, Rel (if (kAct (haB (kn 0) x1 && haB (kn 1) x2 && plB x3.toInt64 x4.toInt64 && plB x5.toInt64 x6.toInt64 && (decide (x3 = x5) != decide (x4 = x6))) (decide (nn 2 < 40)) (nn 4)) = 0 then (pfK kn (nwV vv (nn 2) x1 x2 x3 x4 x5 x6) (nn 4) 2 (nI (nn 2)) 1 0) else kn) (if (kAct (haB (kn 0) x1 && haB (kn 1) x2 && plB x3.toInt64 x4.toInt64 && plB x5.toInt64 x6.toInt64 && (decide (x3 = x5) != decide (x4 = x6))) (decide (nn 2 < 40)) (nn 4)) = 0 then (pfV (nwV vv (nn 2) x1 x2 x3 x4 x5 x6) (nn 4) 2 (nI (nn 2)) 1 0) else vv) nn' (maK (kAct (rwB mk x1 x2 x3 x4 x5 x6) (decide (mn 2 < 40)) (mn 4)) mk mv mn 4 x1 x2 x3 x4 x5 x6) (maV (kAct (rwB mk x1 x2 x3 x4 x5 x6) (decide (mn 2 < 40)) (mn 4)) mv mn 4 x1 x2 x3 x4 x5 x6) mn' := by
  obtain ⟨b0, b1, b2, b3⟩ := h.b
  have n2 := h.n (show 2 < 4 by decide)
  have hk : (kAct (haB (kn 0) x1 && haB (kn 1) x2 && plB x3.toInt64 x4.toInt64 && plB x5.toInt64 x6.toInt64 && (decide (x3 = x5) != decide (x4 = x6))) (decide (nn 2 < 40)) (nn 4)) = (kAct (rwB mk x1 x2 x3 x4 x5 x6) (decide (mn 2 < 40)) (mn 4)) := by rw [h.k (show 0 < 4 by decide), h.k (show 1 < 4 by decide), plB_eq, plB_eq, n2, h.n4]; rfl
  have hO : (kAct (rwB mk x1 x2 x3 x4 x5 x6) (decide (mn 2 < 40)) (mn 4)) = 0 → actO mn mv vv (nwV vv (nn 2) x1 x2 x3 x4 x5 x6) 4 x1 x2 x3 x4 x5 x6 2 (nI (nn 2)) 1 0 := by
    intro h0
    obtain ⟨a1, a2, a3⟩ := kAct_0 h0
    obtain ⟨l0, l1, l2, l3, l4, l5, l6⟩ := lgV_at mv (mn 4) 4 x1 x2 x3 x4 x5 x6
    have a2' : mn 2 < 40 := by simpa using a2
    simp only [rwB, Bool.and_eq_true] at a1
    obtain ⟨⟨⟨⟨c1, c2⟩, c3⟩, c4⟩, c5⟩ := a1
    obtain ⟨t, et, ht⟩ := h.ha (show 0 < 4 by decide) c1
    obtain ⟨s, es, hs⟩ := h.ha (show 1 < 4 by decide) c2
    have c6 : ¬ (x3 = x5 ↔ x4 = x6) := by
      intro hc
      have e : decide (x3 = x5) = decide (x4 = x6) := by simp only [hc]
      rw [e] at c5
      simp at c5
    refine ⟨a3, Or.inr (Or.inr (Or.inr (Or.inr (Or.inl ⟨l0, a2', ⟨t, l1.trans et, ht⟩, ⟨s, l2.trans es, hs⟩, ?_⟩)))), fun j r hj hr => nwV_old _ ?_, fun j r hj => nwV_old _ (by omega), Or.inr (Or.inr (Or.inl ⟨Or.inl rfl, rfl, ?_, ?_⟩)), fun j r hj h1 h2 => ?_⟩
    · rw [l3, l4, l5, l6]
      exact ⟨(pl_in c3).1, (pl_in c3).2, (pl_in c4).1, (pl_in c4).2, c6⟩
    · intro hb
      rw [ow_2.mpr ⟨hb.1, hb.2.1⟩] at hr
      omega
    · rw [stD_4 l0]
      show (1 : Int32) = nI (mn 2 + 1 - mn 2)
      rw [Nat.add_sub_cancel_left]; rfl
    · rw [stD_4 l0]
      show (0 : Int32) = nI (mn 3 - mn 3)
      rw [Nat.sub_self]; rfl
    · rw [stD_4 l0, l1, l2, l3, l4, l5, l6, trV_nw, n2]
  refine ⟨hk, (act_core h hk hO).1, fun h0 => ?_, (act_core h hk hO).2⟩
  rw [hk] at h0
  obtain ⟨l0, _⟩ := lgV_at mv (mn 4) 4 x1 x2 x3 x4 x5 x6
  rw [h0, n2]
  simp [maR, acR, stR, l0]
theorem sim_move (h : Rel kn vv nn mk mv mn) (x y z : Int32) : (kAct (tW kn vv x && plB ((vv 4 x.toNatClampNeg).toInt64 + y.toInt64) ((vv 5 x.toNatClampNeg).toInt64 + z.toInt64) && plB ((vv 6 x.toNatClampNeg).toInt64 + y.toInt64) ((vv 7 x.toNatClampNeg).toInt64 + z.toInt64)) (true) (nn 4)) = (kAct (rmB mk mv x y z) (true) (mn 4)) ∧ ((kAct (rmB mk mv x y z) (true) (mn 4)) = 0 → okD ((lgV mv (mn 4) 5 x y z 0 0 0) 12) (mn 4) (mn, (lgV mv (mn 4) 5 x y z 0 0 0))) ∧ True ∧ ∃ nn' mn' : Nat → Nat, Rel (if (kAct (tW kn vv x && plB ((vv 4 x.toNatClampNeg).toInt64 + y.toInt64) ((vv 5 x.toNatClampNeg).toInt64 + z.toInt64) && plB ((vv 6 x.toNatClampNeg).toInt64 + y.toInt64) ((vv 7 x.toNatClampNeg).toInt64 + z.toInt64)) (true) (nn 4)) = 0 then (pfK kn vv (nn 4) 6 x y z) else kn) (if (kAct (tW kn vv x && plB ((vv 4 x.toNatClampNeg).toInt64 + y.toInt64) ((vv 5 x.toNatClampNeg).toInt64 + z.toInt64) && plB ((vv 6 x.toNatClampNeg).toInt64 + y.toInt64) ((vv 7 x.toNatClampNeg).toInt64 + z.toInt64)) (true) (nn 4)) = 0 then (pfV vv (nn 4) 6 x y z) else vv) nn' (maK (kAct (rmB mk mv x y z) (true) (mn 4)) mk mv mn 5 x y z 0 0 0) (maV (kAct (rmB mk mv x y z) (true) (mn 4)) mv mn 5 x y z 0 0 0) mn' := by
  obtain ⟨b0, b1, b2, b3⟩ := h.b
  have hr : (tW kn vv x && plB ((vv 4 x.toNatClampNeg).toInt64 + y.toInt64) ((vv 5 x.toNatClampNeg).toInt64 + z.toInt64) && plB ((vv 6 x.toNatClampNeg).toInt64 + y.toInt64) ((vv 7 x.toNatClampNeg).toInt64 + z.toInt64)) = rmB mk mv x y z := by
    unfold rmB
    rw [h.tw, plB_eq, plB_eq]
    cases hx : mW mk mv x with
    | false => simp only [Bool.false_and]
    | true =>
      obtain ⟨t, et, ht, ec, _⟩ := h.mw hx
      rw [ec, h.r2 (by decide) (by decide) ht, h.r2 (j := 5) (by decide) (by decide) ht, h.r2 (j := 6) (by decide) (by decide) ht, h.r2 (j := 7) (by decide) (by decide) ht]
  have hk : (kAct (tW kn vv x && plB ((vv 4 x.toNatClampNeg).toInt64 + y.toInt64) ((vv 5 x.toNatClampNeg).toInt64 + z.toInt64) && plB ((vv 6 x.toNatClampNeg).toInt64 + y.toInt64) ((vv 7 x.toNatClampNeg).toInt64 + z.toInt64)) (true) (nn 4)) = (kAct (rmB mk mv x y z) (true) (mn 4)) := by rw [hr, h.n4]
  have hO : (kAct (rmB mk mv x y z) (true) (mn 4)) = 0 → actO mn mv vv vv 5 x y z 0 0 0 6 x y z := by
    intro h0
    obtain ⟨a1, a2, a3⟩ := kAct_0 h0
    obtain ⟨l0, l1, l2, l3, l4, l5, l6⟩ := lgV_at mv (mn 4) 5 x y z 0 0 0
    simp only [rmB, Bool.and_eq_true] at a1
    obtain ⟨⟨c1, c2⟩, c3⟩ := a1
    obtain ⟨t, et, ht, ec, _⟩ := h.mw c1
    rw [ec] at c2 c3
    refine ⟨a3, Or.inr (Or.inr (Or.inr (Or.inr (Or.inr (Or.inl ⟨l0, t, l1.trans et, ht, ?_⟩))))), fun j r _ _ => rfl, fun j r _ => rfl, Or.inr (Or.inr (Or.inr (Or.inr (Or.inr (Or.inr (Or.inl ⟨rfl, rfl, rfl, rfl, rfl⟩)))))), tail_n (Or.inr (Or.inr (Or.inr (Or.inl l0))))⟩
    rw [l2, l3]
    exact ⟨sum_in (ipB_in c2).1, sum_in (ipB_in c2).2, sum_in (ipB_in c3).1, sum_in (ipB_in c3).2⟩
  exact ⟨hk, (act_core h hk hO).1, trivial, (act_core h hk hO).2⟩
theorem sim_retype (h : Rel kn vv nn mk mv mn) (x y : Int32) : (kAct (tW kn vv x && haB (kn 1) y) (true) (nn 4)) = (kAct (mW mk mv x && haB (mk 1) y) (true) (mn 4)) ∧ ((kAct (mW mk mv x && haB (mk 1) y) (true) (mn 4)) = 0 → okD ((lgV mv (mn 4) 6 x y 0 0 0 0) 12) (mn 4) (mn, (lgV mv (mn 4) 6 x y 0 0 0 0))) ∧ True ∧ ∃ nn' mn' : Nat → Nat, Rel (if (kAct (tW kn vv x && haB (kn 1) y) (true) (nn 4)) = 0 then (pfK kn vv (nn 4) 5 x y 0) else kn) (if (kAct (tW kn vv x && haB (kn 1) y) (true) (nn 4)) = 0 then (pfV vv (nn 4) 5 x y 0) else vv) nn' (maK (kAct (mW mk mv x && haB (mk 1) y) (true) (mn 4)) mk mv mn 6 x y 0 0 0 0) (maV (kAct (mW mk mv x && haB (mk 1) y) (true) (mn 4)) mv mn 6 x y 0 0 0 0) mn' := by
  have hk : (kAct (tW kn vv x && haB (kn 1) y) (true) (nn 4)) = (kAct (mW mk mv x && haB (mk 1) y) (true) (mn 4)) := by rw [h.tw, h.k (show 1 < 4 by decide), h.n4]
  have hO : (kAct (mW mk mv x && haB (mk 1) y) (true) (mn 4)) = 0 → actO mn mv vv vv 6 x y 0 0 0 0 5 x y 0 := by
    intro h0
    obtain ⟨a1, a2, a3⟩ := kAct_0 h0
    obtain ⟨l0, l1, l2, l3, l4, l5, l6⟩ := lgV_at mv (mn 4) 6 x y 0 0 0 0
    simp only [Bool.and_eq_true] at a1
    obtain ⟨t, et, ht, ec, _⟩ := h.mw a1.1
    obtain ⟨s, es, hs⟩ := h.ha (show 1 < 4 by decide) a1.2
    exact ⟨a3, Or.inr (Or.inr (Or.inr (Or.inr (Or.inr (Or.inr (Or.inl ⟨l0, ⟨t, l1.trans et, ht⟩, s, l2.trans es, hs⟩)))))), fun j r _ _ => rfl, fun j r _ => rfl, Or.inr (Or.inr (Or.inr (Or.inr (Or.inr (Or.inl ⟨rfl, rfl, rfl, rfl⟩))))), tail_n (Or.inr (Or.inr (Or.inl l0)))⟩
  exact ⟨hk, (act_core h hk hO).1, trivial, (act_core h hk hO).2⟩
theorem sim_remove (h : Rel kn vv nn mk mv mn) (x : Int32) : (kAct (tW kn vv x) (true) (nn 4)) = (kAct (mW mk mv x) (true) (mn 4)) ∧ ((kAct (mW mk mv x) (true) (mn 4)) = 0 → okD ((lgV mv (mn 4) 7 x 0 0 0 0 0) 12) (mn 4) (mn, (lgV mv (mn 4) 7 x 0 0 0 0 0))) ∧ True ∧ ∃ nn' mn' : Nat → Nat, Rel (if (kAct (tW kn vv x) (true) (nn 4)) = 0 then (pfK kn vv (nn 4) 7 x 0 0) else kn) (if (kAct (tW kn vv x) (true) (nn 4)) = 0 then (pfV vv (nn 4) 7 x 0 0) else vv) nn' (maK (kAct (mW mk mv x) (true) (mn 4)) mk mv mn 7 x 0 0 0 0 0) (maV (kAct (mW mk mv x) (true) (mn 4)) mv mn 7 x 0 0 0 0 0) mn' := by
  have hk : (kAct (tW kn vv x) (true) (nn 4)) = (kAct (mW mk mv x) (true) (mn 4)) := by rw [h.tw, h.n4]
  have hO : (kAct (mW mk mv x) (true) (mn 4)) = 0 → actO mn mv vv vv 7 x 0 0 0 0 0 7 x 0 0 := by
    intro h0
    obtain ⟨a1, a2, a3⟩ := kAct_0 h0
    obtain ⟨l0, l1, l2, l3, l4, l5, l6⟩ := lgV_at mv (mn 4) 7 x 0 0 0 0 0
    obtain ⟨t, et, ht, ec, h8⟩ := h.mw a1
    exact ⟨a3, Or.inr (Or.inr (Or.inr (Or.inr (Or.inr (Or.inr (Or.inr (Or.inl ⟨l0, t, l1.trans et, ht, h.m8 ht h8⟩))))))), fun j r _ _ => rfl, fun j r _ => rfl, Or.inr (Or.inr (Or.inr (Or.inr (Or.inr (Or.inr (Or.inr ⟨rfl, rfl, rfl⟩)))))), tail_n (Or.inr (Or.inr (Or.inr (Or.inr l0))))⟩
  exact ⟨hk, (act_core h hk hO).1, trivial, (act_core h hk hO).2⟩
theorem sim_opening (h : Rel kn vv nn mk mv mn) (x y z : Int32) : (kAct (tW kn vv x && !decide (y < 0) && !decide (z < 1) && decide (lg_cmp (y.toInt64 + z.toInt64) (leC vv x.toNatClampNeg).toInt64 ≤ 0)) (!(fstN (ovB vv x y z) (nn 3)).isSome && decide (nn 3 < 60)) (nn 4)) = (kAct (roB mk mv x y z) (frB mv mn x y z (mn 3)) (mn 4)) ∧ ((kAct (roB mk mv x y z) (frB mv mn x y z (mn 3)) (mn 4)) = 0 → okD ((lgV mv (mn 4) 8 x y z 0 0 0) 12) (mn 4) (mn, (lgV mv (mn 4) 8 x y z 0 0 0))) ∧ ((kAct (tW kn vv x && !decide (y < 0) && !decide (z < 1) && decide (lg_cmp (y.toInt64 + z.toInt64) (leC vv x.toNatClampNeg).toInt64 ≤ 0)) (!(fstN (ovB vv x y z) (nn 3)).isSome && decide (nn 3 < 60)) (nn 4)) = 0 → ((nI (nn 3))).toInt64 = ((maR (kAct (roB mk mv x y z) (frB mv mn x y z (mn 3)) (mn 4)) mv mn 8 x y z 0 0 0)).toInt64) ∧ ∃ nn' mn' : Nat → Nat, Rel (if (kAct (tW kn vv x && !decide (y < 0) && !decide (z < 1) && decide (lg_cmp (y.toInt64 + z.toInt64) (leC vv x.toNatClampNeg).toInt64 ≤ 0)) (!(fstN (ovB vv x y z) (nn 3)).isSome && decide (nn 3 < 60)) (nn 4)) = 0 then (pfK kn (owV vv (nn 3) x y z) (nn 4) 2 x 0 1) else kn) (if (kAct (tW kn vv x && !decide (y < 0) && !decide (z < 1) && decide (lg_cmp (y.toInt64 + z.toInt64) (leC vv x.toNatClampNeg).toInt64 ≤ 0)) (!(fstN (ovB vv x y z) (nn 3)).isSome && decide (nn 3 < 60)) (nn 4)) = 0 then (pfV (owV vv (nn 3) x y z) (nn 4) 2 x 0 1) else vv) nn' (maK (kAct (roB mk mv x y z) (frB mv mn x y z (mn 3)) (mn 4)) mk mv mn 8 x y z 0 0 0) (maV (kAct (roB mk mv x y z) (frB mv mn x y z (mn 3)) (mn 4)) mv mn 8 x y z 0 0 0) mn' := by
  obtain ⟨b0, b1, b2, b3⟩ := h.b
  have n3 := h.n (show 3 < 4 by decide)
  have hr : (tW kn vv x && !decide (y < 0) && !decide (z < 1) && decide (lg_cmp (y.toInt64 + z.toInt64) (leC vv x.toNatClampNeg).toInt64 ≤ 0)) = roB mk mv x y z := by
    unfold roB
    rw [h.tw]
    cases hx : mW mk mv x with
    | false => simp only [Bool.false_and]
    | true =>
      obtain ⟨t, et, ht, ec, _⟩ := h.mw hx
      rw [ec, h.le ht]
      have e : (lg_cmp (y.toInt64 + z.toInt64) (leM mv t).toInt64 ≤ 0) ↔ ¬ (0 < lg_cmp (y.toInt64 + z.toInt64) (leM mv t).toInt64) := by
        rw [lg_cmp_le, lg_cmp_gt, Int64.not_lt]
      simp only [e, decide_not]
  have hs : (!(fstN (ovB vv x y z) (nn 3)).isSome && decide (nn 3 < 60)) = frB mv mn x y z (mn 3) := by
    rw [fr_eq, n3]
    rw [fstN_congr (q := ovB mv x y z) (fun i hi => by unfold ovB; rw [h.r3 (by decide) (by decide) hi, h.r3 (j := 10) (by decide) (by decide) hi, h.r3 (j := 11) (by decide) (by decide) hi])]
  have hk : (kAct (tW kn vv x && !decide (y < 0) && !decide (z < 1) && decide (lg_cmp (y.toInt64 + z.toInt64) (leC vv x.toNatClampNeg).toInt64 ≤ 0)) (!(fstN (ovB vv x y z) (nn 3)).isSome && decide (nn 3 < 60)) (nn 4)) = (kAct (roB mk mv x y z) (frB mv mn x y z (mn 3)) (mn 4)) := by rw [hr, hs, h.n4]
  have hO : (kAct (roB mk mv x y z) (frB mv mn x y z (mn 3)) (mn 4)) = 0 → actO mn mv vv (owV vv (nn 3) x y z) 8 x y z 0 0 0 2 x 0 1 := by
    intro h0
    obtain ⟨a1, a2, a3⟩ := kAct_0 h0
    obtain ⟨l0, l1, l2, l3, l4, l5, l6⟩ := lgV_at mv (mn 4) 8 x y z 0 0 0
    rw [fr_eq] at a2
    simp only [Bool.and_eq_true, decide_eq_true_eq] at a2
    simp only [roB, Bool.and_eq_true, Bool.not_eq_true', decide_eq_false_iff_not] at a1
    obtain ⟨⟨⟨c1, c2⟩, c3⟩, c4⟩ := a1
    obtain ⟨t, et, ht, ec, _⟩ := h.mw c1
    rw [ec, lg_cmp_gt, Int64.lt_iff_toInt_lt, Int32.toInt_toInt64] at c4
    have hl := leM_in h.iM ht
    have y1 := y.toInt_lt
    have y2 := y.le_toInt
    have z1 := z.toInt_lt
    have z2 := z.le_toInt
    rw [Jvm.Kit.i64_add (by rw [Int32.toInt_toInt64, Int32.toInt_toInt64]; omega) (by rw [Int32.toInt_toInt64, Int32.toInt_toInt64]; omega), Int32.toInt_toInt64, Int32.toInt_toInt64] at c4
    rw [Int32.lt_iff_toInt_lt] at c2 c3
    have e0 : (0 : Int32).toInt = 0 := rfl
    have e1 : (1 : Int32).toInt = 1 := rfl
    refine ⟨a3, Or.inr (Or.inr (Or.inr (Or.inr (Or.inr (Or.inr (Or.inr (Or.inr (Or.inl ⟨l0, a2.2, ⟨t, l1.trans et, ht⟩, ?_⟩)))))))), fun j r hj hr => owV_old _ ?_, fun j r hj => owV_old _ (by omega), Or.inr (Or.inr (Or.inl ⟨Or.inr (Or.inl rfl), rfl, ?_, ?_⟩)), fun j r hj h1 h2 => ?_⟩
    · rw [l2, l3]
      exact ⟨⟨by omega, by omega⟩, ⟨by omega, by omega⟩⟩
    · intro hb
      rw [ow_3.mpr hb.1] at hr
      omega
    · rw [stD_8 l0]
      show (0 : Int32) = nI (mn 2 - mn 2)
      rw [Nat.sub_self]; rfl
    · rw [stD_8 l0]
      show (1 : Int32) = nI (mn 3 + 1 - mn 3)
      rw [Nat.add_sub_cancel_left]; rfl
    · rw [stD_8 l0, l1, l2, l3, trV_ow, n3]
  refine ⟨hk, (act_core h hk hO).1, fun h0 => ?_, (act_core h hk hO).2⟩
  rw [hk] at h0
  obtain ⟨l0, _⟩ := lgV_at mv (mn 4) 8 x y z 0 0 0
  rw [h0, n3]
  simp [maR, acR, stR, l0]
theorem sim_copy (h : Rel kn vv nn mk mv mn) (x y : Int32) : (kAct (haB (kn 0) x && haB (kn 0) y && !decide (x = y)) (decide (nn 2 + cnt (fun i => onB kn vv (nI i) x) (nn 2) ≤ 40) && decide (nn 3 + cnt (fun i => onB kn vv (vv 9 i) x) (nn 3) ≤ 60)) (nn 4)) = (kAct (rcB mk x y) (decide (mn 2 + cwN mk mv mn x y (mn 2) ≤ 40) && decide (mn 3 + coN mk mv mn x y (mn 2) ≤ 60)) (mn 4)) ∧ ((kAct (rcB mk x y) (decide (mn 2 + cwN mk mv mn x y (mn 2) ≤ 40) && decide (mn 3 + coN mk mv mn x y (mn 2) ≤ 60)) (mn 4)) = 0 → okD ((lgV mv (mn 4) 9 x y 0 0 0 0) 12) (mn 4) (mn, (lgV mv (mn 4) 9 x y 0 0 0 0))) ∧ (nn 2 + cnt (fun i => onB kn vv (nI i) x) (nn 2) ≤ 40 → nn 3 + cnt (fun i => onB kn vv (vv 9 i) x) (nn 3) ≤ 60 → (∀ i, i < nn 2 → onB kn (wcF kn (nn 3) x y i (vv, nn 2, nn 3)).1 (nI i) x = true → (wcF kn (nn 3) x y i (vv, nn 2, nn 3)).2.1 < 40) ∧ ∀ i, i < nn 2 → (wcF kn (nn 3) x y (i + 1) (vv, nn 2, nn 3)).2.2 ≤ 60) ∧ ((kAct (haB (kn 0) x && haB (kn 0) y && !decide (x = y)) (decide (nn 2 + cnt (fun i => onB kn vv (nI i) x) (nn 2) ≤ 40) && decide (nn 3 + cnt (fun i => onB kn vv (vv 9 i) x) (nn 3) ≤ 60)) (nn 4)) = 0 → ((nI (cnt (fun i => onB kn vv (nI i) x) (nn 2)))).toInt64 = ((maR (kAct (rcB mk x y) (decide (mn 2 + cwN mk mv mn x y (mn 2) ≤ 40) && decide (mn 3 + coN mk mv mn x y (mn 2) ≤ 60)) (mn 4)) mv mn 9 x y 0 0 0 0)).toInt64) ∧ ∃ nn' mn' : Nat → Nat, Rel (if (kAct (haB (kn 0) x && haB (kn 0) y && !decide (x = y)) (decide (nn 2 + cnt (fun i => onB kn vv (nI i) x) (nn 2) ≤ 40) && decide (nn 3 + cnt (fun i => onB kn vv (vv 9 i) x) (nn 3) ≤ 60)) (nn 4)) = 0 then (pfK kn (wcF kn (nn 3) x y (nn 2) (vv, nn 2, nn 3)).1 (nn 4) 2 y (nI (cnt (fun i => onB kn vv (nI i) x) (nn 2))) (nI (cnt (fun i => onB kn vv (vv 9 i) x) (nn 3)))) else kn) (if (kAct (haB (kn 0) x && haB (kn 0) y && !decide (x = y)) (decide (nn 2 + cnt (fun i => onB kn vv (nI i) x) (nn 2) ≤ 40) && decide (nn 3 + cnt (fun i => onB kn vv (vv 9 i) x) (nn 3) ≤ 60)) (nn 4)) = 0 then (pfV (wcF kn (nn 3) x y (nn 2) (vv, nn 2, nn 3)).1 (nn 4) 2 y (nI (cnt (fun i => onB kn vv (nI i) x) (nn 2))) (nI (cnt (fun i => onB kn vv (vv 9 i) x) (nn 3)))) else vv) nn' (maK (kAct (rcB mk x y) (decide (mn 2 + cwN mk mv mn x y (mn 2) ≤ 40) && decide (mn 3 + coN mk mv mn x y (mn 2) ≤ 60)) (mn 4)) mk mv mn 9 x y 0 0 0 0) (maV (kAct (rcB mk x y) (decide (mn 2 + cwN mk mv mn x y (mn 2) ≤ 40) && decide (mn 3 + coN mk mv mn x y (mn 2) ≤ 60)) (mn 4)) mv mn 9 x y 0 0 0 0) mn' := by
  obtain ⟨b0, b1, b2, b3⟩ := h.b
  have n2 := h.n (show 2 < 4 by decide)
  have n3 := h.n (show 3 < 4 by decide)
  have hiM := h.iM
  have hiT := h.iT
  have f1 : cnt (fun i => onB kn vv (nI i) x) (nn 2) = cnt (thS mv x) (mn 2) := by
    rw [n2]; exact cnt_congr (fun i hi => h.on hi x)
  have f2 : cnt (fun i => onB kn vv (vv 9 i) x) (nn 3) = suN (thS mv x) (fun w => cnt (fun k => decide (mv 9 k = nI w)) (mn 3)) (mn 2) := by
    rw [dc_inv hiM, n3]
    refine cnt_congr (fun i hi => ?_)
    obtain ⟨⟨w, hw, ew⟩, _⟩ := hiM.2.2.2.2 i hi
    have hw' : w < mn 2 := hw
    have ew' : mv 9 i = nI w := ew
    rw [h.r3 (by decide) (by decide) hi, ew', nI_clamp (by omega)]
    exact h.on hw' x
  obtain ⟨f3, _, f4⟩ := cp_inv (x := x) (y := y) (v := mv) (a := mn 2) (b := mn 3) b2 (mn 2) (Nat.le_refl _)
  have hS : AS (SC mn (mn 2) (mn 3)) mv (trV vv) := h.et.2.mono (fun j r hs => (SC_self mn j r).mp hs)
  have f5 := (cpF_congr (x := x) (y := y) hS (mn 2) (Nat.le_refl _)).1
  have f6 : ∀ i, i ≤ mn 2 → (wcF kn (nn 3) x y i (vv, nn 2, nn 3)).2 = (cpF x y i (trV vv, mn 2, mn 3)).2 ∧ trV (wcF kn (nn 3) x y i (vv, nn 2, nn 3)).1 = (cpF x y i (trV vv, mn 2, mn 3)).1 := by
    rw [n2, n3]
    exact wc_cp b2 ((h.k (show 2 < 4 by decide)).trans (h.m (show 2 < 4 by decide))) (fun w hw => (hiT.2.1 w hw).2.2.2.2.2.2.2)
  have hk : (kAct (haB (kn 0) x && haB (kn 0) y && !decide (x = y)) (decide (nn 2 + cnt (fun i => onB kn vv (nI i) x) (nn 2) ≤ 40) && decide (nn 3 + cnt (fun i => onB kn vv (vv 9 i) x) (nn 3) ≤ 60)) (nn 4)) = (kAct (rcB mk x y) (decide (mn 2 + cwN mk mv mn x y (mn 2) ≤ 40) && decide (mn 3 + coN mk mv mn x y (mn 2) ≤ 60)) (mn 4)) := by
    rw [f1, f2, n2, n3, h.n4, h.k (show 0 < 4 by decide)]
    show kAct (rcB mk x y) _ _ = _
    cases hx : rcB mk x y with
    | false => exact kAct_f _ _ _
    | true =>
      have g1 : cwN mk mv mn x y (mn 2) = cnt (thS mv x) (mn 2) := by
        unfold cwN
        exact cnt_congr (fun i _ => by rw [hx, Bool.true_and])
      have g2 : coN mk mv mn x y (mn 2) = suN (thS mv x) (fun w => cnt (fun k => decide (mv 9 k = nI w)) (mn 3)) (mn 2) := by
        unfold coN
        exact suN_congr _ (fun i _ => by rw [hx, Bool.true_and]) (fun i _ => rfl)
      rw [g1, g2]
  have hO : (kAct (rcB mk x y) (decide (mn 2 + cwN mk mv mn x y (mn 2) ≤ 40) && decide (mn 3 + coN mk mv mn x y (mn 2) ≤ 60)) (mn 4)) = 0 → actO mn mv vv (wcF kn (nn 3) x y (nn 2) (vv, nn 2, nn 3)).1 9 x y 0 0 0 0 2 y (nI (cnt (fun i => onB kn vv (nI i) x) (nn 2))) (nI (cnt (fun i => onB kn vv (vv 9 i) x) (nn 3))) := by
    intro h0
    have h0' := h0
    rw [← hk] at h0'
    obtain ⟨a1, _, a3⟩ := kAct_0 h0
    obtain ⟨_, a2, _⟩ := kAct_0 h0'
    obtain ⟨l0, l1, l2, l3, l4, l5, l6⟩ := lgV_at mv (mn 4) 9 x y 0 0 0 0
    simp only [Bool.and_eq_true, decide_eq_true_eq] at a2
    rw [f1, f2, n2, n3] at a2
    simp only [rcB, Bool.and_eq_true] at a1
    obtain ⟨t, et, ht⟩ := h.ha (show 0 < 4 by decide) a1.1.1
    obtain ⟨s, es, hs⟩ := h.ha (show 0 < 4 by decide) a1.1.2
    obtain ⟨q1, q2⟩ := f6 (mn 2) (Nat.le_refl _)
    rw [← n2] at q2
    have hst : stD (lgV mv (mn 4) 9 x y 0 0 0 0 12) (mn 4) (mn, trV vv) = (va_up (va_up mn 2 (cpF x y (mn 2) (trV vv, mn 2, mn 3)).2.1) 3 (cpF x y (mn 2) (trV vv, mn 2, mn 3)).2.2, (cpF x y (mn 2) (trV vv, mn 2, mn 3)).1) := by rw [stD_9 l0, l1, l2]
    refine ⟨a3, Or.inr (Or.inr (Or.inr (Or.inr (Or.inr (Or.inr (Or.inr (Or.inr (Or.inr ⟨l0, ⟨t, l1.trans et, ht⟩, ⟨s, l2.trans es, hs⟩, ?_, ?_⟩)))))))), fun j r hj hr => ?_, fun j r hj => ?_, Or.inr (Or.inr (Or.inl ⟨Or.inr (Or.inr rfl), rfl, ?_, ?_⟩)), fun j r hj h1 h2 => ?_⟩
    · rw [l1, l2]
      show (cpF x y (mn 2) (mv, mn 2, mn 3)).2.1 ≤ 40
      rw [f3]; exact a2.1
    · rw [l1, l2]
      show (cpF x y (mn 2) (mv, mn 2, mn 3)).2.2 ≤ 60
      rw [f4]; exact a2.2
    · apply trV_inj
      rw [q2, n2]
      refine cpF_old _ j r (fun hb => ?_) (fun hb => ?_)
      · rw [ow_2.mpr ⟨hb.1, hb.2.1⟩] at hr; omega
      · rw [ow_3.mpr hb.1] at hr; omega
    · apply trV_inj
      rw [q2, n2, cpF_hi hj]
    · rw [hst, f1]
      show _ = nI ((cpF x y (mn 2) (trV vv, mn 2, mn 3)).2.1 - mn 2)
      rw [← f5, f3, Nat.add_sub_cancel_left]
    · rw [hst, f2]
      show _ = nI ((cpF x y (mn 2) (trV vv, mn 2, mn 3)).2.2 - mn 3)
      rw [← f5, f4, Nat.add_sub_cancel_left]
    · rw [hst, q2, n2]
  refine ⟨hk, (act_core h hk hO).1, fun h40 h60 => ?_, fun h0 => ?_, (act_core h hk hO).2⟩
  · rw [f1, n2] at h40
    rw [f2, n3] at h60
    constructor
    · intro i hi ho
      rw [n2] at hi
      have hw : wcF kn (nn 3) x y (i + 1) (vv, nn 2, nn 3) = wcS (nn 3) y i (wcF kn (nn 3) x y i (vv, nn 2, nn 3)) := by rw [wcF, if_pos ho]
      have g1 := (f6 (i + 1) hi).1
      rw [hw] at g1
      have g2 : (wcF kn (nn 3) x y i (vv, nn 2, nn 3)).2.1 + 1 = (cpF x y (i + 1) (trV vv, mn 2, mn 3)).2.1 := congrArg (fun p => p.1) g1
      have g3 := (cpF_to x y (trV vv, mn 2, mn 3) (show i + 1 ≤ mn 2 from hi)).1
      rw [← f5, f3] at g3
      omega
    · intro i hi
      rw [n2] at hi
      have g3 := (cpF_to x y (trV vv, mn 2, mn 3) (show i + 1 ≤ mn 2 from hi)).2
      rw [← f5, f4] at g3
      rw [(f6 (i + 1) hi).1]
      omega
  · rw [hk] at h0
    rw [h0, f1]
    obtain ⟨l0, l1, l2, _⟩ := lgV_at mv (mn 4) 9 x y 0 0 0 0
    have hS2 : AS (SC mn (mn 2) (mn 3)) mv (lgV mv (mn 4) 9 x y 0 0 0 0) := fun j r hs => by
      have hj : j < 12 := hs.1
      rw [lgV_row _ (by omega)]
    have f7 := (cpF_congr (x := x) (y := y) hS2 (mn 2) (Nat.le_refl _)).1
    have e : maR 0 mv mn 9 x y 0 0 0 0 = nI ((cpF x y (mn 2) (lgV mv (mn 4) 9 x y 0 0 0 0, mn 2, mn 3)).2.1 - mn 2) := by
      simp [maR, acR, stR, l0, l1, l2]
    rw [e, ← f7, f3, Nat.add_sub_cancel_left]
theorem sim_acts (h : Rel kn vv nn mk mv mn) (x : Int32) : (kTell (swB x 1)) = (kTell (decide (x = 0) || decide (x = 1))) ∧ ((kTell (swB x 1)) = 0 → ((if x = 0 then kn 4 else kn 5 - kn 4)).toInt64 = ((if kTell (decide (x = 0) || decide (x = 1)) = 0 then (if x = 0 then mk 4 else mk 5) else 0)).toInt64) ∧ ∃ nn' mn' : Nat → Nat, Rel (if (kTell (swB x 1)) = 0 then kn else kn) (if (kTell (swB x 1)) = 0 then vv else vv) nn' (va_up mk 6 (nI (kTell (decide (x = 0) || decide (x = 1))))) mv mn' := by
  have hk : (kTell (swB x 1)) = (kTell (decide (x = 0) || decide (x = 1))) := by rw [swB_1]
  refine ⟨hk, fun h0 => ?_, h.tl _ _ _⟩
  rw [hk] at h0
  rw [if_pos h0]
  have k4 : kn 4 = mk 4 := by rw [h.1.1 4 (by decide), h.2.1.1 4 (by decide), h.n4]
  have k5 : kn 5 - kn 4 = mk 5 := by
    rw [h.1.1 5 (by decide), h.1.1 4 (by decide), h.2.1.1 5 (by decide), h.n4, h.2.2.2.2.1, Nat.add_comm, ← nI_add, Int32.add_sub_cancel]
  rw [k5, k4]
theorem sim_many (h : Rel kn vv nn mk mv mn) (x : Int32) : (kTell (swB x 3)) = (kTell (inB x.toInt64 0 3)) ∧ ((kTell (swB x 3)) = 0 → ((if x = 0 then kn 0 else if x = 1 then kn 1 else if x = 2 then kn 2 else kn 3)).toInt64 = ((if (inB x.toInt64 0 3) = true then (if x = 0 then mk 0 else if x = 1 then mk 1 else if x = 2 then mk 2 else mk 3) else 0)).toInt64) ∧ ∃ nn' mn' : Nat → Nat, Rel (if (kTell (swB x 3)) = 0 then kn else kn) (if (kTell (swB x 3)) = 0 then vv else vv) nn' (va_up mk 6 (nI (kTell (inB x.toInt64 0 3)))) mv mn' := by
  have hi : inB x.toInt64 0 3 = swB x 3 := inB_sw x rfl
  have hk : (kTell (swB x 3)) = (kTell (inB x.toInt64 0 3)) := by rw [hi]
  refine ⟨hk, fun h0 => ?_, h.tl _ _ _⟩
  rw [hk] at h0
  rw [if_pos (kTell_0 h0), h.k (show 0 < 4 by decide), h.k (show 1 < 4 by decide), h.k (show 2 < 4 by decide), h.k (show 3 < 4 by decide)]
theorem sim_wallAt (h : Rel kn vv nn mk mv mn) (x y : Int32) : (kTell (tW kn vv x && swB y 9)) = (kTell (mW mk mv x && inB y.toInt64 0 9)) ∧ ((kTell (tW kn vv x && swB y 9)) = 0 → (waR kn vv nn x.toNatClampNeg y) = (if (mW mk mv x && inB y.toInt64 0 9) = true then waM mk mv mn x.toNatClampNeg y else 0)) ∧ ∃ nn' mn' : Nat → Nat, Rel (if (kTell (tW kn vv x && swB y 9)) = 0 then kn else kn) (if (kTell (tW kn vv x && swB y 9)) = 0 then vv else vv) nn' (va_up mk 6 (nI (kTell (mW mk mv x && inB y.toInt64 0 9)))) mv mn' := by
  have hi : inB y.toInt64 0 9 = swB y 9 := inB_sw y rfl
  have hk : (kTell (tW kn vv x && swB y 9)) = (kTell (mW mk mv x && inB y.toInt64 0 9)) := by rw [hi, h.tw]
  refine ⟨hk, fun h0 => ?_, h.tl _ _ _⟩
  rw [hk] at h0
  have h1 := kTell_0 h0
  rw [if_pos h1]
  simp only [Bool.and_eq_true] at h1
  obtain ⟨t, et, ht, ec, _⟩ := h.mw h1.1
  rw [ec]
  exact h.wa ht y
theorem sim_openingAt (h : Rel kn vv nn mk mv mn) (x y : Int32) : (kTell (haB (kn 3) x && tW kn vv (vv 9 x.toNatClampNeg) && swB y 2)) = (kTell (roR mk mv x y)) ∧ ((kTell (haB (kn 3) x && tW kn vv (vv 9 x.toNatClampNeg) && swB y 2)) = 0 → ((opR vv x.toNatClampNeg y)).toInt64 = ((if (roR mk mv x y) = true then opR mv x.toNatClampNeg y else 0)).toInt64) ∧ ∃ nn' mn' : Nat → Nat, Rel (if (kTell (haB (kn 3) x && tW kn vv (vv 9 x.toNatClampNeg) && swB y 2)) = 0 then kn else kn) (if (kTell (haB (kn 3) x && tW kn vv (vv 9 x.toNatClampNeg) && swB y 2)) = 0 then vv else vv) nn' (va_up mk 6 (nI (kTell (roR mk mv x y)))) mv mn' := by
  obtain ⟨b0, b1, b2, b3⟩ := h.b
  have hi : inB y.toInt64 0 2 = swB y 2 := inB_sw y rfl
  have hr : (haB (kn 3) x && tW kn vv (vv 9 x.toNatClampNeg) && swB y 2) = roR mk mv x y := by
    unfold roR
    rw [h.k (show 3 < 4 by decide), hi]
    cases hx : haB (mk 3) x with
    | false => simp only [Bool.false_and]
    | true =>
      obtain ⟨o, eo, ho⟩ := h.ha (show 3 < 4 by decide) hx
      obtain ⟨⟨w, hw, ew⟩, _⟩ := h.iM.2.2.2.2 o ho
      have hw' : w < mn 2 := hw
      have ec : x.toNatClampNeg = o := by rw [eo]; exact nI_clamp (by omega)
      have g1 : ¬ nI w < 0 := nI_pos (by omega)
      have g2 : ¬ nI (mn 2) ≤ nI w := nI_ge hw' (by omega)
      rw [ec, h.tw, h.r3 (by decide) (by decide) ho, show mv 9 o = nI w from ew]
      unfold mW
      rw [h.m (show 2 < 4 by decide), nI_clamp (by omega)]
      simp only [g1, g2, decide_false, Bool.not_false, Bool.true_and]
      exact Bool.and_comm _ _
  have hk : (kTell (haB (kn 3) x && tW kn vv (vv 9 x.toNatClampNeg) && swB y 2)) = (kTell (roR mk mv x y)) := by rw [hr]
  refine ⟨hk, fun h0 => ?_, h.tl _ _ _⟩
  rw [hk] at h0
  have h1 := kTell_0 h0
  rw [if_pos h1]
  simp only [roR, Bool.and_eq_true] at h1
  obtain ⟨o, eo, ho⟩ := h.ha (show 3 < 4 by decide) h1.1.1
  have ec : x.toNatClampNeg = o := by rw [eo]; exact nI_clamp (by omega)
  rw [ec]
  unfold opR
  rw [h.r3 (by decide) (by decide) ho, h.r3 (j := 10) (by decide) (by decide) ho, h.r3 (j := 11) (by decide) (by decide) ho]
theorem sim_storeyAt (h : Rel kn vv nn mk mv mn) (x y : Int32) : (kTell (haB (kn 0) x && swB y 3)) = (kTell (haB (mk 0) x && inB y.toInt64 0 3)) ∧ ((kTell (haB (kn 0) x && swB y 3)) = 0 → (srR kn vv nn x y) = (if (haB (mk 0) x && inB y.toInt64 0 3) = true then saM mk mv mn x y else 0)) ∧ ∃ nn' mn' : Nat → Nat, Rel (if (kTell (haB (kn 0) x && swB y 3)) = 0 then kn else kn) (if (kTell (haB (kn 0) x && swB y 3)) = 0 then vv else vv) nn' (va_up mk 6 (nI (kTell (haB (mk 0) x && inB y.toInt64 0 3)))) mv mn' := by
  have hi : inB y.toInt64 0 3 = swB y 3 := inB_sw y rfl
  have hk : (kTell (haB (kn 0) x && swB y 3)) = (kTell (haB (mk 0) x && inB y.toInt64 0 3)) := by rw [hi, h.k (show 0 < 4 by decide)]
  refine ⟨hk, fun h0 => ?_, h.tl _ _ _⟩
  rw [hk] at h0
  have h1 := kTell_0 h0
  rw [if_pos h1]
  simp only [Bool.and_eq_true] at h1
  obtain ⟨t, rfl, ht⟩ := h.ha (show 0 < 4 by decide) h1.1
  exact h.sr ht y
theorem sim_typeAt (h : Rel kn vv nn mk mv mn) (x y : Int32) : (kTell (haB (kn 1) x && swB y 2)) = (kTell (haB (mk 1) x && inB y.toInt64 0 2)) ∧ ((kTell (haB (kn 1) x && swB y 2)) = 0 → (tyR kn vv nn x y) = (if (haB (mk 1) x && inB y.toInt64 0 2) = true then taM mv mn x y else 0)) ∧ ∃ nn' mn' : Nat → Nat, Rel (if (kTell (haB (kn 1) x && swB y 2)) = 0 then kn else kn) (if (kTell (haB (kn 1) x && swB y 2)) = 0 then vv else vv) nn' (va_up mk 6 (nI (kTell (haB (mk 1) x && inB y.toInt64 0 2)))) mv mn' := by
  have hi : inB y.toInt64 0 2 = swB y 2 := inB_sw y rfl
  have hk : (kTell (haB (kn 1) x && swB y 2)) = (kTell (haB (mk 1) x && inB y.toInt64 0 2)) := by rw [hi, h.k (show 1 < 4 by decide)]
  refine ⟨hk, fun h0 => ?_, h.tl _ _ _⟩
  rw [hk] at h0
  have h1 := kTell_0 h0
  rw [if_pos h1]
  simp only [Bool.and_eq_true] at h1
  obtain ⟨t, rfl, ht⟩ := h.ha (show 1 < 4 by decide) h1.1
  exact h.ty ht y
theorem sim_body (h : Rel kn vv nn mk mv mn) (x1 x2 x3 x4 : Int32) : (kTell (haB (kn 0) x1 && plB x2.toInt64 x3.toInt64 && !decide (x4 < 0))) = (kTell (haB (mk 0) x1 && ipB x2.toInt64 x3.toInt64 && !decide (x4 < 0))) ∧ ((kTell (haB (kn 0) x1 && plB x2.toInt64 x3.toInt64 && !decide (x4 < 0))) = 0 → ((oI (kth (bdB kn vv x1 x2 x3) x4.toNatClampNeg (nn 2)))).toInt64 = ((if (haB (mk 0) x1 && ipB x2.toInt64 x3.toInt64 && !decide (x4 < 0)) = true then oI (kth (bdM mv x1 x2 x3) x4.toNatClampNeg (mn 2)) else 0)).toInt64) ∧ ∃ nn' mn' : Nat → Nat, Rel (if (kTell (haB (kn 0) x1 && plB x2.toInt64 x3.toInt64 && !decide (x4 < 0))) = 0 then kn else kn) (if (kTell (haB (kn 0) x1 && plB x2.toInt64 x3.toInt64 && !decide (x4 < 0))) = 0 then vv else vv) nn' (va_up mk 6 (nI (kTell (haB (mk 0) x1 && ipB x2.toInt64 x3.toInt64 && !decide (x4 < 0))))) mv mn' := by
  have hk : (kTell (haB (kn 0) x1 && plB x2.toInt64 x3.toInt64 && !decide (x4 < 0))) = (kTell (haB (mk 0) x1 && ipB x2.toInt64 x3.toInt64 && !decide (x4 < 0))) := by rw [plB_eq, h.k (show 0 < 4 by decide)]
  refine ⟨hk, fun h0 => ?_, h.tl _ _ _⟩
  rw [hk] at h0
  rw [if_pos (kTell_0 h0), h.kt]
end
