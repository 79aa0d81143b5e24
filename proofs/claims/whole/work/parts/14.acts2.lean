section
variable {l : Launch} {dC : Nat → ClassId} {dI : Nat → Nat → Nat} {H : Heap} {aa : Nat → Nat} {cI cZ cJ : ClassId} {kn : Nat → Int32} {vv : Nat → Nat → Int32} {nn : Nat → Nat} {AX : Nat → Prop}
set_option maxRecDepth 100000 in
set_option maxHeartbeats 4000000 in
theorem c_C_opening (hlt : l.stackTraces = false) (hP : va_P (dC, dI) classes (wC aa cI cZ kn vv) H) (hdD : dD noT aa 22) (hI : okC kn nn) (x y z : Int32) : vx_Met l y_C_opening (wB y_C_opening b_C_opening 5 (some .int)) ({ frames := 7, cells := 1, slots := 6, locals := 111 } : Room) (rP [.ref (aa 0), .int x, .int y, .int z] H (kT dC dI cI cZ cJ (aN aa 22))) (qT (kAct (tW kn vv x && !decide (y < 0) && !decide (z < 1) && decide (lg_cmp (y.toInt64 + z.toInt64) (leC vv x.toNatClampNeg).toInt64 ≤ 0)) (!(fstN (ovB vv x y z) (nn 3)).isSome && decide (nn 3 < 60)) (nn 4)) (some (.int (nI (nn 3)))) (aN aa 22) (fun H1 => va_P (dC, dI) classes (wC aa cI cZ (pfK kn (owV vv (nn 3) x y z) (nn 4) 2 x 0 1) (pfV (owV vv (nn 3) x y z) (nn 4) 2 x 0 1)) H1)) (xT (kAct (tW kn vv x && !decide (y < 0) && !decide (z < 1) && decide (lg_cmp (y.toInt64 + z.toInt64) (leC vv x.toNatClampNeg).toInt64 ≤ 0)) (!(fstN (ovB vv x y z) (nn 3)).isSome && decide (nn 3 < 60)) (nn 4))) 1 6 (aN aa 22) := by
  refine vx_ofW (cc := b_C_opening) (maxL := 5) (ret := (some .int)) (by decide) rfl ?_
  intro p e s m args below meth c s₁ B hml hexc hv
  obtain ⟨rfl, rfl, hK, hT⟩ := hv
  have hx := B.exec
  have hb := B.bytes
  have hr := B.returns
  have hts0 := atoms_spec (ws := (wB y_C_opening b_C_opening 5 (some .int))) B.pre
  have hts : ∀ w9 ∈ BG, w9.before [.ref (aa 0), .int x, .int y, .int z].toArray s = true := fun w9 hw9 => hts0 w9 (List.mem_cons_of_mem _ hw9)
  have hown : s.vm.findClass R_C = some m.cls := findClass_of_methodNamed B.named
  have hlocks := B.notSynchronized
  have hK : va_K (dC, dI) classes [(cI, .int), (cZ, .boolean), (cJ, .long)] s := hK
  have hD : va_D (aN aa 22) (wC aa cI cZ kn vv) := wC_D (dD_aN hdD)
  have hS : va_S (aN aa 22) s.heap s.heap [] := va_S.rf
  have hl := lv_entry ([.ref (aa 0), .int x, .int y, .int z]) (n := 5) (Nat.le_of_ble_eq_true rfl)
  rw [lg_entry_eq]
  generalize (lg_sl ([.ref (aa 0), .int x, .int y, .int z]) ++ List.replicate (5 - (lg_sl ([.ref (aa 0), .int x, .int y, .int z])).length) Slot.unset).toArray = ls at hl ⊢
  have hl : lv_has ls 5 [(0, .ref (aa 0)), (1, .int x), (2, .int y), (3, .int z)] := hl
  obtain ⟨eK, b0, b1, b2, b3, b4, b5⟩ := id hI
  refine lv_aload_n hx hb d_C_opening_0 rfl (lv_at hl 0 rfl) ?_
  refine lv_iload_n hx hb d_C_opening_1 rfl (lv_at hl 1 rfl) ?_
  by_cases h_2 : tW kn vv x = true
  · refine cV (W.runV (As := [.int x]) (rest := []) ⟨hx, hb, hml, hown, hts⟩ (c_C_checkWall_ok hP hI  x h_2) (cwV 1 hts (wB_goodV (fun _ h => h) ml_C_102 im_C_checkWall se_C_checkWall ini_C co_C_checkWall) rfl rfl rfl (by decide +kernel) ⟨Nat.le_of_ble_eq_true rfl, Nat.le_of_ble_eq_true rfl⟩) (pV hK hP (ci := 0) (q0 := 0) rfl rfl _) rfl rfl hl.1 rfl (lv_room (Nat.le_of_ble_eq_true rfl)) d_C_opening_2 ⟨Nat.le_of_ble_eq_true rfl, Nat.le_of_ble_eq_true rfl⟩) ?_
    obtain ⟨j, hj, ej⟩ := (tW_n hI h_2)
    rw [ej] at hl
    have ec : x.toNatClampNeg = j := by rw [ej]; exact nI_clamp (by omega)
    refine lv_iload_n hx hb d_C_opening_5 rfl (lv_at hl 2 rfl) ?_
    refine lv_if_lt (tgt := 32) hx hb d_C_opening_6 (by decide) (fun c_6 => ?_) (fun c_6 => ?_)
    · have ek : (kAct (tW kn vv x && !decide (y < 0) && !decide (z < 1) && decide (lg_cmp (y.toInt64 + z.toInt64) (leC vv x.toNatClampNeg).toInt64 ≤ 0)) (!(fstN (ovB vv x y z) (nn 3)).isSome && decide (nn 3 < 60)) (nn 4)) = 1 := by simp only [kAct, ec, h_2, decide_eq_true c_6, Bool.not_true, Bool.not_false, Bool.and_true, Bool.true_and, Bool.false_and, Bool.and_false, Bool.or_true, Bool.true_or, Bool.or_false, Bool.false_or, if_true, if_false, Bool.false_eq_true, Bool.true_eq_false]
      exact thIA hx hb hlt hown hts hT hS (hl.1.trans hml.symm) (is := 121) (List.mem_of_getElem? (i := 12) rfl) d_C_opening_32 d_C_opening_35 d_C_opening_36 d_C_opening_38 d_C_opening_41 hexc (Nat.le_of_ble_eq_true rfl) (Nat.le_of_ble_eq_true rfl) (Nat.le_of_ble_eq_true rfl) (Nat.le_of_ble_eq_true rfl) hlocks (fun t hal hz hkp => ⟨Or.inl ⟨ek, rfl⟩, hz, fun q hq _ => hkp q hq⟩) (fun z hz => by cases hz) (Nat.le_of_ble_eq_true rfl) (Nat.le_of_ble_eq_true rfl)
    · refine lv_iload_n hx hb d_C_opening_9 rfl (lv_at hl 3 rfl) ?_
      refine lv_iconst (v := 1) hx hb d_C_opening_10 (by decide) ?_
      refine lv_icmp_lt (tgt := 32) hx hb d_C_opening_11 (by decide) (fun c_11 => ?_) (fun c_11 => ?_)
      · have ek : (kAct (tW kn vv x && !decide (y < 0) && !decide (z < 1) && decide (lg_cmp (y.toInt64 + z.toInt64) (leC vv x.toNatClampNeg).toInt64 ≤ 0)) (!(fstN (ovB vv x y z) (nn 3)).isSome && decide (nn 3 < 60)) (nn 4)) = 1 := by simp only [kAct, ec, h_2, decide_eq_false c_6, decide_eq_true c_11, Bool.not_true, Bool.not_false, Bool.and_true, Bool.true_and, Bool.false_and, Bool.and_false, Bool.or_true, Bool.true_or, Bool.or_false, Bool.false_or, if_true, if_false, Bool.false_eq_true, Bool.true_eq_false]
        exact thIA hx hb hlt hown hts hT hS (hl.1.trans hml.symm) (is := 121) (List.mem_of_getElem? (i := 12) rfl) d_C_opening_32 d_C_opening_35 d_C_opening_36 d_C_opening_38 d_C_opening_41 hexc (Nat.le_of_ble_eq_true rfl) (Nat.le_of_ble_eq_true rfl) (Nat.le_of_ble_eq_true rfl) (Nat.le_of_ble_eq_true rfl) hlocks (fun t hal hz hkp => ⟨Or.inl ⟨ek, rfl⟩, hz, fun q hq _ => hkp q hq⟩) (fun z hz => by cases hz) (Nat.le_of_ble_eq_true rfl) (Nat.le_of_ble_eq_true rfl)
      · refine lv_iload_n hx hb d_C_opening_14 rfl (lv_at hl 2 rfl) ?_
        refine lv_i2l (v := y.toInt64) hx hb d_C_opening_15 rfl ?_
        refine lv_iload_n hx hb d_C_opening_16 rfl (lv_at hl 3 rfl) ?_
        refine lv_i2l (v := z.toInt64) hx hb d_C_opening_17 rfl ?_
        refine lv_ladd hx hb d_C_opening_18 ?_
        refine lv_aload_n hx hb d_C_opening_19 rfl (lv_at hl 0 rfl) ?_
        refine va_get (D := (dC, dI)) (ci := 0) (v := .ref (aa 3)) (C := R_C) (T := F_C) (N := 5) hx hb hts i_C hown hK hP 0 rfl rfl 2 (by decide) (hts _ fl_C_26) (fun _ h9 => h9) rfl d_C_opening_20 ?_
        refine lv_iload_n hx hb d_C_opening_23 rfl (lv_at hl 1 rfl) ?_
        refine cR (W.runV (As := [.int (nI j)]) (rest := [.long ((y.toInt64) + (z.toInt64))]) ⟨hx, hb, hml, hown, hts⟩ (c_W_length hP (show j < 40 by omega)) (cwV 1 hts (wB_goodV (fun _ h => h) ml_C_117 im_W_length se_W_length ini_W co_W_length) rfl rfl rfl (by decide +kernel) ⟨Nat.le_of_ble_eq_true rfl, Nat.le_of_ble_eq_true rfl⟩) (pV hK hP (ci := 5) (q0 := 3) rfl rfl _) rfl rfl hl.1 rfl (lv_room (Nat.le_of_ble_eq_true rfl)) d_C_opening_24 ⟨Nat.zero_le _, Nat.zero_le _⟩) ?_
        refine lv_i2l (v := (leC vv j).toInt64) hx hb d_C_opening_27 rfl ?_
        refine W.lcmp hx hb d_C_opening_28 ?_
        refine lv_if_le (tgt := 42) hx hb d_C_opening_29 (by decide) (fun c_29 => ?_) (fun c_29 => ?_)
        · refine lv_aload_n hx hb d_C_opening_42 rfl (lv_at hl 0 rfl) ?_
          refine va_get (D := (dC, dI)) (ci := 0) (v := .ref (aa 4)) (C := R_C) (T := F_C) (N := 5) hx hb hts i_C hown hK hP 0 rfl rfl 3 (by decide) (hts _ fl_C_33) (fun _ h9 => h9) rfl d_C_opening_43 ?_
          refine va_get (D := (dC, dI)) (ci := 2) (v := .int (nI (nn 3))) (C := R_O) (T := F_O) (N := 4) hx hb hts i_O hown hK hP 4 rfl rfl 3 (by decide) (hts _ fl_C_123) (fun _ h9 => h9) (by rw [← (eK 3 (by decide))]; rfl) d_C_opening_46 ?_
          refine lv_istore (lv' := [(4, .int (nI (nn 3))), (0, .ref (aa 0)), (1, .int (nI j)), (2, .int y), (3, .int z)]) hx hb d_C_opening_49 hl (by decide) rfl (fun ls hl => ?_)
          refine lv_aload_n hx hb d_C_opening_51 rfl (lv_at hl 1 rfl) ?_
          refine va_get (D := (dC, dI)) (ci := 0) (v := .ref (aa 4)) (C := R_C) (T := F_C) (N := 5) hx hb hts i_C hown hK hP 0 rfl rfl 3 (by decide) (hts _ fl_C_33) (fun _ h9 => h9) rfl d_C_opening_52 ?_
          refine lv_iload_n hx hb d_C_opening_55 rfl (lv_at hl 2 rfl) ?_
          refine lv_iload_n hx hb d_C_opening_56 rfl (lv_at hl 3 rfl) ?_
          refine lv_iload_n hx hb d_C_opening_57 rfl (lv_at hl 4 rfl) ?_
          refine cR (W.runV (As := [.int (nI j), .int y, .int z]) (rest := []) ⟨hx, hb, hml, hown, hts⟩ (c_O_overlap hP hI (nI j) y z) (cwV 3 hts (wB_goodV (fun _ h => h) ml_C_124 im_O_overlap se_O_overlap ini_O co_O_overlap) rfl rfl rfl (by decide +kernel) ⟨Nat.le_of_ble_eq_true rfl, Nat.le_of_ble_eq_true rfl⟩) (pV hK hP (ci := 2) (q0 := 4) rfl rfl _) rfl rfl hl.1 rfl (lv_room (Nat.le_of_ble_eq_true rfl)) d_C_opening_58 ⟨Nat.zero_le _, Nat.zero_le _⟩) ?_
          refine lv_if_eq (tgt := 74) hx hb d_C_opening_61 (by decide) (fun c_61 => ?_) (fun c_61 => ?_)
          · have o61 : (fstN (ovB vv x y z) (nn 3)).isSome = false := by rw [ej]; exact bI_0.mp c_61
            refine lv_iload hx hb d_C_opening_74 (lv_at hl 0 rfl) ?_
            refine lv_bipush (v := 60) hx hb d_C_opening_76 (by decide) ?_
            refine lv_icmp_lt (tgt := 91) hx hb d_C_opening_78 (by decide) (fun c_78 => ?_) (fun c_78 => ?_)
            · have hs17 : nn 3 < 60 := (nI_ltI (by omega) (by decide)).mp c_78
              refine lv_aload_n hx hb d_C_opening_91 rfl (lv_at hl 1 rfl) ?_
              by_cases h_92 : decide ((nn 4) < 200) = true
              · refine cV (W.runV (As := []) (rest := []) ⟨hx, hb, hml, hown, hts⟩ (c_C_checkRoomForAct_ok hP (eK 4 (by decide)) (show nn 4 < 2 ^ 31 by omega)  h_92) (cwV 0 hts (wB_goodV (fun _ h => h) ml_C_59 im_C_checkRoomForAct se_C_checkRoomForAct ini_C co_C_checkRoomForAct) rfl rfl rfl (by decide +kernel) ⟨Nat.le_of_ble_eq_true rfl, Nat.le_of_ble_eq_true rfl⟩) (pV hK hP (ci := 0) (q0 := 0) rfl rfl _) rfl rfl hl.1 rfl (lv_room (Nat.le_of_ble_eq_true rfl)) d_C_opening_92 ⟨Nat.le_of_ble_eq_true rfl, Nat.le_of_ble_eq_true rfl⟩) ?_
                have hd4 : nn 4 < 200 := by simpa using h_92
                have hroom : ¬ 200 ≤ nn 4 := by omega
                refine lv_aload_n hx hb d_C_opening_95 rfl (lv_at hl 1 rfl) ?_
                refine va_get (D := (dC, dI)) (ci := 0) (v := .ref (aa 4)) (C := R_C) (T := F_C) (N := 5) hx hb hts i_C hown hK hP 0 rfl rfl 3 (by decide) (hts _ fl_C_33) (fun _ h9 => h9) rfl d_C_opening_96 ?_
                refine lv_iload hx hb d_C_opening_99 (lv_at hl 0 rfl) ?_
                refine lv_iload_n hx hb d_C_opening_101 rfl (lv_at hl 2 rfl) ?_
                refine lv_iload_n hx hb d_C_opening_102 rfl (lv_at hl 3 rfl) ?_
                refine lv_iload_n hx hb d_C_opening_103 rfl (lv_at hl 4 rfl) ?_
                refine cW (W.runV (As := [.int (nI (nn 3)), .int (nI j), .int y, .int z]) (rest := []) ⟨hx, hb, hml, hown, hts⟩ (c_O_write hP hdD hs17 _ _ _) (cwV 4 hts (wB_goodV (fun _ h => h) ml_C_132 im_O_write se_O_write ini_O co_O_write) rfl rfl rfl (by decide +kernel) ⟨Nat.le_of_ble_eq_true rfl, Nat.le_of_ble_eq_true rfl⟩) (pV hK hP (ci := 2) (q0 := 4) rfl rfl _) rfl rfl hl.1 rfl (lv_room (Nat.le_of_ble_eq_true rfl)) d_C_opening_104 ⟨Nat.zero_le _, Nat.zero_le _⟩) hS (fun _ h => h) (fun H locs hP hS _ _ => ?_)
                have hP : va_P (dC, dI) classes (wC aa cI cZ kn (owV vv (nn 3) (nI j) y z)) H := hP
                have hD : va_D (aN aa 22) (wC aa cI cZ kn (owV vv (nn 3) (nI j) y z)) := wC_D (dD_aN hdD)
                refine lv_aload_n hx hb d_C_opening_107 rfl (lv_at hl 1 rfl) ?_
                refine lv_iconst (v := 2) hx hb d_C_opening_108 (by decide) ?_
                refine lv_iload_n hx hb d_C_opening_109 rfl (lv_at hl 2 rfl) ?_
                refine lv_iconst (v := 0) hx hb d_C_opening_110 (by decide) ?_
                refine lv_iconst (v := 1) hx hb d_C_opening_111 (by decide) ?_
                refine cW (W.runV (As := [.int 2, .int (nI j), .int 0, .int 1]) (rest := []) ⟨hx, hb, hml, hown, hts⟩ (c_C_perform hP hdD (d := nn 4) (eK 4 (by decide)) hd4 _ _ _ _ (okA_0 (Or.inr (Or.inr rfl)))) (cwV 4 hts (wB_goodV (fun _ h => h) ml_C_66 im_C_perform se_C_perform ini_C co_C_perform) rfl rfl rfl (by decide +kernel) ⟨Nat.le_of_ble_eq_true rfl, Nat.le_of_ble_eq_true rfl⟩) (pV hK hP (ci := 0) (q0 := 0) rfl rfl _) rfl rfl hl.1 rfl (lv_room (Nat.le_of_ble_eq_true rfl)) d_C_opening_112 ⟨Nat.zero_le _, Nat.zero_le _⟩) hS (fun _ h => h) (fun H locs hP hS _ _ => ?_)
                have hP : va_P (dC, dI) classes (wC aa cI cZ (pfK kn (owV vv (nn 3) (nI j) y z) (nn 4) 2 (nI j) 0 1) (pfV (owV vv (nn 3) (nI j) y z) (nn 4) 2 (nI j) 0 1)) H := hP
                have hD : va_D (aN aa 22) (wC aa cI cZ (pfK kn (owV vv (nn 3) (nI j) y z) (nn 4) 2 (nI j) 0 1) (pfV (owV vv (nn 3) (nI j) y z) (nn 4) 2 (nI j) 0 1)) := wC_D (dD_aN hdD)
                refine lv_iload hx hb d_C_opening_115 (lv_at hl 0 rfl) ?_
                have ek : (kAct (tW kn vv x && !decide (y < 0) && !decide (z < 1) && decide (lg_cmp (y.toInt64 + z.toInt64) (leC vv x.toNatClampNeg).toInt64 ≤ 0)) (!(fstN (ovB vv x y z) (nn 3)).isSome && decide (nn 3 < 60)) (nn 4)) = 0 := by rw [kAct, ec, h_2, decide_eq_false c_6, decide_eq_false c_11, decide_eq_true c_29]; simp [o61, hs17, hroom]
                have er : ((some (.int (nI (nn 3)))) : Option Value) = some (.int (nI (nn 3))) := by rfl
                have hPe : va_P (dC, dI) classes (wC aa cI cZ (pfK kn (owV vv (nn 3) x y z) (nn 4) 2 x 0 1) (pfV (owV vv (nn 3) x y z) (nn 4) 2 x 0 1)) H := by rw [ej]; exact hP
                refine vx_ret ?_
                refine W.widen (k := 1) (n := 6) (Nat.zero_le _) (Nat.zero_le _) ?_
                exact W.iret (v := (nI (nn 3))) hx hb hr (fun t ht hW => ⟨ek, by rw [er], by rw [ht]; exact hPe, hS.F ht⟩) hS.2.2 d_C_opening_117
              · have h_92 : decide ((nn 4) < 200) = false := by simpa using h_92
                have ek : (kAct (tW kn vv x && !decide (y < 0) && !decide (z < 1) && decide (lg_cmp (y.toInt64 + z.toInt64) (leC vv x.toNatClampNeg).toInt64 ≤ 0)) (!(fstN (ovB vv x y z) (nn 3)).isSome && decide (nn 3 < 60)) (nn 4)) = 2 := by rw [kAct, ec, h_2, decide_eq_false c_6, decide_eq_false c_11, decide_eq_true c_29]; simp [o61, hs17]; simpa using h_92
                refine cX (vx_runV (As := []) (rest := []) ⟨hx, hb, hml, hown, hts⟩ (c_C_checkRoomForAct_no hlt hP (eK 4 (by decide)) (show nn 4 < 2 ^ 31 by omega)  h_92) (cwV 0 hts (wB_goodV (fun _ h => h) ml_C_59 im_C_checkRoomForAct se_C_checkRoomForAct ini_C co_C_checkRoomForAct) rfl rfl rfl (by decide +kernel) ⟨Nat.le_of_ble_eq_true rfl, Nat.le_of_ble_eq_true rfl⟩) (pVT hK hT hS hP (ci := 0) (q0 := 0) rfl rfl _) rfl rfl hl.1 rfl (lv_room (Nat.le_of_ble_eq_true rfl)) d_C_opening_92 ⟨Nat.le_of_ble_eq_true rfl, Nat.le_of_ble_eq_true rfl⟩) (fun ce q9 H1 locs1 hz hkp hlo hce hcv hcl => ?_)
                exact vx_out (fun x h => (hexc x h).elim) hlocks hce hcv hcl (fun t ht hal => ⟨Or.inr ⟨ek, rfl⟩, by rw [ht]; exact hz, fun q hq _ => by rw [ht]; exact hkp q hq⟩) (fun z hz9 => by cases hlo z hz9) (Nat.le_of_ble_eq_true rfl) (Nat.le_of_ble_eq_true rfl)
            · have hs17 : ¬ nn 3 < 60 := fun h => c_78 ((nI_ltI (by omega) (by decide)).mpr h)
              have ek : (kAct (tW kn vv x && !decide (y < 0) && !decide (z < 1) && decide (lg_cmp (y.toInt64 + z.toInt64) (leC vv x.toNatClampNeg).toInt64 ≤ 0)) (!(fstN (ovB vv x y z) (nn 3)).isSome && decide (nn 3 < 60)) (nn 4)) = 2 := by rw [kAct, ec, h_2, decide_eq_false c_6, decide_eq_false c_11, decide_eq_true c_29]; simp [o61, hs17]
              exact thIS hx hb hlt hown hts hT hS (hl.1.trans hml.symm) (is := 130) (List.mem_of_getElem? (i := 14) rfl) d_C_opening_81 d_C_opening_84 d_C_opening_85 d_C_opening_87 d_C_opening_90 hexc (Nat.le_of_ble_eq_true rfl) (Nat.le_of_ble_eq_true rfl) (Nat.le_of_ble_eq_true rfl) (Nat.le_of_ble_eq_true rfl) hlocks (fun t hal hz hkp => ⟨Or.inr ⟨ek, rfl⟩, hz, fun q hq _ => hkp q hq⟩) (fun z hz => by cases hz) (Nat.le_of_ble_eq_true rfl) (Nat.le_of_ble_eq_true rfl)
          · have o61 : (fstN (ovB vv x y z) (nn 3)).isSome = true := by rw [ej]; exact bI_n0.mp c_61
            have ek : (kAct (tW kn vv x && !decide (y < 0) && !decide (z < 1) && decide (lg_cmp (y.toInt64 + z.toInt64) (leC vv x.toNatClampNeg).toInt64 ≤ 0)) (!(fstN (ovB vv x y z) (nn 3)).isSome && decide (nn 3 < 60)) (nn 4)) = 2 := by rw [kAct, ec, h_2, decide_eq_false c_6, decide_eq_false c_11, decide_eq_true c_29]; simp [o61]
            exact thIS hx hb hlt hown hts hT hS (hl.1.trans hml.symm) (is := 128) (List.mem_of_getElem? (i := 13) rfl) d_C_opening_64 d_C_opening_67 d_C_opening_68 d_C_opening_70 d_C_opening_73 hexc (Nat.le_of_ble_eq_true rfl) (Nat.le_of_ble_eq_true rfl) (Nat.le_of_ble_eq_true rfl) (Nat.le_of_ble_eq_true rfl) hlocks (fun t hal hz hkp => ⟨Or.inr ⟨ek, rfl⟩, hz, fun q hq _ => hkp q hq⟩) (fun z hz => by cases hz) (Nat.le_of_ble_eq_true rfl) (Nat.le_of_ble_eq_true rfl)
        · have ek : (kAct (tW kn vv x && !decide (y < 0) && !decide (z < 1) && decide (lg_cmp (y.toInt64 + z.toInt64) (leC vv x.toNatClampNeg).toInt64 ≤ 0)) (!(fstN (ovB vv x y z) (nn 3)).isSome && decide (nn 3 < 60)) (nn 4)) = 1 := by simp only [kAct, ec, h_2, decide_eq_false c_6, decide_eq_false c_11, decide_eq_false c_29, Bool.not_true, Bool.not_false, Bool.and_true, Bool.true_and, Bool.false_and, Bool.and_false, Bool.or_true, Bool.true_or, Bool.or_false, Bool.false_or, if_true, if_false, Bool.false_eq_true, Bool.true_eq_false]
          exact thIA hx hb hlt hown hts hT hS (hl.1.trans hml.symm) (is := 121) (List.mem_of_getElem? (i := 12) rfl) d_C_opening_32 d_C_opening_35 d_C_opening_36 d_C_opening_38 d_C_opening_41 hexc (Nat.le_of_ble_eq_true rfl) (Nat.le_of_ble_eq_true rfl) (Nat.le_of_ble_eq_true rfl) (Nat.le_of_ble_eq_true rfl) hlocks (fun t hal hz hkp => ⟨Or.inl ⟨ek, rfl⟩, hz, fun q hq _ => hkp q hq⟩) (fun z hz => by cases hz) (Nat.le_of_ble_eq_true rfl) (Nat.le_of_ble_eq_true rfl)
  · have h_2 : tW kn vv x = false := by simpa using h_2
    have ek : (kAct (tW kn vv x && !decide (y < 0) && !decide (z < 1) && decide (lg_cmp (y.toInt64 + z.toInt64) (leC vv x.toNatClampNeg).toInt64 ≤ 0)) (!(fstN (ovB vv x y z) (nn 3)).isSome && decide (nn 3 < 60)) (nn 4)) = 1 := by simp [kAct, h_2]
    refine cX (vx_runV (As := [.int x]) (rest := []) ⟨hx, hb, hml, hown, hts⟩ (c_C_checkWall_no hlt hP hI  x h_2) (cwV 1 hts (wB_goodV (fun _ h => h) ml_C_102 im_C_checkWall se_C_checkWall ini_C co_C_checkWall) rfl rfl rfl (by decide +kernel) ⟨Nat.le_of_ble_eq_true rfl, Nat.le_of_ble_eq_true rfl⟩) (pVT hK hT hS hP (ci := 0) (q0 := 0) rfl rfl _) rfl rfl hl.1 rfl (lv_room (Nat.le_of_ble_eq_true rfl)) d_C_opening_2 ⟨Nat.le_of_ble_eq_true rfl, Nat.le_of_ble_eq_true rfl⟩) (fun ce q9 H1 locs1 hz hkp hlo hce hcv hcl => ?_)
    exact vx_out (fun x h => (hexc x h).elim) hlocks hce hcv hcl (fun t ht hal => ⟨Or.inl ⟨ek, rfl⟩, by rw [ht]; exact hz, fun q hq _ => by rw [ht]; exact hkp q hq⟩) (fun z hz9 => by cases hlo z hz9) (Nat.le_of_ble_eq_true rfl) (Nat.le_of_ble_eq_true rfl)
set_option maxRecDepth 100000 in
set_option maxHeartbeats 4000000 in
theorem c_C_copy (hlt : l.stackTraces = false) (hP : va_P (dC, dI) classes (wC aa cI cZ kn vv) H) (hdD : dD noT aa 22) (hI : okC kn nn) (x y : Int32) (hcp : nn 2 + cnt (fun i => onB kn vv (nI i) x) (nn 2) ≤ 40 → nn 3 + cnt (fun i => onB kn vv (vv 9 i) x) (nn 3) ≤ 60 → (∀ i, i < nn 2 → onB kn (wcF kn (nn 3) x y i (vv, nn 2, nn 3)).1 (nI i) x = true → (wcF kn (nn 3) x y i (vv, nn 2, nn 3)).2.1 < 40) ∧ ∀ i, i < nn 2 → (wcF kn (nn 3) x y (i + 1) (vv, nn 2, nn 3)).2.2 ≤ 60) : vx_Met l y_C_copy (wB y_C_copy b_C_copy 5 (some .int)) ({ frames := 7, cells := 1, slots := 6, locals := 111 } : Room) (rP [.ref (aa 0), .int x, .int y] H (kT dC dI cI cZ cJ (aN aa 22))) (qT (kAct (haB (kn 0) x && haB (kn 0) y && !decide (x = y)) (decide (nn 2 + cnt (fun i => onB kn vv (nI i) x) (nn 2) ≤ 40) && decide (nn 3 + cnt (fun i => onB kn vv (vv 9 i) x) (nn 3) ≤ 60)) (nn 4)) (some (.int (nI (cnt (fun i => onB kn vv (nI i) x) (nn 2))))) (aN aa 22) (fun H1 => va_P (dC, dI) classes (wC aa cI cZ (pfK kn (wcF kn (nn 3) x y (nn 2) (vv, nn 2, nn 3)).1 (nn 4) 2 y (nI (cnt (fun i => onB kn vv (nI i) x) (nn 2))) (nI (cnt (fun i => onB kn vv (vv 9 i) x) (nn 3)))) (pfV (wcF kn (nn 3) x y (nn 2) (vv, nn 2, nn 3)).1 (nn 4) 2 y (nI (cnt (fun i => onB kn vv (nI i) x) (nn 2))) (nI (cnt (fun i => onB kn vv (vv 9 i) x) (nn 3))))) H1)) (xT (kAct (haB (kn 0) x && haB (kn 0) y && !decide (x = y)) (decide (nn 2 + cnt (fun i => onB kn vv (nI i) x) (nn 2) ≤ 40) && decide (nn 3 + cnt (fun i => onB kn vv (vv 9 i) x) (nn 3) ≤ 60)) (nn 4))) 1 6 (aN aa 22) := by
  refine vx_ofW (cc := b_C_copy) (maxL := 5) (ret := (some .int)) (by decide) rfl ?_
  intro p e s m args below meth c s₁ B hml hexc hv
  obtain ⟨rfl, rfl, hK, hT⟩ := hv
  have hx := B.exec
  have hb := B.bytes
  have hr := B.returns
  have hts0 := atoms_spec (ws := (wB y_C_copy b_C_copy 5 (some .int))) B.pre
  have hts : ∀ w9 ∈ BG, w9.before [.ref (aa 0), .int x, .int y].toArray s = true := fun w9 hw9 => hts0 w9 (List.mem_cons_of_mem _ hw9)
  have hown : s.vm.findClass R_C = some m.cls := findClass_of_methodNamed B.named
  have hlocks := B.notSynchronized
  have hK : va_K (dC, dI) classes [(cI, .int), (cZ, .boolean), (cJ, .long)] s := hK
  have hD : va_D (aN aa 22) (wC aa cI cZ kn vv) := wC_D (dD_aN hdD)
  have hS : va_S (aN aa 22) s.heap s.heap [] := va_S.rf
  have hl := lv_entry ([.ref (aa 0), .int x, .int y]) (n := 5) (Nat.le_of_ble_eq_true rfl)
  rw [lg_entry_eq]
  generalize (lg_sl ([.ref (aa 0), .int x, .int y]) ++ List.replicate (5 - (lg_sl ([.ref (aa 0), .int x, .int y])).length) Slot.unset).toArray = ls at hl ⊢
  have hl : lv_has ls 5 [(0, .ref (aa 0)), (1, .int x), (2, .int y)] := hl
  obtain ⟨eK, b0, b1, b2, b3, b4, b5⟩ := id hI
  have q2 : cnt (fun i => onB kn vv (nI i) x) (nn 2) ≤ nn 2 := cnt_le _ _
  have q3 : cnt (fun i => onB kn vv (vv 9 i) x) (nn 3) ≤ nn 3 := cnt_le _ _
  refine lv_aload_n hx hb d_C_copy_0 rfl (lv_at hl 0 rfl) ?_
  refine lv_iload_n hx hb d_C_copy_1 rfl (lv_at hl 1 rfl) ?_
  by_cases h_2 : haB (kn 0) x = true
  · refine cV (W.runV (As := [.int x]) (rest := []) ⟨hx, hb, hml, hown, hts⟩ (c_C_checkStorey_ok hP  x h_2) (cwV 1 hts (wB_goodV (fun _ h => h) ml_C_70 im_C_checkStorey se_C_checkStorey ini_C co_C_checkStorey) rfl rfl rfl (by decide +kernel) ⟨Nat.le_of_ble_eq_true rfl, Nat.le_of_ble_eq_true rfl⟩) (pV hK hP (ci := 0) (q0 := 0) rfl rfl _) rfl rfl hl.1 rfl (lv_room (Nat.le_of_ble_eq_true rfl)) d_C_copy_2 ⟨Nat.le_of_ble_eq_true rfl, Nat.le_of_ble_eq_true rfl⟩) ?_
    refine lv_aload_n hx hb d_C_copy_5 rfl (lv_at hl 0 rfl) ?_
    refine lv_iload_n hx hb d_C_copy_6 rfl (lv_at hl 2 rfl) ?_
    by_cases h_7 : haB (kn 0) y = true
    · refine cV (W.runV (As := [.int y]) (rest := []) ⟨hx, hb, hml, hown, hts⟩ (c_C_checkStorey_ok hP  y h_7) (cwV 1 hts (wB_goodV (fun _ h => h) ml_C_70 im_C_checkStorey se_C_checkStorey ini_C co_C_checkStorey) rfl rfl rfl (by decide +kernel) ⟨Nat.le_of_ble_eq_true rfl, Nat.le_of_ble_eq_true rfl⟩) (pV hK hP (ci := 0) (q0 := 0) rfl rfl _) rfl rfl hl.1 rfl (lv_room (Nat.le_of_ble_eq_true rfl)) d_C_copy_7 ⟨Nat.le_of_ble_eq_true rfl, Nat.le_of_ble_eq_true rfl⟩) ?_
      refine lv_iload_n hx hb d_C_copy_10 rfl (lv_at hl 1 rfl) ?_
      refine lv_iload_n hx hb d_C_copy_11 rfl (lv_at hl 2 rfl) ?_
      refine lv_icmp_ne (tgt := 25) hx hb d_C_copy_12 (by decide) (fun c_12 => ?_) (fun c_12 => ?_)
      · refine lv_aload_n hx hb d_C_copy_25 rfl (lv_at hl 0 rfl) ?_
        refine va_get (D := (dC, dI)) (ci := 0) (v := .ref (aa 3)) (C := R_C) (T := F_C) (N := 5) hx hb hts i_C hown hK hP 0 rfl rfl 2 (by decide) (hts _ fl_C_26) (fun _ h9 => h9) rfl d_C_copy_26 ?_
        refine lv_iload_n hx hb d_C_copy_29 rfl (lv_at hl 1 rfl) ?_
        refine cR (W.runV (As := [.int x]) (rest := []) ⟨hx, hb, hml, hown, hts⟩ (c_W_manyOn hP hI x) (cwV 1 hts (wB_goodV (fun _ h => h) ml_C_137 im_W_manyOn se_W_manyOn ini_W co_W_manyOn) rfl rfl rfl (by decide +kernel) ⟨Nat.le_of_ble_eq_true rfl, Nat.le_of_ble_eq_true rfl⟩) (pV hK hP (ci := 5) (q0 := 3) rfl rfl _) rfl rfl hl.1 rfl (lv_room (Nat.le_of_ble_eq_true rfl)) d_C_copy_30 ⟨Nat.zero_le _, Nat.zero_le _⟩) ?_
        refine lv_istore_n (lv' := [(3, .int (nI (cnt (fun i => onB kn vv (nI i) x) (nn 2)))), (0, .ref (aa 0)), (1, .int x), (2, .int y)]) hx hb d_C_copy_33 rfl hl (by decide) rfl (fun ls hl => ?_)
        refine lv_aload_n hx hb d_C_copy_34 rfl (lv_at hl 1 rfl) ?_
        refine lv_iload_n hx hb d_C_copy_35 rfl (lv_at hl 2 rfl) ?_
        refine cR (W.runV (As := [.int x]) (rest := []) ⟨hx, hb, hml, hown, hts⟩ (c_C_openingsOn hP hI x) (cwV 1 hts (wB_goodV (fun _ h => h) ml_C_140 im_C_openingsOn se_C_openingsOn ini_C co_C_openingsOn) rfl rfl rfl (by decide +kernel) ⟨Nat.le_of_ble_eq_true rfl, Nat.le_of_ble_eq_true rfl⟩) (pV hK hP (ci := 0) (q0 := 0) rfl rfl _) rfl rfl hl.1 rfl (lv_room (Nat.le_of_ble_eq_true rfl)) d_C_copy_36 ⟨Nat.zero_le _, Nat.zero_le _⟩) ?_
        refine lv_istore (lv' := [(4, .int (nI (cnt (fun i => onB kn vv (vv 9 i) x) (nn 3)))), (3, .int (nI (cnt (fun i => onB kn vv (nI i) x) (nn 2)))), (0, .ref (aa 0)), (1, .int x), (2, .int y)]) hx hb d_C_copy_39 hl (by decide) rfl (fun ls hl => ?_)
        refine lv_aload_n hx hb d_C_copy_41 rfl (lv_at hl 2 rfl) ?_
        refine va_get (D := (dC, dI)) (ci := 0) (v := .ref (aa 3)) (C := R_C) (T := F_C) (N := 5) hx hb hts i_C hown hK hP 0 rfl rfl 2 (by decide) (hts _ fl_C_26) (fun _ h9 => h9) rfl d_C_copy_42 ?_
        refine va_get (D := (dC, dI)) (ci := 5) (v := .int (nI (nn 2))) (C := R_W) (T := F_W) (N := 8) hx hb hts i_W hown hK hP 3 rfl rfl 7 (by decide) (hts _ fl_C_95) (fun _ h9 => h9) (by rw [← (eK 2 (by decide))]; rfl) d_C_copy_45 ?_
        refine lv_iload_n hx hb d_C_copy_48 rfl (lv_at hl 1 rfl) ?_
        refine lv_iadd hx hb d_C_copy_49 ?_
        refine lv_bipush (v := 40) hx hb d_C_copy_50 (by decide) ?_
        refine lv_icmp_le (tgt := 65) hx hb d_C_copy_52 (by decide) (fun c_52 => ?_) (fun c_52 => ?_)
        · have s52 : nn 2 + cnt (fun i => onB kn vv (nI i) x) (nn 2) ≤ 40 := (nI_leI (by omega) (by decide)).mp (by rw [← nI_add]; exact c_52)
          refine lv_aload_n hx hb d_C_copy_65 rfl (lv_at hl 2 rfl) ?_
          refine va_get (D := (dC, dI)) (ci := 0) (v := .ref (aa 4)) (C := R_C) (T := F_C) (N := 5) hx hb hts i_C hown hK hP 0 rfl rfl 3 (by decide) (hts _ fl_C_33) (fun _ h9 => h9) rfl d_C_copy_66 ?_
          refine va_get (D := (dC, dI)) (ci := 2) (v := .int (nI (nn 3))) (C := R_O) (T := F_O) (N := 4) hx hb hts i_O hown hK hP 4 rfl rfl 3 (by decide) (hts _ fl_C_123) (fun _ h9 => h9) (by rw [← (eK 3 (by decide))]; rfl) d_C_copy_69 ?_
          refine lv_iload hx hb d_C_copy_72 (lv_at hl 0 rfl) ?_
          refine lv_iadd hx hb d_C_copy_74 ?_
          refine lv_bipush (v := 60) hx hb d_C_copy_75 (by decide) ?_
          refine lv_icmp_le (tgt := 90) hx hb d_C_copy_77 (by decide) (fun c_77 => ?_) (fun c_77 => ?_)
          · have s77 : nn 3 + cnt (fun i => onB kn vv (vv 9 i) x) (nn 3) ≤ 60 := (nI_leI (by omega) (by decide)).mp (by rw [← nI_add]; exact c_77)
            refine lv_aload_n hx hb d_C_copy_90 rfl (lv_at hl 2 rfl) ?_
            by_cases h_91 : decide ((nn 4) < 200) = true
            · refine cV (W.runV (As := []) (rest := []) ⟨hx, hb, hml, hown, hts⟩ (c_C_checkRoomForAct_ok hP (eK 4 (by decide)) (show nn 4 < 2 ^ 31 by omega)  h_91) (cwV 0 hts (wB_goodV (fun _ h => h) ml_C_59 im_C_checkRoomForAct se_C_checkRoomForAct ini_C co_C_checkRoomForAct) rfl rfl rfl (by decide +kernel) ⟨Nat.le_of_ble_eq_true rfl, Nat.le_of_ble_eq_true rfl⟩) (pV hK hP (ci := 0) (q0 := 0) rfl rfl _) rfl rfl hl.1 rfl (lv_room (Nat.le_of_ble_eq_true rfl)) d_C_copy_91 ⟨Nat.le_of_ble_eq_true rfl, Nat.le_of_ble_eq_true rfl⟩) ?_
              have hd4 : nn 4 < 200 := by simpa using h_91
              have hroom : ¬ 200 ≤ nn 4 := by omega
              refine lv_aload_n hx hb d_C_copy_94 rfl (lv_at hl 2 rfl) ?_
              refine lv_iload_n hx hb d_C_copy_95 rfl (lv_at hl 3 rfl) ?_
              refine lv_iload_n hx hb d_C_copy_96 rfl (lv_at hl 4 rfl) ?_
              refine cW (W.runV (As := [.int x, .int y]) (rest := []) ⟨hx, hb, hml, hown, hts⟩ (c_C_writeCopies hP hdD hI x y (hcp s52 s77).1 (hcp s52 s77).2) (cwV 2 hts (wB_goodV (fun _ h => h) ml_C_147 im_C_writeCopies se_C_writeCopies ini_C co_C_writeCopies) rfl rfl rfl (by decide +kernel) ⟨Nat.le_of_ble_eq_true rfl, Nat.le_of_ble_eq_true rfl⟩) (pV hK hP (ci := 0) (q0 := 0) rfl rfl _) rfl rfl hl.1 rfl (lv_room (Nat.le_of_ble_eq_true rfl)) d_C_copy_97 ⟨Nat.zero_le _, Nat.zero_le _⟩) hS (fun _ h => h) (fun H locs hP hS _ _ => ?_)
              have hP : va_P (dC, dI) classes (wC aa cI cZ kn (wcF kn (nn 3) x y (nn 2) (vv, nn 2, nn 3)).1) H := hP
              have hD : va_D (aN aa 22) (wC aa cI cZ kn (wcF kn (nn 3) x y (nn 2) (vv, nn 2, nn 3)).1) := wC_D (dD_aN hdD)
              refine lv_aload_n hx hb d_C_copy_100 rfl (lv_at hl 2 rfl) ?_
              refine lv_iconst (v := 2) hx hb d_C_copy_101 (by decide) ?_
              refine lv_iload_n hx hb d_C_copy_102 rfl (lv_at hl 4 rfl) ?_
              refine lv_iload_n hx hb d_C_copy_103 rfl (lv_at hl 1 rfl) ?_
              refine lv_iload hx hb d_C_copy_104 (lv_at hl 0 rfl) ?_
              refine cW (W.runV (As := [.int 2, .int y, .int (nI (cnt (fun i => onB kn vv (nI i) x) (nn 2))), .int (nI (cnt (fun i => onB kn vv (vv 9 i) x) (nn 3)))]) (rest := []) ⟨hx, hb, hml, hown, hts⟩ (c_C_perform hP hdD (d := nn 4) (eK 4 (by decide)) hd4 _ _ _ _ (okA_0 (Or.inr (Or.inr rfl)))) (cwV 4 hts (wB_goodV (fun _ h => h) ml_C_66 im_C_perform se_C_perform ini_C co_C_perform) rfl rfl rfl (by decide +kernel) ⟨Nat.le_of_ble_eq_true rfl, Nat.le_of_ble_eq_true rfl⟩) (pV hK hP (ci := 0) (q0 := 0) rfl rfl _) rfl rfl hl.1 rfl (lv_room (Nat.le_of_ble_eq_true rfl)) d_C_copy_106 ⟨Nat.zero_le _, Nat.zero_le _⟩) hS (fun _ h => h) (fun H locs hP hS _ _ => ?_)
              have hP : va_P (dC, dI) classes (wC aa cI cZ (pfK kn (wcF kn (nn 3) x y (nn 2) (vv, nn 2, nn 3)).1 (nn 4) 2 y (nI (cnt (fun i => onB kn vv (nI i) x) (nn 2))) (nI (cnt (fun i => onB kn vv (vv 9 i) x) (nn 3)))) (pfV (wcF kn (nn 3) x y (nn 2) (vv, nn 2, nn 3)).1 (nn 4) 2 y (nI (cnt (fun i => onB kn vv (nI i) x) (nn 2))) (nI (cnt (fun i => onB kn vv (vv 9 i) x) (nn 3))))) H := hP
              have hD : va_D (aN aa 22) (wC aa cI cZ (pfK kn (wcF kn (nn 3) x y (nn 2) (vv, nn 2, nn 3)).1 (nn 4) 2 y (nI (cnt (fun i => onB kn vv (nI i) x) (nn 2))) (nI (cnt (fun i => onB kn vv (vv 9 i) x) (nn 3)))) (pfV (wcF kn (nn 3) x y (nn 2) (vv, nn 2, nn 3)).1 (nn 4) 2 y (nI (cnt (fun i => onB kn vv (nI i) x) (nn 2))) (nI (cnt (fun i => onB kn vv (vv 9 i) x) (nn 3))))) := wC_D (dD_aN hdD)
              refine lv_iload_n hx hb d_C_copy_109 rfl (lv_at hl 1 rfl) ?_
              have ek : (kAct (haB (kn 0) x && haB (kn 0) y && !decide (x = y)) (decide (nn 2 + cnt (fun i => onB kn vv (nI i) x) (nn 2) ≤ 40) && decide (nn 3 + cnt (fun i => onB kn vv (vv 9 i) x) (nn 3) ≤ 60)) (nn 4)) = 0 := by rw [kAct, h_2, h_7, decide_eq_false c_12]; rw [decide_eq_true s52, decide_eq_true s77]; simp [hroom]
              have er : ((some (.int (nI (cnt (fun i => onB kn vv (nI i) x) (nn 2))))) : Option Value) = some (.int (nI (cnt (fun i => onB kn vv (nI i) x) (nn 2)))) := by rfl
              have hPe : va_P (dC, dI) classes (wC aa cI cZ (pfK kn (wcF kn (nn 3) x y (nn 2) (vv, nn 2, nn 3)).1 (nn 4) 2 y (nI (cnt (fun i => onB kn vv (nI i) x) (nn 2))) (nI (cnt (fun i => onB kn vv (vv 9 i) x) (nn 3)))) (pfV (wcF kn (nn 3) x y (nn 2) (vv, nn 2, nn 3)).1 (nn 4) 2 y (nI (cnt (fun i => onB kn vv (nI i) x) (nn 2))) (nI (cnt (fun i => onB kn vv (vv 9 i) x) (nn 3))))) H := by exact hP
              refine vx_ret ?_
              refine W.widen (k := 1) (n := 6) (Nat.zero_le _) (Nat.zero_le _) ?_
              exact W.iret (v := (nI (cnt (fun i => onB kn vv (nI i) x) (nn 2)))) hx hb hr (fun t ht hW => ⟨ek, by rw [er], by rw [ht]; exact hPe, hS.F ht⟩) hS.2.2 d_C_copy_110
            · have h_91 : decide ((nn 4) < 200) = false := by simpa using h_91
              have ek : (kAct (haB (kn 0) x && haB (kn 0) y && !decide (x = y)) (decide (nn 2 + cnt (fun i => onB kn vv (nI i) x) (nn 2) ≤ 40) && decide (nn 3 + cnt (fun i => onB kn vv (vv 9 i) x) (nn 3) ≤ 60)) (nn 4)) = 2 := by rw [kAct, h_2, h_7, decide_eq_false c_12]; rw [decide_eq_true s52, decide_eq_true s77]; simp; simpa using h_91
              refine cX (vx_runV (As := []) (rest := []) ⟨hx, hb, hml, hown, hts⟩ (c_C_checkRoomForAct_no hlt hP (eK 4 (by decide)) (show nn 4 < 2 ^ 31 by omega)  h_91) (cwV 0 hts (wB_goodV (fun _ h => h) ml_C_59 im_C_checkRoomForAct se_C_checkRoomForAct ini_C co_C_checkRoomForAct) rfl rfl rfl (by decide +kernel) ⟨Nat.le_of_ble_eq_true rfl, Nat.le_of_ble_eq_true rfl⟩) (pVT hK hT hS hP (ci := 0) (q0 := 0) rfl rfl _) rfl rfl hl.1 rfl (lv_room (Nat.le_of_ble_eq_true rfl)) d_C_copy_91 ⟨Nat.le_of_ble_eq_true rfl, Nat.le_of_ble_eq_true rfl⟩) (fun ce q9 H1 locs1 hz hkp hlo hce hcv hcl => ?_)
              exact vx_out (fun x h => (hexc x h).elim) hlocks hce hcv hcl (fun t ht hal => ⟨Or.inr ⟨ek, rfl⟩, by rw [ht]; exact hz, fun q hq _ => by rw [ht]; exact hkp q hq⟩) (fun z hz9 => by cases hlo z hz9) (Nat.le_of_ble_eq_true rfl) (Nat.le_of_ble_eq_true rfl)
          · have s77 : ¬ nn 3 + cnt (fun i => onB kn vv (vv 9 i) x) (nn 3) ≤ 60 := fun h => c_77 (by rw [nI_add]; exact (nI_leI (by omega) (by decide)).mpr h)
            have ek : (kAct (haB (kn 0) x && haB (kn 0) y && !decide (x = y)) (decide (nn 2 + cnt (fun i => onB kn vv (nI i) x) (nn 2) ≤ 40) && decide (nn 3 + cnt (fun i => onB kn vv (vv 9 i) x) (nn 3) ≤ 60)) (nn 4)) = 2 := by rw [kAct, h_2, h_7, decide_eq_false c_12]; rw [decide_eq_true s52, decide_eq_false s77]; rfl
            exact thIS hx hb hlt hown hts hT hS (hl.1.trans hml.symm) (is := 145) (List.mem_of_getElem? (i := 17) rfl) d_C_copy_80 d_C_copy_83 d_C_copy_84 d_C_copy_86 d_C_copy_89 hexc (Nat.le_of_ble_eq_true rfl) (Nat.le_of_ble_eq_true rfl) (Nat.le_of_ble_eq_true rfl) (Nat.le_of_ble_eq_true rfl) hlocks (fun t hal hz hkp => ⟨Or.inr ⟨ek, rfl⟩, hz, fun q hq _ => hkp q hq⟩) (fun z hz => by cases hz) (Nat.le_of_ble_eq_true rfl) (Nat.le_of_ble_eq_true rfl)
        · have s52 : ¬ nn 2 + cnt (fun i => onB kn vv (nI i) x) (nn 2) ≤ 40 := fun h => c_52 (by rw [nI_add]; exact (nI_leI (by omega) (by decide)).mpr h)
          have ek : (kAct (haB (kn 0) x && haB (kn 0) y && !decide (x = y)) (decide (nn 2 + cnt (fun i => onB kn vv (nI i) x) (nn 2) ≤ 40) && decide (nn 3 + cnt (fun i => onB kn vv (vv 9 i) x) (nn 3) ≤ 60)) (nn 4)) = 2 := by rw [kAct, h_2, h_7, decide_eq_false c_12]; rw [decide_eq_false s52]; rfl
          exact thIS hx hb hlt hown hts hT hS (hl.1.trans hml.symm) (is := 143) (List.mem_of_getElem? (i := 16) rfl) d_C_copy_55 d_C_copy_58 d_C_copy_59 d_C_copy_61 d_C_copy_64 hexc (Nat.le_of_ble_eq_true rfl) (Nat.le_of_ble_eq_true rfl) (Nat.le_of_ble_eq_true rfl) (Nat.le_of_ble_eq_true rfl) hlocks (fun t hal hz hkp => ⟨Or.inr ⟨ek, rfl⟩, hz, fun q hq _ => hkp q hq⟩) (fun z hz => by cases hz) (Nat.le_of_ble_eq_true rfl) (Nat.le_of_ble_eq_true rfl)
      · have ek : (kAct (haB (kn 0) x && haB (kn 0) y && !decide (x = y)) (decide (nn 2 + cnt (fun i => onB kn vv (nI i) x) (nn 2) ≤ 40) && decide (nn 3 + cnt (fun i => onB kn vv (vv 9 i) x) (nn 3) ≤ 60)) (nn 4)) = 1 := by rw [kAct, h_2, h_7, decide_eq_true (show x = y by simpa using c_12)]; rfl
        exact thIA hx hb hlt hown hts hT hS (hl.1.trans hml.symm) (is := 135) (List.mem_of_getElem? (i := 15) rfl) d_C_copy_15 d_C_copy_18 d_C_copy_19 d_C_copy_21 d_C_copy_24 hexc (Nat.le_of_ble_eq_true rfl) (Nat.le_of_ble_eq_true rfl) (Nat.le_of_ble_eq_true rfl) (Nat.le_of_ble_eq_true rfl) hlocks (fun t hal hz hkp => ⟨Or.inl ⟨ek, rfl⟩, hz, fun q hq _ => hkp q hq⟩) (fun z hz => by cases hz) (Nat.le_of_ble_eq_true rfl) (Nat.le_of_ble_eq_true rfl)
    · have h_7 : haB (kn 0) y = false := by simpa using h_7
      have ek : (kAct (haB (kn 0) x && haB (kn 0) y && !decide (x = y)) (decide (nn 2 + cnt (fun i => onB kn vv (nI i) x) (nn 2) ≤ 40) && decide (nn 3 + cnt (fun i => onB kn vv (vv 9 i) x) (nn 3) ≤ 60)) (nn 4)) = 1 := by simp [kAct, h_2, h_7]
      refine cX (vx_runV (As := [.int y]) (rest := []) ⟨hx, hb, hml, hown, hts⟩ (c_C_checkStorey_no hlt hP  y h_7) (cwV 1 hts (wB_goodV (fun _ h => h) ml_C_70 im_C_checkStorey se_C_checkStorey ini_C co_C_checkStorey) rfl rfl rfl (by decide +kernel) ⟨Nat.le_of_ble_eq_true rfl, Nat.le_of_ble_eq_true rfl⟩) (pVT hK hT hS hP (ci := 0) (q0 := 0) rfl rfl _) rfl rfl hl.1 rfl (lv_room (Nat.le_of_ble_eq_true rfl)) d_C_copy_7 ⟨Nat.le_of_ble_eq_true rfl, Nat.le_of_ble_eq_true rfl⟩) (fun ce q9 H1 locs1 hz hkp hlo hce hcv hcl => ?_)
      exact vx_out (fun x h => (hexc x h).elim) hlocks hce hcv hcl (fun t ht hal => ⟨Or.inl ⟨ek, rfl⟩, by rw [ht]; exact hz, fun q hq _ => by rw [ht]; exact hkp q hq⟩) (fun z hz9 => by cases hlo z hz9) (Nat.le_of_ble_eq_true rfl) (Nat.le_of_ble_eq_true rfl)
  · have h_2 : haB (kn 0) x = false := by simpa using h_2
    have ek : (kAct (haB (kn 0) x && haB (kn 0) y && !decide (x = y)) (decide (nn 2 + cnt (fun i => onB kn vv (nI i) x) (nn 2) ≤ 40) && decide (nn 3 + cnt (fun i => onB kn vv (vv 9 i) x) (nn 3) ≤ 60)) (nn 4)) = 1 := by simp [kAct, h_2]
    refine cX (vx_runV (As := [.int x]) (rest := []) ⟨hx, hb, hml, hown, hts⟩ (c_C_checkStorey_no hlt hP  x h_2) (cwV 1 hts (wB_goodV (fun _ h => h) ml_C_70 im_C_checkStorey se_C_checkStorey ini_C co_C_checkStorey) rfl rfl rfl (by decide +kernel) ⟨Nat.le_of_ble_eq_true rfl, Nat.le_of_ble_eq_true rfl⟩) (pVT hK hT hS hP (ci := 0) (q0 := 0) rfl rfl _) rfl rfl hl.1 rfl (lv_room (Nat.le_of_ble_eq_true rfl)) d_C_copy_2 ⟨Nat.le_of_ble_eq_true rfl, Nat.le_of_ble_eq_true rfl⟩) (fun ce q9 H1 locs1 hz hkp hlo hce hcv hcl => ?_)
    exact vx_out (fun x h => (hexc x h).elim) hlocks hce hcv hcl (fun t ht hal => ⟨Or.inl ⟨ek, rfl⟩, by rw [ht]; exact hz, fun q hq _ => by rw [ht]; exact hkp q hq⟩) (fun z hz9 => by cases hlo z hz9) (Nat.le_of_ble_eq_true rfl) (Nat.le_of_ble_eq_true rfl)
set_option maxRecDepth 100000 in
set_option maxHeartbeats 4000000 in
theorem c_C_undo_0 (hP : va_P (dC, dI) classes (wC aa cI cZ kn vv) H) (hdD : dD noT aa 22) (e4 : kn 4 = 0) : Met l y_C_undo (wB y_C_undo b_C_undo 1 (some .boolean)) ({ frames := 2, cells := 0, slots := 0, locals := 49 } : Room) (rP [.ref (aa 0)] H (kK dC dI cI cZ cJ)) (qW (some (.int 0)) (aN aa 22) (fun H1 => va_P (dC, dI) classes (wC aa cI cZ kn vv) H1)) 0 0 (aN aa 22) := by
  refine Met.ofW (cc := b_C_undo) (maxL := 1) (ret := (some .boolean)) (by decide) rfl ?_
  intro p e s m args below meth c s₁ B hml hv
  obtain ⟨rfl, rfl, hK⟩ := hv
  have hx := B.exec
  have hb := B.bytes
  have hr := B.returns
  have hts0 := atoms_spec (ws := (wB y_C_undo b_C_undo 1 (some .boolean))) B.pre
  have hts : ∀ w9 ∈ BG, w9.before [.ref (aa 0)].toArray s = true := fun w9 hw9 => hts0 w9 (List.mem_cons_of_mem _ hw9)
  have hown : s.vm.findClass R_C = some m.cls := findClass_of_methodNamed B.named
  have hlocks := B.notSynchronized
  have hK : va_K (dC, dI) classes [(cI, .int), (cZ, .boolean), (cJ, .long)] s := hK
  have hD : va_D (aN aa 22) (wC aa cI cZ kn vv) := wC_D (dD_aN hdD)
  have hS : va_S (aN aa 22) s.heap s.heap [] := va_S.rf
  have hl := lv_entry ([.ref (aa 0)]) (n := 1) (Nat.le_of_ble_eq_true rfl)
  rw [lg_entry_eq]
  generalize (lg_sl ([.ref (aa 0)]) ++ List.replicate (1 - (lg_sl ([.ref (aa 0)])).length) Slot.unset).toArray = ls at hl ⊢
  have hl : lv_has ls 1 [(0, .ref (aa 0))] := hl
  refine lv_aload_n hx hb d_C_undo_0 rfl (lv_at hl 0 rfl) ?_
  refine va_get (D := (dC, dI)) (ci := 0) (v := .ref (aa 5)) (C := R_C) (T := F_C) (N := 5) hx hb hts i_C hown hK hP 0 rfl rfl 4 (by decide) (hts _ fl_C_40) (fun _ h9 => h9) rfl d_C_undo_1 ?_
  refine va_get (D := (dC, dI)) (ci := 1) (v := .int 0) (C := R_H) (T := F_H) (N := 6) hx hb hts i_H hown hK hP 5 rfl rfl 4 (by decide) (hts _ fl_C_150) (fun _ h9 => h9) (by rw [← e4]; rfl) d_C_undo_4 ?_
  refine lv_if_gt (tgt := 12) hx hb d_C_undo_7 (by decide) (fun c_7 => ?_) (fun c_7 => ?_)
  · exact absurd c_7 (by decide)
  · refine lv_iconst (v := 0) hx hb d_C_undo_10 (by decide) ?_
    have er : ((some (.int 0)) : Option Value) = some (.int 0) := by rfl
    have hPe : va_P (dC, dI) classes (wC aa cI cZ kn vv) s.heap := by exact hP
    exact W.zret (v := 0) hx hb hr rfl (fun t ht hW => ⟨by rw [er], by rw [ht]; exact hPe, hS.F ht⟩) hS.2.2 d_C_undo_11
set_option maxRecDepth 100000 in
set_option maxHeartbeats 4000000 in
theorem c_C_undo_1 (hP : va_P (dC, dI) classes (wC aa cI cZ kn vv) H) (hdD : dD noT aa 22) {d : Nat} (e4 : kn 4 = nI (d + 1)) (hd : d < 200) (hA : okA vv d) : Met l y_C_undo (wB y_C_undo b_C_undo 1 (some .boolean)) ({ frames := 2, cells := 0, slots := 0, locals := 49 } : Room) (rP [.ref (aa 0)] H (kK dC dI cI cZ cJ)) (qW (some (.int 1)) (aN aa 22) (fun H1 => va_P (dC, dI) classes (wC aa cI cZ (stK (va_up kn 4 (nI d)) vv d (-1)) (stV vv d (-1))) H1)) 0 0 (aN aa 22) := by
  refine Met.ofW (cc := b_C_undo) (maxL := 1) (ret := (some .boolean)) (by decide) rfl ?_
  intro p e s m args below meth c s₁ B hml hv
  obtain ⟨rfl, rfl, hK⟩ := hv
  have hx := B.exec
  have hb := B.bytes
  have hr := B.returns
  have hts0 := atoms_spec (ws := (wB y_C_undo b_C_undo 1 (some .boolean))) B.pre
  have hts : ∀ w9 ∈ BG, w9.before [.ref (aa 0)].toArray s = true := fun w9 hw9 => hts0 w9 (List.mem_cons_of_mem _ hw9)
  have hown : s.vm.findClass R_C = some m.cls := findClass_of_methodNamed B.named
  have hlocks := B.notSynchronized
  have hK : va_K (dC, dI) classes [(cI, .int), (cZ, .boolean), (cJ, .long)] s := hK
  have hD : va_D (aN aa 22) (wC aa cI cZ kn vv) := wC_D (dD_aN hdD)
  have hS : va_S (aN aa 22) s.heap s.heap [] := va_S.rf
  have hl := lv_entry ([.ref (aa 0)]) (n := 1) (Nat.le_of_ble_eq_true rfl)
  rw [lg_entry_eq]
  generalize (lg_sl ([.ref (aa 0)]) ++ List.replicate (1 - (lg_sl ([.ref (aa 0)])).length) Slot.unset).toArray = ls at hl ⊢
  have hl : lv_has ls 1 [(0, .ref (aa 0))] := hl
  refine lv_aload_n hx hb d_C_undo_0 rfl (lv_at hl 0 rfl) ?_
  refine va_get (D := (dC, dI)) (ci := 0) (v := .ref (aa 5)) (C := R_C) (T := F_C) (N := 5) hx hb hts i_C hown hK hP 0 rfl rfl 4 (by decide) (hts _ fl_C_40) (fun _ h9 => h9) rfl d_C_undo_1 ?_
  refine va_get (D := (dC, dI)) (ci := 1) (v := .int (nI (d + 1))) (C := R_H) (T := F_H) (N := 6) hx hb hts i_H hown hK hP 5 rfl rfl 4 (by decide) (hts _ fl_C_150) (fun _ h9 => h9) (by rw [← e4]; rfl) d_C_undo_4 ?_
  refine lv_if_gt (tgt := 12) hx hb d_C_undo_7 (by decide) (fun c_7 => ?_) (fun c_7 => ?_)
  · refine lv_aload_n hx hb d_C_undo_12 rfl (lv_at hl 0 rfl) ?_
    refine va_get (D := (dC, dI)) (ci := 0) (v := .ref (aa 5)) (C := R_C) (T := F_C) (N := 5) hx hb hts i_C hown hK hP 0 rfl rfl 4 (by decide) (hts _ fl_C_40) (fun _ h9 => h9) rfl d_C_undo_13 ?_
    refine lv_dup hx hb d_C_undo_16 rfl ?_
    refine va_get (D := (dC, dI)) (ci := 1) (v := .int (nI (d + 1))) (C := R_H) (T := F_H) (N := 6) hx hb hts i_H hown hK hP 5 rfl rfl 4 (by decide) (hts _ fl_C_150) (fun _ h9 => h9) (by rw [← e4]; rfl) d_C_undo_17 ?_
    refine lv_iconst (v := 1) hx hb d_C_undo_20 (by decide) ?_
    refine lv_isub hx hb d_C_undo_21 ?_
    rw [show nI (d + 1) - 1 = nI d from nI_pred d]
    refine va_put (D := (dC, dI)) (ci := 1) (v := .int (nI d)) (ty := .int) (C := R_H) (T := F_H) (N := 6) hx hb hts i_H ty_H tok_H n_H hown hK hP hD hS 5 rfl rfl 4 (by decide) (hts _ fl_C_150) (fun _ h9 => h9) rfl (by decide +kernel) rfl rfl (Nat.le_of_ble_eq_true rfl) d_C_undo_22 (fun H locs hP hD hS => ?_)
    have hP : va_P (dC, dI) classes (wC aa cI cZ (va_up kn 4 (nI d)) vv) H := hP
    have hD : va_D (aN aa 22) (wC aa cI cZ (va_up kn 4 (nI d)) vv) := hD
    refine lv_aload_n hx hb d_C_undo_25 rfl (lv_at hl 0 rfl) ?_
    refine lv_aload_n hx hb d_C_undo_26 rfl (lv_at hl 0 rfl) ?_
    refine va_get (D := (dC, dI)) (ci := 0) (v := .ref (aa 5)) (C := R_C) (T := F_C) (N := 5) hx hb hts i_C hown hK hP 0 rfl rfl 4 (by decide) (hts _ fl_C_40) (fun _ h9 => h9) rfl d_C_undo_27 ?_
    refine va_get (D := (dC, dI)) (ci := 1) (v := .int (nI d)) (C := R_H) (T := F_H) (N := 6) hx hb hts i_H hown hK hP 5 rfl rfl 4 (by decide) (hts _ fl_C_150) (fun _ h9 => h9) rfl d_C_undo_30 ?_
    refine lv_iconst (v := (-1)) hx hb d_C_undo_33 (by decide) ?_
    refine cW (W.runV (As := [.int (nI d), .int (-1)]) (rest := []) ⟨hx, hb, hml, hown, hts⟩ (c_C_step hP hdD hd (-1) hA) (cwV 2 hts (wB_goodV (fun _ h => h) ml_C_153 im_C_step se_C_step ini_C co_C_step) rfl rfl rfl (by decide +kernel) ⟨Nat.le_of_ble_eq_true rfl, Nat.le_of_ble_eq_true rfl⟩) (pV hK hP (ci := 0) (q0 := 0) rfl rfl _) rfl rfl hl.1 rfl (lv_room (Nat.le_of_ble_eq_true rfl)) d_C_undo_34 ⟨Nat.zero_le _, Nat.zero_le _⟩) hS (fun _ h => h) (fun H locs hP hS _ _ => ?_)
    have hP : va_P (dC, dI) classes (wC aa cI cZ (stK (va_up kn 4 (nI d)) vv d (-1)) (stV vv d (-1))) H := hP
    have hD : va_D (aN aa 22) (wC aa cI cZ (stK (va_up kn 4 (nI d)) vv d (-1)) (stV vv d (-1))) := wC_D (dD_aN hdD)
    refine lv_iconst (v := 1) hx hb d_C_undo_37 (by decide) ?_
    have er : ((some (.int 1)) : Option Value) = some (.int 1) := by rfl
    have hPe : va_P (dC, dI) classes (wC aa cI cZ (stK (va_up kn 4 (nI d)) vv d (-1)) (stV vv d (-1))) H := by exact hP
    exact W.zret (v := 1) hx hb hr rfl (fun t ht hW => ⟨by rw [er], by rw [ht]; exact hPe, hS.F ht⟩) hS.2.2 d_C_undo_38
  · exact absurd c_7 (fun h => h ((nI_ltI (a := 0) (by decide) (by omega)).mpr (by omega)))
set_option maxRecDepth 100000 in
set_option maxHeartbeats 4000000 in
theorem c_C_redo_0 (hP : va_P (dC, dI) classes (wC aa cI cZ kn vv) H) (hdD : dD noT aa 22) (e4 : kn 4 = kn 5) : Met l y_C_redo (wB y_C_redo b_C_redo 1 (some .boolean)) ({ frames := 3, cells := 0, slots := 0, locals := 69 } : Room) (rP [.ref (aa 0)] H (kK dC dI cI cZ cJ)) (qW (some (.int 0)) (aN aa 22) (fun H1 => va_P (dC, dI) classes (wC aa cI cZ kn vv) H1)) 0 0 (aN aa 22) := by
  refine Met.ofW (cc := b_C_redo) (maxL := 1) (ret := (some .boolean)) (by decide) rfl ?_
  intro p e s m args below meth c s₁ B hml hv
  obtain ⟨rfl, rfl, hK⟩ := hv
  have hx := B.exec
  have hb := B.bytes
  have hr := B.returns
  have hts0 := atoms_spec (ws := (wB y_C_redo b_C_redo 1 (some .boolean))) B.pre
  have hts : ∀ w9 ∈ BG, w9.before [.ref (aa 0)].toArray s = true := fun w9 hw9 => hts0 w9 (List.mem_cons_of_mem _ hw9)
  have hown : s.vm.findClass R_C = some m.cls := findClass_of_methodNamed B.named
  have hlocks := B.notSynchronized
  have hK : va_K (dC, dI) classes [(cI, .int), (cZ, .boolean), (cJ, .long)] s := hK
  have hD : va_D (aN aa 22) (wC aa cI cZ kn vv) := wC_D (dD_aN hdD)
  have hS : va_S (aN aa 22) s.heap s.heap [] := va_S.rf
  have hl := lv_entry ([.ref (aa 0)]) (n := 1) (Nat.le_of_ble_eq_true rfl)
  rw [lg_entry_eq]
  generalize (lg_sl ([.ref (aa 0)]) ++ List.replicate (1 - (lg_sl ([.ref (aa 0)])).length) Slot.unset).toArray = ls at hl ⊢
  have hl : lv_has ls 1 [(0, .ref (aa 0))] := hl
  refine lv_aload_n hx hb d_C_redo_0 rfl (lv_at hl 0 rfl) ?_
  refine va_get (D := (dC, dI)) (ci := 0) (v := .ref (aa 5)) (C := R_C) (T := F_C) (N := 5) hx hb hts i_C hown hK hP 0 rfl rfl 4 (by decide) (hts _ fl_C_40) (fun _ h9 => h9) rfl d_C_redo_1 ?_
  refine va_get (D := (dC, dI)) (ci := 1) (v := .int (kn 5)) (C := R_H) (T := F_H) (N := 6) hx hb hts i_H hown hK hP 5 rfl rfl 4 (by decide) (hts _ fl_C_150) (fun _ h9 => h9) (by rw [← e4]; rfl) d_C_redo_4 ?_
  refine lv_aload_n hx hb d_C_redo_7 rfl (lv_at hl 0 rfl) ?_
  refine va_get (D := (dC, dI)) (ci := 0) (v := .ref (aa 5)) (C := R_C) (T := F_C) (N := 5) hx hb hts i_C hown hK hP 0 rfl rfl 4 (by decide) (hts _ fl_C_40) (fun _ h9 => h9) rfl d_C_redo_8 ?_
  refine va_get (D := (dC, dI)) (ci := 1) (v := .int (kn 5)) (C := R_H) (T := F_H) (N := 6) hx hb hts i_H hown hK hP 5 rfl rfl 5 (by decide) (hts _ fl_C_156) (fun _ h9 => h9) rfl d_C_redo_11 ?_
  refine lv_icmp_lt (tgt := 19) hx hb d_C_redo_14 (by decide) (fun c_14 => ?_) (fun c_14 => ?_)
  · exact absurd c_14 (fun h => Int32.lt_irrefl h)
  · refine lv_iconst (v := 0) hx hb d_C_redo_17 (by decide) ?_
    have er : ((some (.int 0)) : Option Value) = some (.int 0) := by rfl
    have hPe : va_P (dC, dI) classes (wC aa cI cZ kn vv) s.heap := by exact hP
    exact W.zret (v := 0) hx hb hr rfl (fun t ht hW => ⟨by rw [er], by rw [ht]; exact hPe, hS.F ht⟩) hS.2.2 d_C_redo_18
set_option maxRecDepth 100000 in
set_option maxHeartbeats 4000000 in
theorem c_C_redo_1 (hP : va_P (dC, dI) classes (wC aa cI cZ kn vv) H) (hdD : dD noT aa 22) {d f : Nat} (e4 : kn 4 = nI d) (e5 : kn 5 = nI f) (hd : d < f) (hf : f ≤ 200) (hA : okA vv d) : Met l y_C_redo (wB y_C_redo b_C_redo 1 (some .boolean)) ({ frames := 3, cells := 0, slots := 0, locals := 69 } : Room) (rP [.ref (aa 0)] H (kK dC dI cI cZ cJ)) (qW (some (.int 1)) (aN aa 22) (fun H1 => va_P (dC, dI) classes (wC aa cI cZ (va_up (stK kn vv d 1) 4 (stK kn vv d 1 4 + 1)) (stV vv d 1)) H1)) 0 0 (aN aa 22) := by
  refine Met.ofW (cc := b_C_redo) (maxL := 1) (ret := (some .boolean)) (by decide) rfl ?_
  intro p e s m args below meth c s₁ B hml hv
  obtain ⟨rfl, rfl, hK⟩ := hv
  have hx := B.exec
  have hb := B.bytes
  have hr := B.returns
  have hts0 := atoms_spec (ws := (wB y_C_redo b_C_redo 1 (some .boolean))) B.pre
  have hts : ∀ w9 ∈ BG, w9.before [.ref (aa 0)].toArray s = true := fun w9 hw9 => hts0 w9 (List.mem_cons_of_mem _ hw9)
  have hown : s.vm.findClass R_C = some m.cls := findClass_of_methodNamed B.named
  have hlocks := B.notSynchronized
  have hK : va_K (dC, dI) classes [(cI, .int), (cZ, .boolean), (cJ, .long)] s := hK
  have hD : va_D (aN aa 22) (wC aa cI cZ kn vv) := wC_D (dD_aN hdD)
  have hS : va_S (aN aa 22) s.heap s.heap [] := va_S.rf
  have hl := lv_entry ([.ref (aa 0)]) (n := 1) (Nat.le_of_ble_eq_true rfl)
  rw [lg_entry_eq]
  generalize (lg_sl ([.ref (aa 0)]) ++ List.replicate (1 - (lg_sl ([.ref (aa 0)])).length) Slot.unset).toArray = ls at hl ⊢
  have hl : lv_has ls 1 [(0, .ref (aa 0))] := hl
  refine lv_aload_n hx hb d_C_redo_0 rfl (lv_at hl 0 rfl) ?_
  refine va_get (D := (dC, dI)) (ci := 0) (v := .ref (aa 5)) (C := R_C) (T := F_C) (N := 5) hx hb hts i_C hown hK hP 0 rfl rfl 4 (by decide) (hts _ fl_C_40) (fun _ h9 => h9) rfl d_C_redo_1 ?_
  refine va_get (D := (dC, dI)) (ci := 1) (v := .int (nI d)) (C := R_H) (T := F_H) (N := 6) hx hb hts i_H hown hK hP 5 rfl rfl 4 (by decide) (hts _ fl_C_150) (fun _ h9 => h9) (by rw [← e4]; rfl) d_C_redo_4 ?_
  refine lv_aload_n hx hb d_C_redo_7 rfl (lv_at hl 0 rfl) ?_
  refine va_get (D := (dC, dI)) (ci := 0) (v := .ref (aa 5)) (C := R_C) (T := F_C) (N := 5) hx hb hts i_C hown hK hP 0 rfl rfl 4 (by decide) (hts _ fl_C_40) (fun _ h9 => h9) rfl d_C_redo_8 ?_
  refine va_get (D := (dC, dI)) (ci := 1) (v := .int (nI f)) (C := R_H) (T := F_H) (N := 6) hx hb hts i_H hown hK hP 5 rfl rfl 5 (by decide) (hts _ fl_C_156) (fun _ h9 => h9) (by rw [← e5]; rfl) d_C_redo_11 ?_
  refine lv_icmp_lt (tgt := 19) hx hb d_C_redo_14 (by decide) (fun c_14 => ?_) (fun c_14 => ?_)
  · refine lv_aload_n hx hb d_C_redo_19 rfl (lv_at hl 0 rfl) ?_
    refine cW (W.runV (As := []) (rest := []) ⟨hx, hb, hml, hown, hts⟩ (c_C_goForward hP hdD e4 (by omega) hA) (cwV 0 hts (wB_goodV (fun _ h => h) ml_C_159 im_C_goForward se_C_goForward ini_C co_C_goForward) rfl rfl rfl (by decide +kernel) ⟨Nat.le_of_ble_eq_true rfl, Nat.le_of_ble_eq_true rfl⟩) (pV hK hP (ci := 0) (q0 := 0) rfl rfl _) rfl rfl hl.1 rfl (lv_room (Nat.le_of_ble_eq_true rfl)) d_C_redo_20 ⟨Nat.zero_le _, Nat.zero_le _⟩) hS (fun _ h => h) (fun H locs hP hS _ _ => ?_)
    have hP : va_P (dC, dI) classes (wC aa cI cZ (va_up (stK kn vv d 1) 4 (stK kn vv d 1 4 + 1)) (stV vv d 1)) H := hP
    have hD : va_D (aN aa 22) (wC aa cI cZ (va_up (stK kn vv d 1) 4 (stK kn vv d 1 4 + 1)) (stV vv d 1)) := wC_D (dD_aN hdD)
    refine lv_iconst (v := 1) hx hb d_C_redo_23 (by decide) ?_
    have er : ((some (.int 1)) : Option Value) = some (.int 1) := by rfl
    have hPe : va_P (dC, dI) classes (wC aa cI cZ (va_up (stK kn vv d 1) 4 (stK kn vv d 1 4 + 1)) (stV vv d 1)) H := by exact hP
    exact W.zret (v := 1) hx hb hr rfl (fun t ht hW => ⟨by rw [er], by rw [ht]; exact hPe, hS.F ht⟩) hS.2.2 d_C_redo_24
  · exact absurd c_14 (fun h => h ((nI_ltI (by omega) (by omega)).mpr hd))
end
