section
variable {l : Launch} {dC : Nat → ClassId} {dI : Nat → Nat → Nat} {H : Heap} {ab : Nat → Nat} {cI cZ cJ : ClassId} {mk : Nat → Int32} {mv : Ar} {mn : Nat → Nat}
set_option maxRecDepth 100000 in
set_option maxHeartbeats 4000000 in
theorem c_M_storey (hP : va_P (dC, dI) classes (wM ab cI cZ mk mv) H) (hdD : dD noT ab 14) (hM : okM mk mn) (x : Int32) (hO : (kAct (rsB mk mv mn x) (decide (mn 0 < 6)) (mn 4)) = 0 → okD ((lgV mv (mn 4) 0 x 0 0 0 0 0) 12) (mn 4) (mn, (lgV mv (mn 4) 0 x 0 0 0 0 0))) : Met l y_M_storey (wB y_M_storey b_M_storey 3 (some .int)) ({ frames := 4, cells := 0, slots := 0, locals := 107 } : Room) (rP [.ref (ab 0), .int x] H (kK dC dI cI cZ cJ)) (qW (some (.int (maR (kAct (rsB mk mv mn x) (decide (mn 0 < 6)) (mn 4)) mv mn 0 x 0 0 0 0 0))) (aN ab 14) (fun H1 => va_P (dC, dI) classes (wM ab cI cZ (maK (kAct (rsB mk mv mn x) (decide (mn 0 < 6)) (mn 4)) mk mv mn 0 x 0 0 0 0 0) (maV (kAct (rsB mk mv mn x) (decide (mn 0 < 6)) (mn 4)) mv mn 0 x 0 0 0 0 0)) H1)) 0 0 (aN ab 14) := by
  refine Met.ofW (cc := b_M_storey) (maxL := 3) (ret := (some .int)) (by decide) rfl ?_
  intro p e s m args below meth c s₁ B hml hv
  obtain ⟨rfl, rfl, hK⟩ := hv
  have hx := B.exec
  have hb := B.bytes
  have hr := B.returns
  have hts0 := atoms_spec (ws := (wB y_M_storey b_M_storey 3 (some .int))) B.pre
  have hts : ∀ w9 ∈ BG, w9.before [.ref (ab 0), .int x].toArray s = true := fun w9 hw9 => hts0 w9 (List.mem_cons_of_mem _ hw9)
  have hown : s.vm.findClass R_M = some m.cls := findClass_of_methodNamed B.named
  have hlocks := B.notSynchronized
  have hK : va_K (dC, dI) classes [(cI, .int), (cZ, .boolean), (cJ, .long)] s := hK
  have hD : va_D (aN ab 14) (wM ab cI cZ mk mv) := wM_D (dD_aN hdD)
  have hS : va_S (aN ab 14) s.heap s.heap [] := va_S.rf
  have hl := lv_entry ([.ref (ab 0), .int x]) (n := 3) (Nat.le_of_ble_eq_true rfl)
  rw [lg_entry_eq]
  generalize (lg_sl ([.ref (ab 0), .int x]) ++ List.replicate (3 - (lg_sl ([.ref (ab 0), .int x])).length) Slot.unset).toArray = ls at hl ⊢
  have hl : lv_has ls 3 [(0, .ref (ab 0)), (1, .int x)] := hl
  obtain ⟨eK, b0, b1, b2, b3, b4, b5⟩ := id hM
  have mg_58 : ∀ (ls : Array Slot), lv_has ls 3 [(2, .int (bI (rsB mk mv mn x))), (0, .ref (ab 0)), (1, .int x)] → W p l e (headSpec (wB y_M_storey b_M_storey 3 (some .int)) ({ frames := 4, cells := 0, slots := 0, locals := 107 } : Room)).room s m [.ref (ab 0), .int x].toArray below meth c s.heap [] 0 0 (MQ below (qW (some (.int (maR (kAct (rsB mk mv mn x) (decide (mn 0 < 6)) (mn 4)) mv mn 0 x 0 0 0 0 0))) (aN ab 14) (fun H1 => va_P (dC, dI) classes (wM ab cI cZ (maK (kAct (rsB mk mv mn x) (decide (mn 0 < 6)) (mn 4)) mk mv mn 0 x 0 0 0 0 0) (maV (kAct (rsB mk mv mn x) (decide (mn 0 < 6)) (mn 4)) mv mn 0 x 0 0 0 0 0)) H1)) [.ref (ab 0), .int x].toArray s 0 0 (aN ab 14)) (F0 m 58 ls [.int (bI (decide (mn 0 < 6))), .int (bI (rsB mk mv mn x)), .ref (ab 0)]) := by
    intro ls hl
    refine cW (W.runV (As := [.int (bI (rsB mk mv mn x)), .int (bI (decide (mn 0 < 6)))]) (rest := []) ⟨hx, hb, hml, hown, hts⟩ (c_M_goes hP hdD _ _ (eK 4 (by decide)) b4) (cwV 2 hts (wB_goodV (fun _ h => h) ml_M_98 im_M_goes se_M_goes ini_M co_M_goes) rfl rfl rfl (by decide +kernel) ⟨Nat.le_of_ble_eq_true rfl, Nat.le_of_ble_eq_true rfl⟩) (pV hK hP (ci := 6) (q0 := 0) rfl rfl _) rfl rfl hl.1 rfl (lv_room (Nat.le_of_ble_eq_true rfl)) d_M_storey_58 ⟨Nat.zero_le _, Nat.zero_le _⟩) hS (fun _ h => h) (fun H locs hP hS _ _ => ?_)
    have hP : va_P (dC, dI) classes (wM ab cI cZ (va_up mk 6 (nI (kAct (rsB mk mv mn x) (decide (mn 0 < 6)) (mn 4)))) mv) H := hP
    have hD : va_D (aN ab 14) (wM ab cI cZ (va_up mk 6 (nI (kAct (rsB mk mv mn x) (decide (mn 0 < 6)) (mn 4)))) mv) := wM_D (dD_aN hdD)
    refine lv_if_eq (tgt := 78) hx hb d_M_storey_61 (by decide) (fun c_61 => ?_) (fun c_61 => ?_)
    · have hk0 : ¬ (kAct (rsB mk mv mn x) (decide (mn 0 < 6)) (mn 4)) = 0 := by simpa using bI_0.mp c_61
      refine lv_iconst (v := 0) hx hb d_M_storey_78 (by decide) ?_
      have er : ((some (.int (maR (kAct (rsB mk mv mn x) (decide (mn 0 < 6)) (mn 4)) mv mn 0 x 0 0 0 0 0))) : Option Value) = some (.int 0) := by first | (rw [maR, if_neg hk0]; done) | (rw [maR, if_pos hk0])
      have hPe : va_P (dC, dI) classes (wM ab cI cZ (maK (kAct (rsB mk mv mn x) (decide (mn 0 < 6)) (mn 4)) mk mv mn 0 x 0 0 0 0 0) (maV (kAct (rsB mk mv mn x) (decide (mn 0 < 6)) (mn 4)) mv mn 0 x 0 0 0 0 0)) H := by first | (rw [maK, maV, if_neg hk0, if_neg hk0]; exact hP) | (rw [maK, maV, if_pos hk0, if_pos hk0]; exact hP)
      exact W.iret (v := 0) hx hb hr (fun t ht hW => ⟨by rw [er], by rw [ht]; exact hPe, hS.F ht⟩) hS.2.2 d_M_storey_79
    · have hk0 : (kAct (rsB mk mv mn x) (decide (mn 0 < 6)) (mn 4)) = 0 := by simpa using bI_n0.mp c_61
      refine lv_aload_n hx hb d_M_storey_64 rfl (lv_at hl 1 rfl) ?_
      refine lv_iconst (v := 0) hx hb d_M_storey_65 (by decide) ?_
      refine lv_iload_n hx hb d_M_storey_66 rfl (lv_at hl 2 rfl) ?_
      refine lv_iconst (v := 0) hx hb d_M_storey_67 (by decide) ?_
      refine lv_iconst (v := 0) hx hb d_M_storey_68 (by decide) ?_
      refine lv_iconst (v := 0) hx hb d_M_storey_69 (by decide) ?_
      refine lv_iconst (v := 0) hx hb d_M_storey_70 (by decide) ?_
      refine lv_iconst (v := 0) hx hb d_M_storey_71 (by decide) ?_
      refine cW (W.runV (As := [.int 0, .int x, .int 0, .int 0, .int 0, .int 0, .int 0]) (rest := []) ⟨hx, hb, hml, hown, hts⟩ (c_M_act hP hdD (mn := mn) (d := mn 4) (fun i hi => (va6 (by omega)).trans (eK i (by omega))) ((va6 (by decide)).trans (eK 4 (by decide))) (kAct_lt hk0) _ _ _ _ _ _ _ (hO hk0)) (cwV 7 hts (wB_goodV (fun _ h => h) ml_M_102 im_M_act se_M_act ini_M co_M_act) rfl rfl rfl (by decide +kernel) ⟨Nat.le_of_ble_eq_true rfl, Nat.le_of_ble_eq_true rfl⟩) (pV hK hP (ci := 6) (q0 := 0) rfl rfl _) rfl rfl hl.1 rfl (lv_room (Nat.le_of_ble_eq_true rfl)) d_M_storey_72 ⟨Nat.zero_le _, Nat.zero_le _⟩) hS (fun _ h => h) (fun H locs hP hS _ _ => ?_)
      have hP : va_P (dC, dI) classes (wM ab cI cZ (acK (va_up mk 6 (nI (kAct (rsB mk mv mn x) (decide (mn 0 < 6)) (mn 4)))) mv mn (mn 4) 0 x 0 0 0 0 0) (acV mv mn (mn 4) 0 x 0 0 0 0 0)) H := hP
      have hD : va_D (aN ab 14) (wM ab cI cZ (acK (va_up mk 6 (nI (kAct (rsB mk mv mn x) (decide (mn 0 < 6)) (mn 4)))) mv mn (mn 4) 0 x 0 0 0 0 0) (acV mv mn (mn 4) 0 x 0 0 0 0 0)) := wM_D (dD_aN hdD)
      refine lv_goto (tgt := 79) hx hb d_M_storey_75 (by decide) ?_
      have er : ((some (.int (maR (kAct (rsB mk mv mn x) (decide (mn 0 < 6)) (mn 4)) mv mn 0 x 0 0 0 0 0))) : Option Value) = some (.int (acR mv mn (mn 4) 0 x 0 0 0 0 0)) := by first | (rw [maR, if_neg hk0]; done) | (rw [maR, if_pos hk0])
      have hPe : va_P (dC, dI) classes (wM ab cI cZ (maK (kAct (rsB mk mv mn x) (decide (mn 0 < 6)) (mn 4)) mk mv mn 0 x 0 0 0 0 0) (maV (kAct (rsB mk mv mn x) (decide (mn 0 < 6)) (mn 4)) mv mn 0 x 0 0 0 0 0)) H := by first | (rw [maK, maV, if_neg hk0, if_neg hk0]; exact hP) | (rw [maK, maV, if_pos hk0, if_pos hk0]; exact hP)
      exact W.iret (v := (acR mv mn (mn 4) 0 x 0 0 0 0 0)) hx hb hr (fun t ht hW => ⟨by rw [er], by rw [ht]; exact hPe, hS.F ht⟩) hS.2.2 d_M_storey_79
  have mg_41 : ∀ (ls : Array Slot), lv_has ls 3 [(0, .ref (ab 0)), (1, .int x)] → W p l e (headSpec (wB y_M_storey b_M_storey 3 (some .int)) ({ frames := 4, cells := 0, slots := 0, locals := 107 } : Room)).room s m [.ref (ab 0), .int x].toArray below meth c s.heap [] 0 0 (MQ below (qW (some (.int (maR (kAct (rsB mk mv mn x) (decide (mn 0 < 6)) (mn 4)) mv mn 0 x 0 0 0 0 0))) (aN ab 14) (fun H1 => va_P (dC, dI) classes (wM ab cI cZ (maK (kAct (rsB mk mv mn x) (decide (mn 0 < 6)) (mn 4)) mk mv mn 0 x 0 0 0 0 0) (maV (kAct (rsB mk mv mn x) (decide (mn 0 < 6)) (mn 4)) mv mn 0 x 0 0 0 0 0)) H1)) [.ref (ab 0), .int x].toArray s 0 0 (aN ab 14)) (F0 m 41 ls [.int (bI (rsB mk mv mn x))]) := by
    intro ls hl
    refine lv_istore_n (lv' := [(2, .int (bI (rsB mk mv mn x))), (0, .ref (ab 0)), (1, .int x)]) hx hb d_M_storey_41 rfl hl (by decide) rfl (fun ls hl => ?_)
    refine lv_aload_n hx hb d_M_storey_42 rfl (lv_at hl 1 rfl) ?_
    refine lv_iload_n hx hb d_M_storey_43 rfl (lv_at hl 0 rfl) ?_
    refine lv_aload_n hx hb d_M_storey_44 rfl (lv_at hl 1 rfl) ?_
    refine va_get (D := (dC, dI)) (ci := 6) (v := .int (nI (mn 0))) (C := R_M) (T := F_M) (N := 20) hx hb hts i_M hown hK hP 0 rfl rfl 4 (by decide) (hts _ fl_M_54) (fun _ h9 => h9) (by rw [← (eK 0 (by decide))]; rfl) d_M_storey_45 ?_
    refine lv_bipush (v := 6) hx hb d_M_storey_48 (by decide) ?_
    refine lv_icmp_ge (tgt := 57) hx hb d_M_storey_50 (by decide) (fun c_50 => ?_) (fun c_50 => ?_)
    · have hs : ¬ mn 0 < 6 := fun h => nI_ge h (by decide) c_50
      refine lv_iconst (v := 0) hx hb d_M_storey_57 (by decide) ?_
      have em : bI (decide (mn 0 < 6)) = 0 := by simp [bI, hs]
      exact W.eq (g2 := F0 m 58 ls [.int (bI (decide (mn 0 < 6))), .int (bI (rsB mk mv mn x)), .ref (ab 0)]) (by rw [em]) (mg_58 ls (lv_sub hl [0, 1, 2] rfl))
    · have hs : mn 0 < 6 := Nat.lt_of_not_le fun h => c_50 (nI_le h (by omega))
      refine lv_iconst (v := 1) hx hb d_M_storey_53 (by decide) ?_
      refine lv_goto (tgt := 58) hx hb d_M_storey_54 (by decide) ?_
      have em : bI (decide (mn 0 < 6)) = 1 := by simp [bI, hs]
      exact W.eq (g2 := F0 m 58 ls [.int (bI (decide (mn 0 < 6))), .int (bI (rsB mk mv mn x)), .ref (ab 0)]) (by rw [em]) (mg_58 ls (lv_sub hl [0, 1, 2] rfl))
  refine lv_iload_n hx hb d_M_storey_0 rfl (lv_at hl 1 rfl) ?_
  refine lv_i2l (v := x.toInt64) hx hb d_M_storey_1 rfl ?_
  refine lv_ldc2 (v := (-1000)) hx hb hown (hts _ kl_M_63) d_M_storey_2 ?_
  refine lv_ldc2 (v := 10000) hx hb hown (hts _ kl_M_96) d_M_storey_5 ?_
  refine cR (W.runS (As := [.long (x.toInt64), .long (-1000), .long 10000]) (rest := []) ⟨hx, hb, hml, hown, hts⟩ (c_M_isIn (x.toInt64) (-1000) 10000) (cwS 3 hts (wB_goodS (fun _ h => h) ml_M_67 st_M_isIn ini_M co_M_isIn) rfl rfl rfl (by decide +kernel) ⟨Nat.le_of_ble_eq_true rfl, Nat.le_of_ble_eq_true rfl⟩) (pS hK _) rfl rfl hl.1 rfl (lv_room (Nat.le_of_ble_eq_true rfl)) d_M_storey_8 ⟨Nat.zero_le _, Nat.zero_le _⟩) ?_
  refine lv_if_eq (tgt := 40) hx hb d_M_storey_11 (by decide) (fun c_11 => ?_) (fun c_11 => ?_)
  · refine lv_iconst (v := 0) hx hb d_M_storey_40 (by decide) ?_
    have em : bI (rsB mk mv mn x) = 0 := by first | (simp [bI, rsB, bI_0.mp c_11]; done) | (simp only [bI, rsB, bI_n0.mp c_11, decide_eq_true hz, Bool.not_true, Bool.not_false, Bool.and_true, Bool.true_and, Bool.false_and, Bool.and_false, Bool.or_true, Bool.true_or, Bool.or_false, Bool.false_or, if_true, if_false, Bool.false_eq_true, Bool.true_eq_false]; done) | (simp only [bI, rsB, bI_n0.mp c_11, decide_eq_false hz, decide_eq_true c_11, Bool.not_true, Bool.not_false, Bool.and_true, Bool.true_and, Bool.false_and, Bool.and_false, Bool.or_true, Bool.true_or, Bool.or_false, Bool.false_or, if_true, if_false, Bool.false_eq_true, Bool.true_eq_false]; done)
    exact W.eq (g2 := F0 m 41 ls [.int (bI (rsB mk mv mn x))]) (by rw [em]) (mg_41 ls (lv_sub hl [0, 1] rfl))
  · refine lv_aload_n hx hb d_M_storey_14 rfl (lv_at hl 0 rfl) ?_
    refine va_get (D := (dC, dI)) (ci := 6) (v := .int (nI (mn 0))) (C := R_M) (T := F_M) (N := 20) hx hb hts i_M hown hK hP 0 rfl rfl 4 (by decide) (hts _ fl_M_54) (fun _ h9 => h9) (by rw [← (eK 0 (by decide))]; rfl) d_M_storey_15 ?_
    refine lv_if_eq (tgt := 36) hx hb d_M_storey_18 (by decide) (fun c_18 => ?_) (fun c_18 => ?_)
    · have hz : mn 0 = 0 := (nI_eq (by omega) (by decide)).mp (show nI (mn 0) = nI 0 from c_18)
      refine lv_iconst (v := 1) hx hb d_M_storey_36 (by decide) ?_
      refine lv_goto (tgt := 41) hx hb d_M_storey_37 (by decide) ?_
      have em : bI (rsB mk mv mn x) = 1 := by first | (simp [bI, rsB, bI_0.mp c_11]; done) | (simp only [bI, rsB, bI_n0.mp c_11, decide_eq_true hz, Bool.not_true, Bool.not_false, Bool.and_true, Bool.true_and, Bool.false_and, Bool.and_false, Bool.or_true, Bool.true_or, Bool.or_false, Bool.false_or, if_true, if_false, Bool.false_eq_true, Bool.true_eq_false]; done) | (simp only [bI, rsB, bI_n0.mp c_11, decide_eq_false hz, decide_eq_false c_11, decide_eq_true c_18, Bool.not_true, Bool.not_false, Bool.and_true, Bool.true_and, Bool.false_and, Bool.and_false, Bool.or_true, Bool.true_or, Bool.or_false, Bool.false_or, if_true, if_false, Bool.false_eq_true, Bool.true_eq_false]; done)
      exact W.eq (g2 := F0 m 41 ls [.int (bI (rsB mk mv mn x))]) (by rw [em]) (mg_41 ls (lv_sub hl [0, 1] rfl))
    · have hz : ¬ mn 0 = 0 := fun h => c_18 (by rw [h]; rfl)
      refine lv_iload_n hx hb d_M_storey_21 rfl (lv_at hl 1 rfl) ?_
      refine lv_aload_n hx hb d_M_storey_22 rfl (lv_at hl 0 rfl) ?_
      refine va_get (D := (dC, dI)) (ci := 6) (v := .ref (ab 2)) (C := R_M) (T := F_M) (N := 20) hx hb hts i_M hown hK hP 0 rfl rfl 5 (by decide) (hts _ fl_M_13) (fun _ h9 => h9) rfl d_M_storey_23 ?_
      refine lv_aload_n hx hb d_M_storey_26 rfl (lv_at hl 0 rfl) ?_
      refine va_get (D := (dC, dI)) (ci := 6) (v := .int (nI (mn 0))) (C := R_M) (T := F_M) (N := 20) hx hb hts i_M hown hK hP 0 rfl rfl 4 (by decide) (hts _ fl_M_54) (fun _ h9 => h9) (by rw [← (eK 0 (by decide))]; rfl) d_M_storey_27 ?_
      refine lv_iconst (v := 1) hx hb d_M_storey_30 (by decide) ?_
      refine lv_isub hx hb d_M_storey_31 ?_
      rw [show nI (mn 0) - 1 = nI (mn 0 - 1) from pk_sub (a := mn 0) (b := 1) (by omega)]
      refine va_iald hx hb hK hP 2 0 rfl rfl (vp_in_nI (by omega) (by omega)) d_M_storey_32 ?_
      rw [nI_clamp (show (mn 0 - 1) < 2 ^ 31 by omega)]
      refine lv_icmp_le (tgt := 40) hx hb d_M_storey_33 (by decide) (fun c_33 => ?_) (fun c_33 => ?_)
      · refine lv_iconst (v := 0) hx hb d_M_storey_40 (by decide) ?_
        have em : bI (rsB mk mv mn x) = 0 := by first | (simp [bI, rsB, bI_0.mp c_11]; done) | (simp only [bI, rsB, bI_n0.mp c_11, decide_eq_true hz, Bool.not_true, Bool.not_false, Bool.and_true, Bool.true_and, Bool.false_and, Bool.and_false, Bool.or_true, Bool.true_or, Bool.or_false, Bool.false_or, if_true, if_false, Bool.false_eq_true, Bool.true_eq_false]; done) | (simp only [bI, rsB, bI_n0.mp c_11, decide_eq_false hz, decide_eq_false c_11, decide_eq_false c_18, decide_eq_true c_33, Bool.not_true, Bool.not_false, Bool.and_true, Bool.true_and, Bool.false_and, Bool.and_false, Bool.or_true, Bool.true_or, Bool.or_false, Bool.false_or, if_true, if_false, Bool.false_eq_true, Bool.true_eq_false]; done)
        exact W.eq (g2 := F0 m 41 ls [.int (bI (rsB mk mv mn x))]) (by rw [em]) (mg_41 ls (lv_sub hl [0, 1] rfl))
      · refine lv_iconst (v := 1) hx hb d_M_storey_36 (by decide) ?_
        refine lv_goto (tgt := 41) hx hb d_M_storey_37 (by decide) ?_
        have em : bI (rsB mk mv mn x) = 1 := by first | (simp [bI, rsB, bI_0.mp c_11]; done) | (simp only [bI, rsB, bI_n0.mp c_11, decide_eq_true hz, Bool.not_true, Bool.not_false, Bool.and_true, Bool.true_and, Bool.false_and, Bool.and_false, Bool.or_true, Bool.true_or, Bool.or_false, Bool.false_or, if_true, if_false, Bool.false_eq_true, Bool.true_eq_false]; done) | (simp only [bI, rsB, bI_n0.mp c_11, decide_eq_false hz, decide_eq_false c_11, decide_eq_false c_18, decide_eq_false c_33, Bool.not_true, Bool.not_false, Bool.and_true, Bool.true_and, Bool.false_and, Bool.and_false, Bool.or_true, Bool.true_or, Bool.or_false, Bool.false_or, if_true, if_false, Bool.false_eq_true, Bool.true_eq_false]; done)
        exact W.eq (g2 := F0 m 41 ls [.int (bI (rsB mk mv mn x))]) (by rw [em]) (mg_41 ls (lv_sub hl [0, 1] rfl))
set_option maxRecDepth 100000 in
set_option maxHeartbeats 4000000 in
theorem c_M_level (hP : va_P (dC, dI) classes (wM ab cI cZ mk mv) H) (hdD : dD noT ab 14) (hM : okM mk mn) (x y : Int32) (hO : (kAct (rlB mk mv x y) (true) (mn 4)) = 0 → okD ((lgV mv (mn 4) 1 x y 0 0 0 0) 12) (mn 4) (mn, (lgV mv (mn 4) 1 x y 0 0 0 0))) : Met l y_M_level (wB y_M_level b_M_level 4 none) ({ frames := 4, cells := 0, slots := 0, locals := 107 } : Room) (rP [.ref (ab 0), .int x, .int y] H (kK dC dI cI cZ cJ)) (qW none (aN ab 14) (fun H1 => va_P (dC, dI) classes (wM ab cI cZ (maK (kAct (rlB mk mv x y) (true) (mn 4)) mk mv mn 1 x y 0 0 0 0) (maV (kAct (rlB mk mv x y) (true) (mn 4)) mv mn 1 x y 0 0 0 0)) H1)) 0 0 (aN ab 14) := by
  refine Met.ofW (cc := b_M_level) (maxL := 4) (ret := none) (by decide) rfl ?_
  intro p e s m args below meth c s₁ B hml hv
  obtain ⟨rfl, rfl, hK⟩ := hv
  have hx := B.exec
  have hb := B.bytes
  have hr := B.returns
  have hts0 := atoms_spec (ws := (wB y_M_level b_M_level 4 none)) B.pre
  have hts : ∀ w9 ∈ BG, w9.before [.ref (ab 0), .int x, .int y].toArray s = true := fun w9 hw9 => hts0 w9 (List.mem_cons_of_mem _ hw9)
  have hown : s.vm.findClass R_M = some m.cls := findClass_of_methodNamed B.named
  have hlocks := B.notSynchronized
  have hK : va_K (dC, dI) classes [(cI, .int), (cZ, .boolean), (cJ, .long)] s := hK
  have hD : va_D (aN ab 14) (wM ab cI cZ mk mv) := wM_D (dD_aN hdD)
  have hS : va_S (aN ab 14) s.heap s.heap [] := va_S.rf
  have hl := lv_entry ([.ref (ab 0), .int x, .int y]) (n := 4) (Nat.le_of_ble_eq_true rfl)
  rw [lg_entry_eq]
  generalize (lg_sl ([.ref (ab 0), .int x, .int y]) ++ List.replicate (4 - (lg_sl ([.ref (ab 0), .int x, .int y])).length) Slot.unset).toArray = ls at hl ⊢
  have hl : lv_has ls 4 [(0, .ref (ab 0)), (1, .int x), (2, .int y)] := hl
  obtain ⟨eK, b0, b1, b2, b3, b4, b5⟩ := id hM
  have mg_75 : ∀ (ls : Array Slot), lv_has ls 4 [(0, .ref (ab 0)), (1, .int x), (2, .int y)] → W p l e (headSpec (wB y_M_level b_M_level 4 none) ({ frames := 4, cells := 0, slots := 0, locals := 107 } : Room)).room s m [.ref (ab 0), .int x, .int y].toArray below meth c s.heap [] 0 0 (MQ below (qW none (aN ab 14) (fun H1 => va_P (dC, dI) classes (wM ab cI cZ (maK (kAct (rlB mk mv x y) (true) (mn 4)) mk mv mn 1 x y 0 0 0 0) (maV (kAct (rlB mk mv x y) (true) (mn 4)) mv mn 1 x y 0 0 0 0)) H1)) [.ref (ab 0), .int x, .int y].toArray s 0 0 (aN ab 14)) (F0 m 75 ls [.int (bI (rlB mk mv x y))]) := by
    intro ls hl
    refine lv_istore_n (lv' := [(3, .int (bI (rlB mk mv x y))), (0, .ref (ab 0)), (1, .int x), (2, .int y)]) hx hb d_M_level_75 rfl hl (by decide) rfl (fun ls hl => ?_)
    refine lv_aload_n hx hb d_M_level_76 rfl (lv_at hl 1 rfl) ?_
    refine lv_iload_n hx hb d_M_level_77 rfl (lv_at hl 0 rfl) ?_
    refine lv_iconst (v := 1) hx hb d_M_level_78 (by decide) ?_
    refine cW (W.runV (As := [.int (bI (rlB mk mv x y)), .int (bI true)]) (rest := []) ⟨hx, hb, hml, hown, hts⟩ (c_M_goes hP hdD _ _ (eK 4 (by decide)) b4) (cwV 2 hts (wB_goodV (fun _ h => h) ml_M_98 im_M_goes se_M_goes ini_M co_M_goes) rfl rfl rfl (by decide +kernel) ⟨Nat.le_of_ble_eq_true rfl, Nat.le_of_ble_eq_true rfl⟩) (pV hK hP (ci := 6) (q0 := 0) rfl rfl _) rfl rfl hl.1 rfl (lv_room (Nat.le_of_ble_eq_true rfl)) d_M_level_79 ⟨Nat.zero_le _, Nat.zero_le _⟩) hS (fun _ h => h) (fun H locs hP hS _ _ => ?_)
    have hP : va_P (dC, dI) classes (wM ab cI cZ (va_up mk 6 (nI (kAct (rlB mk mv x y) true (mn 4)))) mv) H := hP
    have hD : va_D (aN ab 14) (wM ab cI cZ (va_up mk 6 (nI (kAct (rlB mk mv x y) true (mn 4)))) mv) := wM_D (dD_aN hdD)
    refine lv_if_eq (tgt := 97) hx hb d_M_level_82 (by decide) (fun c_82 => ?_) (fun c_82 => ?_)
    · have hk0 : ¬ (kAct (rlB mk mv x y) (true) (mn 4)) = 0 := by simpa using bI_0.mp c_82
      have er : (none : Option Value) = none := by rfl
      have hPe : va_P (dC, dI) classes (wM ab cI cZ (maK (kAct (rlB mk mv x y) (true) (mn 4)) mk mv mn 1 x y 0 0 0 0) (maV (kAct (rlB mk mv x y) (true) (mn 4)) mv mn 1 x y 0 0 0 0)) H := by first | (rw [maK, maV, if_neg hk0, if_neg hk0]; exact hP) | (rw [maK, maV, if_pos hk0, if_pos hk0]; exact hP)
      exact W.vret hx hb hr (fun t ht hW => ⟨by rw [er], by rw [ht]; exact hPe, hS.F ht⟩) hS.2.2 d_M_level_97
    · have hk0 : (kAct (rlB mk mv x y) (true) (mn 4)) = 0 := by simpa using bI_n0.mp c_82
      refine lv_aload_n hx hb d_M_level_85 rfl (lv_at hl 1 rfl) ?_
      refine lv_iconst (v := 1) hx hb d_M_level_86 (by decide) ?_
      refine lv_iload_n hx hb d_M_level_87 rfl (lv_at hl 2 rfl) ?_
      refine lv_iload_n hx hb d_M_level_88 rfl (lv_at hl 3 rfl) ?_
      refine lv_iconst (v := 0) hx hb d_M_level_89 (by decide) ?_
      refine lv_iconst (v := 0) hx hb d_M_level_90 (by decide) ?_
      refine lv_iconst (v := 0) hx hb d_M_level_91 (by decide) ?_
      refine lv_iconst (v := 0) hx hb d_M_level_92 (by decide) ?_
      refine cW (W.runV (As := [.int 1, .int x, .int y, .int 0, .int 0, .int 0, .int 0]) (rest := []) ⟨hx, hb, hml, hown, hts⟩ (c_M_act hP hdD (mn := mn) (d := mn 4) (fun i hi => (va6 (by omega)).trans (eK i (by omega))) ((va6 (by decide)).trans (eK 4 (by decide))) (kAct_lt hk0) _ _ _ _ _ _ _ (hO hk0)) (cwV 7 hts (wB_goodV (fun _ h => h) ml_M_102 im_M_act se_M_act ini_M co_M_act) rfl rfl rfl (by decide +kernel) ⟨Nat.le_of_ble_eq_true rfl, Nat.le_of_ble_eq_true rfl⟩) (pV hK hP (ci := 6) (q0 := 0) rfl rfl _) rfl rfl hl.1 rfl (lv_room (Nat.le_of_ble_eq_true rfl)) d_M_level_93 ⟨Nat.zero_le _, Nat.zero_le _⟩) hS (fun _ h => h) (fun H locs hP hS _ _ => ?_)
      have hP : va_P (dC, dI) classes (wM ab cI cZ (acK (va_up mk 6 (nI (kAct (rlB mk mv x y) true (mn 4)))) mv mn (mn 4) 1 x y 0 0 0 0) (acV mv mn (mn 4) 1 x y 0 0 0 0)) H := hP
      have hD : va_D (aN ab 14) (wM ab cI cZ (acK (va_up mk 6 (nI (kAct (rlB mk mv x y) true (mn 4)))) mv mn (mn 4) 1 x y 0 0 0 0) (acV mv mn (mn 4) 1 x y 0 0 0 0)) := wM_D (dD_aN hdD)
      refine lv_pop hx hb d_M_level_96 rfl ?_
      have er : (none : Option Value) = none := by rfl
      have hPe : va_P (dC, dI) classes (wM ab cI cZ (maK (kAct (rlB mk mv x y) (true) (mn 4)) mk mv mn 1 x y 0 0 0 0) (maV (kAct (rlB mk mv x y) (true) (mn 4)) mv mn 1 x y 0 0 0 0)) H := by first | (rw [maK, maV, if_neg hk0, if_neg hk0]; exact hP) | (rw [maK, maV, if_pos hk0, if_pos hk0]; exact hP)
      exact W.vret hx hb hr (fun t ht hW => ⟨by rw [er], by rw [ht]; exact hPe, hS.F ht⟩) hS.2.2 d_M_level_97
  have mg_27 : ∀ (ls : Array Slot), lv_has ls 4 [(0, .ref (ab 0)), (1, .int x), (2, .int y)] → W p l e (headSpec (wB y_M_level b_M_level 4 none) ({ frames := 4, cells := 0, slots := 0, locals := 107 } : Room)).room s m [.ref (ab 0), .int x, .int y].toArray below meth c s.heap [] 0 0 (MQ below (qW none (aN ab 14) (fun H1 => va_P (dC, dI) classes (wM ab cI cZ (maK (kAct (rlB mk mv x y) (true) (mn 4)) mk mv mn 1 x y 0 0 0 0) (maV (kAct (rlB mk mv x y) (true) (mn 4)) mv mn 1 x y 0 0 0 0)) H1)) [.ref (ab 0), .int x, .int y].toArray s 0 0 (aN ab 14)) (F0 m 27 ls [.int (bI (haB (mk 0) x && inB y.toInt64 (-1000) 10000))]) := by
    intro ls hl
    refine lv_istore_n (lv' := [(3, .int (bI (haB (mk 0) x && inB y.toInt64 (-1000) 10000))), (0, .ref (ab 0)), (1, .int x), (2, .int y)]) hx hb d_M_level_27 rfl hl (by decide) rfl (fun ls hl => ?_)
    refine lv_iload_n hx hb d_M_level_28 rfl (lv_at hl 0 rfl) ?_
    refine lv_if_eq (tgt := 74) hx hb d_M_level_29 (by decide) (fun c_29 => ?_) (fun c_29 => ?_)
    · have h29 : (haB (mk 0) x && inB y.toInt64 (-1000) 10000) = false := bI_0.mp c_29
      refine lv_iconst (v := 0) hx hb d_M_level_74 (by decide) ?_
      try rw [← ej] at hl
      have em : bI (rlB mk mv x y) = 0 := by have e9 : rlB mk mv x y = ((haB (mk 0) x && inB y.toInt64 (-1000) 10000) && bnB mk mv x.toNatClampNeg y) := rfl; rw [e9, h29]; rfl
      exact W.eq (g2 := F0 m 75 ls [.int (bI (rlB mk mv x y))]) (by rw [em]) (mg_75 ls (lv_sub hl [1, 2, 3] rfl))
    · have h29 : (haB (mk 0) x && inB y.toInt64 (-1000) 10000) = true := bI_n0.mp c_29
      have h1 : haB (mk 0) x = true := (Bool.and_eq_true _ _ ▸ h29).1
      obtain ⟨j, hj, ej⟩ := haB_n (eK 0 (by decide)) (by omega) h1
      have ec : x.toNatClampNeg = j := by rw [ej]; exact nI_clamp (by omega)
      rw [ej] at hl
      refine lv_iload_n hx hb d_M_level_32 rfl (lv_at hl 2 rfl) ?_
      refine lv_if_eq (tgt := 48) hx hb d_M_level_33 (by decide) (fun c_33 => ?_) (fun c_33 => ?_)
      · have hz : j = 0 := (nI_eq (by omega) (by decide)).mp (show nI j = nI 0 from c_33)
        have hkd : decide (j = 0) = true := decide_eq_true hz
        refine lv_iload_n hx hb d_M_level_48 rfl (lv_at hl 2 rfl) ?_
        refine lv_iconst (v := 1) hx hb d_M_level_49 (by decide) ?_
        refine lv_iadd hx hb d_M_level_50 ?_
        rw [nI_1]
        refine lv_aload_n hx hb d_M_level_51 rfl (lv_at hl 1 rfl) ?_
        refine va_get (D := (dC, dI)) (ci := 6) (v := .int (mk 0)) (C := R_M) (T := F_M) (N := 20) hx hb hts i_M hown hK hP 0 rfl rfl 4 (by decide) (hts _ fl_M_54) (fun _ h9 => h9) rfl d_M_level_52 ?_
        refine lv_icmp_ge (tgt := 70) hx hb d_M_level_55 (by decide) (fun c_55 => ?_) (fun c_55 => ?_)
        · refine lv_iconst (v := 1) hx hb d_M_level_70 (by decide) ?_
          refine lv_goto (tgt := 75) hx hb d_M_level_71 (by decide) ?_
          try rw [← ej] at hl
          have em : bI (rlB mk mv x y) = 1 := by have e9 : rlB mk mv x y = ((haB (mk 0) x && inB y.toInt64 (-1000) 10000) && bnB mk mv x.toNatClampNeg y) := rfl; rw [e9, h29, ec]; simp only [bI, bnB, hkd, decide_eq_true c_55, Bool.not_true, Bool.not_false, Bool.and_true, Bool.true_and, Bool.false_and, Bool.and_false, Bool.or_true, Bool.true_or, Bool.or_false, Bool.false_or, if_true, if_false, Bool.false_eq_true, Bool.true_eq_false]
          exact W.eq (g2 := F0 m 75 ls [.int (bI (rlB mk mv x y))]) (by rw [em]) (mg_75 ls (lv_sub hl [1, 2, 3] rfl))
        · have hk2 : j + 1 < mn 0 := ltC (eK 0 (by decide)) c_55 (by omega) (by omega)
          refine lv_iload_n hx hb d_M_level_58 rfl (lv_at hl 3 rfl) ?_
          refine lv_aload_n hx hb d_M_level_59 rfl (lv_at hl 1 rfl) ?_
          refine va_get (D := (dC, dI)) (ci := 6) (v := .ref (ab 2)) (C := R_M) (T := F_M) (N := 20) hx hb hts i_M hown hK hP 0 rfl rfl 5 (by decide) (hts _ fl_M_13) (fun _ h9 => h9) rfl d_M_level_60 ?_
          refine lv_iload_n hx hb d_M_level_63 rfl (lv_at hl 2 rfl) ?_
          refine lv_iconst (v := 1) hx hb d_M_level_64 (by decide) ?_
          refine lv_iadd hx hb d_M_level_65 ?_
          rw [nI_1]
          refine va_iald hx hb hK hP 2 0 rfl rfl (vp_in_nI (by omega) (by omega)) d_M_level_66 ?_
          rw [nI_clamp (show (j + 1) < 2 ^ 31 by omega)]
          refine lv_icmp_ge (tgt := 74) hx hb d_M_level_67 (by decide) (fun c_67 => ?_) (fun c_67 => ?_)
          · refine lv_iconst (v := 0) hx hb d_M_level_74 (by decide) ?_
            try rw [← ej] at hl
            have em : bI (rlB mk mv x y) = 0 := by have e9 : rlB mk mv x y = ((haB (mk 0) x && inB y.toInt64 (-1000) 10000) && bnB mk mv x.toNatClampNeg y) := rfl; rw [e9, h29, ec]; simp only [bI, bnB, hkd, decide_eq_false c_55, decide_eq_true c_67, Bool.not_true, Bool.not_false, Bool.and_true, Bool.true_and, Bool.false_and, Bool.and_false, Bool.or_true, Bool.true_or, Bool.or_false, Bool.false_or, if_true, if_false, Bool.false_eq_true, Bool.true_eq_false]
            exact W.eq (g2 := F0 m 75 ls [.int (bI (rlB mk mv x y))]) (by rw [em]) (mg_75 ls (lv_sub hl [1, 2, 3] rfl))
          · refine lv_iconst (v := 1) hx hb d_M_level_70 (by decide) ?_
            refine lv_goto (tgt := 75) hx hb d_M_level_71 (by decide) ?_
            try rw [← ej] at hl
            have em : bI (rlB mk mv x y) = 1 := by have e9 : rlB mk mv x y = ((haB (mk 0) x && inB y.toInt64 (-1000) 10000) && bnB mk mv x.toNatClampNeg y) := rfl; rw [e9, h29, ec]; simp only [bI, bnB, hkd, decide_eq_false c_55, decide_eq_false c_67, Bool.not_true, Bool.not_false, Bool.and_true, Bool.true_and, Bool.false_and, Bool.and_false, Bool.or_true, Bool.true_or, Bool.or_false, Bool.false_or, if_true, if_false, Bool.false_eq_true, Bool.true_eq_false]
            exact W.eq (g2 := F0 m 75 ls [.int (bI (rlB mk mv x y))]) (by rw [em]) (mg_75 ls (lv_sub hl [1, 2, 3] rfl))
      · have hz : ¬ j = 0 := fun h => c_33 (by rw [h]; rfl)
        have hkd : decide (j = 0) = false := decide_eq_false hz
        refine lv_iload_n hx hb d_M_level_36 rfl (lv_at hl 3 rfl) ?_
        refine lv_aload_n hx hb d_M_level_37 rfl (lv_at hl 1 rfl) ?_
        refine va_get (D := (dC, dI)) (ci := 6) (v := .ref (ab 2)) (C := R_M) (T := F_M) (N := 20) hx hb hts i_M hown hK hP 0 rfl rfl 5 (by decide) (hts _ fl_M_13) (fun _ h9 => h9) rfl d_M_level_38 ?_
        refine lv_iload_n hx hb d_M_level_41 rfl (lv_at hl 2 rfl) ?_
        refine lv_iconst (v := 1) hx hb d_M_level_42 (by decide) ?_
        refine lv_isub hx hb d_M_level_43 ?_
        rw [show nI j - 1 = nI (j - 1) from pk_sub (a := j) (b := 1) (by omega)]
        refine va_iald hx hb hK hP 2 0 rfl rfl (vp_in_nI (by omega) (by omega)) d_M_level_44 ?_
        rw [nI_clamp (show (j - 1) < 2 ^ 31 by omega)]
        refine lv_icmp_le (tgt := 74) hx hb d_M_level_45 (by decide) (fun c_45 => ?_) (fun c_45 => ?_)
        · refine lv_iconst (v := 0) hx hb d_M_level_74 (by decide) ?_
          try rw [← ej] at hl
          have em : bI (rlB mk mv x y) = 0 := by have e9 : rlB mk mv x y = ((haB (mk 0) x && inB y.toInt64 (-1000) 10000) && bnB mk mv x.toNatClampNeg y) := rfl; rw [e9, h29, ec]; simp only [bI, bnB, hkd, decide_eq_true c_45, Bool.not_true, Bool.not_false, Bool.and_true, Bool.true_and, Bool.false_and, Bool.and_false, Bool.or_true, Bool.true_or, Bool.or_false, Bool.false_or, if_true, if_false, Bool.false_eq_true, Bool.true_eq_false]
          exact W.eq (g2 := F0 m 75 ls [.int (bI (rlB mk mv x y))]) (by rw [em]) (mg_75 ls (lv_sub hl [1, 2, 3] rfl))
        · refine lv_iload_n hx hb d_M_level_48 rfl (lv_at hl 2 rfl) ?_
          refine lv_iconst (v := 1) hx hb d_M_level_49 (by decide) ?_
          refine lv_iadd hx hb d_M_level_50 ?_
          rw [nI_1]
          refine lv_aload_n hx hb d_M_level_51 rfl (lv_at hl 1 rfl) ?_
          refine va_get (D := (dC, dI)) (ci := 6) (v := .int (mk 0)) (C := R_M) (T := F_M) (N := 20) hx hb hts i_M hown hK hP 0 rfl rfl 4 (by decide) (hts _ fl_M_54) (fun _ h9 => h9) rfl d_M_level_52 ?_
          refine lv_icmp_ge (tgt := 70) hx hb d_M_level_55 (by decide) (fun c_55 => ?_) (fun c_55 => ?_)
          · refine lv_iconst (v := 1) hx hb d_M_level_70 (by decide) ?_
            refine lv_goto (tgt := 75) hx hb d_M_level_71 (by decide) ?_
            try rw [← ej] at hl
            have em : bI (rlB mk mv x y) = 1 := by have e9 : rlB mk mv x y = ((haB (mk 0) x && inB y.toInt64 (-1000) 10000) && bnB mk mv x.toNatClampNeg y) := rfl; rw [e9, h29, ec]; simp only [bI, bnB, hkd, decide_eq_false c_45, decide_eq_true c_55, Bool.not_true, Bool.not_false, Bool.and_true, Bool.true_and, Bool.false_and, Bool.and_false, Bool.or_true, Bool.true_or, Bool.or_false, Bool.false_or, if_true, if_false, Bool.false_eq_true, Bool.true_eq_false]
            exact W.eq (g2 := F0 m 75 ls [.int (bI (rlB mk mv x y))]) (by rw [em]) (mg_75 ls (lv_sub hl [1, 2, 3] rfl))
          · have hk2 : j + 1 < mn 0 := ltC (eK 0 (by decide)) c_55 (by omega) (by omega)
            refine lv_iload_n hx hb d_M_level_58 rfl (lv_at hl 3 rfl) ?_
            refine lv_aload_n hx hb d_M_level_59 rfl (lv_at hl 1 rfl) ?_
            refine va_get (D := (dC, dI)) (ci := 6) (v := .ref (ab 2)) (C := R_M) (T := F_M) (N := 20) hx hb hts i_M hown hK hP 0 rfl rfl 5 (by decide) (hts _ fl_M_13) (fun _ h9 => h9) rfl d_M_level_60 ?_
            refine lv_iload_n hx hb d_M_level_63 rfl (lv_at hl 2 rfl) ?_
            refine lv_iconst (v := 1) hx hb d_M_level_64 (by decide) ?_
            refine lv_iadd hx hb d_M_level_65 ?_
            rw [nI_1]
            refine va_iald hx hb hK hP 2 0 rfl rfl (vp_in_nI (by omega) (by omega)) d_M_level_66 ?_
            rw [nI_clamp (show (j + 1) < 2 ^ 31 by omega)]
            refine lv_icmp_ge (tgt := 74) hx hb d_M_level_67 (by decide) (fun c_67 => ?_) (fun c_67 => ?_)
            · refine lv_iconst (v := 0) hx hb d_M_level_74 (by decide) ?_
              try rw [← ej] at hl
              have em : bI (rlB mk mv x y) = 0 := by have e9 : rlB mk mv x y = ((haB (mk 0) x && inB y.toInt64 (-1000) 10000) && bnB mk mv x.toNatClampNeg y) := rfl; rw [e9, h29, ec]; simp only [bI, bnB, hkd, decide_eq_false c_45, decide_eq_false c_55, decide_eq_true c_67, Bool.not_true, Bool.not_false, Bool.and_true, Bool.true_and, Bool.false_and, Bool.and_false, Bool.or_true, Bool.true_or, Bool.or_false, Bool.false_or, if_true, if_false, Bool.false_eq_true, Bool.true_eq_false]
              exact W.eq (g2 := F0 m 75 ls [.int (bI (rlB mk mv x y))]) (by rw [em]) (mg_75 ls (lv_sub hl [1, 2, 3] rfl))
            · refine lv_iconst (v := 1) hx hb d_M_level_70 (by decide) ?_
              refine lv_goto (tgt := 75) hx hb d_M_level_71 (by decide) ?_
              try rw [← ej] at hl
              have em : bI (rlB mk mv x y) = 1 := by have e9 : rlB mk mv x y = ((haB (mk 0) x && inB y.toInt64 (-1000) 10000) && bnB mk mv x.toNatClampNeg y) := rfl; rw [e9, h29, ec]; simp only [bI, bnB, hkd, decide_eq_false c_45, decide_eq_false c_55, decide_eq_false c_67, Bool.not_true, Bool.not_false, Bool.and_true, Bool.true_and, Bool.false_and, Bool.and_false, Bool.or_true, Bool.true_or, Bool.or_false, Bool.false_or, if_true, if_false, Bool.false_eq_true, Bool.true_eq_false]
              exact W.eq (g2 := F0 m 75 ls [.int (bI (rlB mk mv x y))]) (by rw [em]) (mg_75 ls (lv_sub hl [1, 2, 3] rfl))
  refine lv_aload_n hx hb d_M_level_0 rfl (lv_at hl 0 rfl) ?_
  refine lv_iload_n hx hb d_M_level_1 rfl (lv_at hl 1 rfl) ?_
  refine cR (W.runV (As := [.int x]) (rest := []) ⟨hx, hb, hml, hown, hts⟩ (c_M_isStorey hP x) (cwV 1 hts (wB_goodV (fun _ h => h) ml_M_106 im_M_isStorey se_M_isStorey ini_M co_M_isStorey) rfl rfl rfl (by decide +kernel) ⟨Nat.le_of_ble_eq_true rfl, Nat.le_of_ble_eq_true rfl⟩) (pV hK hP (ci := 6) (q0 := 0) rfl rfl _) rfl rfl hl.1 rfl (lv_room (Nat.le_of_ble_eq_true rfl)) d_M_level_2 ⟨Nat.zero_le _, Nat.zero_le _⟩) ?_
  refine lv_if_eq (tgt := 26) hx hb d_M_level_5 (by decide) (fun c_5 => ?_) (fun c_5 => ?_)
  · refine lv_iconst (v := 0) hx hb d_M_level_26 (by decide) ?_
    have em : bI (haB (mk 0) x && inB y.toInt64 (-1000) 10000) = 0 := by first | (simp [bI, bI_0.mp c_5]; done) | (simp [bI, bI_n0.mp c_5, bI_0.mp c_19]; done) | (simp [bI, bI_n0.mp c_5, bI_n0.mp c_19]; done)
    exact W.eq (g2 := F0 m 27 ls [.int (bI (haB (mk 0) x && inB y.toInt64 (-1000) 10000))]) (by rw [em]) (mg_27 ls (lv_sub hl [0, 1, 2] rfl))
  · refine lv_iload_n hx hb d_M_level_8 rfl (lv_at hl 2 rfl) ?_
    refine lv_i2l (v := y.toInt64) hx hb d_M_level_9 rfl ?_
    refine lv_ldc2 (v := (-1000)) hx hb hown (hts _ kl_M_63) d_M_level_10 ?_
    refine lv_ldc2 (v := 10000) hx hb hown (hts _ kl_M_96) d_M_level_13 ?_
    refine cR (W.runS (As := [.long (y.toInt64), .long (-1000), .long 10000]) (rest := []) ⟨hx, hb, hml, hown, hts⟩ (c_M_isIn (y.toInt64) (-1000) 10000) (cwS 3 hts (wB_goodS (fun _ h => h) ml_M_67 st_M_isIn ini_M co_M_isIn) rfl rfl rfl (by decide +kernel) ⟨Nat.le_of_ble_eq_true rfl, Nat.le_of_ble_eq_true rfl⟩) (pS hK _) rfl rfl hl.1 rfl (lv_room (Nat.le_of_ble_eq_true rfl)) d_M_level_16 ⟨Nat.zero_le _, Nat.zero_le _⟩) ?_
    refine lv_if_eq (tgt := 26) hx hb d_M_level_19 (by decide) (fun c_19 => ?_) (fun c_19 => ?_)
    · refine lv_iconst (v := 0) hx hb d_M_level_26 (by decide) ?_
      have em : bI (haB (mk 0) x && inB y.toInt64 (-1000) 10000) = 0 := by first | (simp [bI, bI_0.mp c_5]; done) | (simp [bI, bI_n0.mp c_5, bI_0.mp c_19]; done) | (simp [bI, bI_n0.mp c_5, bI_n0.mp c_19]; done)
      exact W.eq (g2 := F0 m 27 ls [.int (bI (haB (mk 0) x && inB y.toInt64 (-1000) 10000))]) (by rw [em]) (mg_27 ls (lv_sub hl [0, 1, 2] rfl))
    · refine lv_iconst (v := 1) hx hb d_M_level_22 (by decide) ?_
      refine lv_goto (tgt := 27) hx hb d_M_level_23 (by decide) ?_
      have em : bI (haB (mk 0) x && inB y.toInt64 (-1000) 10000) = 1 := by first | (simp [bI, bI_0.mp c_5]; done) | (simp [bI, bI_n0.mp c_5, bI_0.mp c_19]; done) | (simp [bI, bI_n0.mp c_5, bI_n0.mp c_19]; done)
      exact W.eq (g2 := F0 m 27 ls [.int (bI (haB (mk 0) x && inB y.toInt64 (-1000) 10000))]) (by rw [em]) (mg_27 ls (lv_sub hl [0, 1, 2] rfl))
set_option maxRecDepth 100000 in
set_option maxHeartbeats 4000000 in
theorem c_M_type (hP : va_P (dC, dI) classes (wM ab cI cZ mk mv) H) (hdD : dD noT ab 14) (hM : okM mk mn) (x : Int32) (hO : (kAct (thB x) (decide (mn 1 < 8)) (mn 4)) = 0 → okD ((lgV mv (mn 4) 2 x 0 0 0 0 0) 12) (mn 4) (mn, (lgV mv (mn 4) 2 x 0 0 0 0 0))) : Met l y_M_type (wB y_M_type b_M_type 2 (some .int)) ({ frames := 4, cells := 0, slots := 0, locals := 107 } : Room) (rP [.ref (ab 0), .int x] H (kK dC dI cI cZ cJ)) (qW (some (.int (maR (kAct (thB x) (decide (mn 1 < 8)) (mn 4)) mv mn 2 x 0 0 0 0 0))) (aN ab 14) (fun H1 => va_P (dC, dI) classes (wM ab cI cZ (maK (kAct (thB x) (decide (mn 1 < 8)) (mn 4)) mk mv mn 2 x 0 0 0 0 0) (maV (kAct (thB x) (decide (mn 1 < 8)) (mn 4)) mv mn 2 x 0 0 0 0 0)) H1)) 0 0 (aN ab 14) := by
  refine Met.ofW (cc := b_M_type) (maxL := 2) (ret := (some .int)) (by decide) rfl ?_
  intro p e s m args below meth c s₁ B hml hv
  obtain ⟨rfl, rfl, hK⟩ := hv
  have hx := B.exec
  have hb := B.bytes
  have hr := B.returns
  have hts0 := atoms_spec (ws := (wB y_M_type b_M_type 2 (some .int))) B.pre
  have hts : ∀ w9 ∈ BG, w9.before [.ref (ab 0), .int x].toArray s = true := fun w9 hw9 => hts0 w9 (List.mem_cons_of_mem _ hw9)
  have hown : s.vm.findClass R_M = some m.cls := findClass_of_methodNamed B.named
  have hlocks := B.notSynchronized
  have hK : va_K (dC, dI) classes [(cI, .int), (cZ, .boolean), (cJ, .long)] s := hK
  have hD : va_D (aN ab 14) (wM ab cI cZ mk mv) := wM_D (dD_aN hdD)
  have hS : va_S (aN ab 14) s.heap s.heap [] := va_S.rf
  have hl := lv_entry ([.ref (ab 0), .int x]) (n := 2) (Nat.le_of_ble_eq_true rfl)
  rw [lg_entry_eq]
  generalize (lg_sl ([.ref (ab 0), .int x]) ++ List.replicate (2 - (lg_sl ([.ref (ab 0), .int x])).length) Slot.unset).toArray = ls at hl ⊢
  have hl : lv_has ls 2 [(0, .ref (ab 0)), (1, .int x)] := hl
  obtain ⟨eK, b0, b1, b2, b3, b4, b5⟩ := id hM
  have mg_19 : ∀ (ls : Array Slot), lv_has ls 2 [(0, .ref (ab 0)), (1, .int x)] → W p l e (headSpec (wB y_M_type b_M_type 2 (some .int)) ({ frames := 4, cells := 0, slots := 0, locals := 107 } : Room)).room s m [.ref (ab 0), .int x].toArray below meth c s.heap [] 0 0 (MQ below (qW (some (.int (maR (kAct (thB x) (decide (mn 1 < 8)) (mn 4)) mv mn 2 x 0 0 0 0 0))) (aN ab 14) (fun H1 => va_P (dC, dI) classes (wM ab cI cZ (maK (kAct (thB x) (decide (mn 1 < 8)) (mn 4)) mk mv mn 2 x 0 0 0 0 0) (maV (kAct (thB x) (decide (mn 1 < 8)) (mn 4)) mv mn 2 x 0 0 0 0 0)) H1)) [.ref (ab 0), .int x].toArray s 0 0 (aN ab 14)) (F0 m 19 ls [.int (bI (decide (mn 1 < 8))), .int (bI (thB x)), .ref (ab 0)]) := by
    intro ls hl
    refine cW (W.runV (As := [.int (bI (thB x)), .int (bI (decide (mn 1 < 8)))]) (rest := []) ⟨hx, hb, hml, hown, hts⟩ (c_M_goes hP hdD _ _ (eK 4 (by decide)) b4) (cwV 2 hts (wB_goodV (fun _ h => h) ml_M_98 im_M_goes se_M_goes ini_M co_M_goes) rfl rfl rfl (by decide +kernel) ⟨Nat.le_of_ble_eq_true rfl, Nat.le_of_ble_eq_true rfl⟩) (pV hK hP (ci := 6) (q0 := 0) rfl rfl _) rfl rfl hl.1 rfl (lv_room (Nat.le_of_ble_eq_true rfl)) d_M_type_19 ⟨Nat.zero_le _, Nat.zero_le _⟩) hS (fun _ h => h) (fun H locs hP hS _ _ => ?_)
    have hP : va_P (dC, dI) classes (wM ab cI cZ (va_up mk 6 (nI (kAct (thB x) (decide (mn 1 < 8)) (mn 4)))) mv) H := hP
    have hD : va_D (aN ab 14) (wM ab cI cZ (va_up mk 6 (nI (kAct (thB x) (decide (mn 1 < 8)) (mn 4)))) mv) := wM_D (dD_aN hdD)
    refine lv_if_eq (tgt := 39) hx hb d_M_type_22 (by decide) (fun c_22 => ?_) (fun c_22 => ?_)
    · have hk0 : ¬ (kAct (thB x) (decide (mn 1 < 8)) (mn 4)) = 0 := by simpa using bI_0.mp c_22
      refine lv_iconst (v := 0) hx hb d_M_type_39 (by decide) ?_
      have er : ((some (.int (maR (kAct (thB x) (decide (mn 1 < 8)) (mn 4)) mv mn 2 x 0 0 0 0 0))) : Option Value) = some (.int 0) := by first | (rw [maR, if_neg hk0]; done) | (rw [maR, if_pos hk0])
      have hPe : va_P (dC, dI) classes (wM ab cI cZ (maK (kAct (thB x) (decide (mn 1 < 8)) (mn 4)) mk mv mn 2 x 0 0 0 0 0) (maV (kAct (thB x) (decide (mn 1 < 8)) (mn 4)) mv mn 2 x 0 0 0 0 0)) H := by first | (rw [maK, maV, if_neg hk0, if_neg hk0]; exact hP) | (rw [maK, maV, if_pos hk0, if_pos hk0]; exact hP)
      exact W.iret (v := 0) hx hb hr (fun t ht hW => ⟨by rw [er], by rw [ht]; exact hPe, hS.F ht⟩) hS.2.2 d_M_type_40
    · have hk0 : (kAct (thB x) (decide (mn 1 < 8)) (mn 4)) = 0 := by simpa using bI_n0.mp c_22
      refine lv_aload_n hx hb d_M_type_25 rfl (lv_at hl 0 rfl) ?_
      refine lv_iconst (v := 2) hx hb d_M_type_26 (by decide) ?_
      refine lv_iload_n hx hb d_M_type_27 rfl (lv_at hl 1 rfl) ?_
      refine lv_iconst (v := 0) hx hb d_M_type_28 (by decide) ?_
      refine lv_iconst (v := 0) hx hb d_M_type_29 (by decide) ?_
      refine lv_iconst (v := 0) hx hb d_M_type_30 (by decide) ?_
      refine lv_iconst (v := 0) hx hb d_M_type_31 (by decide) ?_
      refine lv_iconst (v := 0) hx hb d_M_type_32 (by decide) ?_
      refine cW (W.runV (As := [.int 2, .int x, .int 0, .int 0, .int 0, .int 0, .int 0]) (rest := []) ⟨hx, hb, hml, hown, hts⟩ (c_M_act hP hdD (mn := mn) (d := mn 4) (fun i hi => (va6 (by omega)).trans (eK i (by omega))) ((va6 (by decide)).trans (eK 4 (by decide))) (kAct_lt hk0) _ _ _ _ _ _ _ (hO hk0)) (cwV 7 hts (wB_goodV (fun _ h => h) ml_M_102 im_M_act se_M_act ini_M co_M_act) rfl rfl rfl (by decide +kernel) ⟨Nat.le_of_ble_eq_true rfl, Nat.le_of_ble_eq_true rfl⟩) (pV hK hP (ci := 6) (q0 := 0) rfl rfl _) rfl rfl hl.1 rfl (lv_room (Nat.le_of_ble_eq_true rfl)) d_M_type_33 ⟨Nat.zero_le _, Nat.zero_le _⟩) hS (fun _ h => h) (fun H locs hP hS _ _ => ?_)
      have hP : va_P (dC, dI) classes (wM ab cI cZ (acK (va_up mk 6 (nI (kAct (thB x) (decide (mn 1 < 8)) (mn 4)))) mv mn (mn 4) 2 x 0 0 0 0 0) (acV mv mn (mn 4) 2 x 0 0 0 0 0)) H := hP
      have hD : va_D (aN ab 14) (wM ab cI cZ (acK (va_up mk 6 (nI (kAct (thB x) (decide (mn 1 < 8)) (mn 4)))) mv mn (mn 4) 2 x 0 0 0 0 0) (acV mv mn (mn 4) 2 x 0 0 0 0 0)) := wM_D (dD_aN hdD)
      refine lv_goto (tgt := 40) hx hb d_M_type_36 (by decide) ?_
      have er : ((some (.int (maR (kAct (thB x) (decide (mn 1 < 8)) (mn 4)) mv mn 2 x 0 0 0 0 0))) : Option Value) = some (.int (acR mv mn (mn 4) 2 x 0 0 0 0 0)) := by first | (rw [maR, if_neg hk0]; done) | (rw [maR, if_pos hk0])
      have hPe : va_P (dC, dI) classes (wM ab cI cZ (maK (kAct (thB x) (decide (mn 1 < 8)) (mn 4)) mk mv mn 2 x 0 0 0 0 0) (maV (kAct (thB x) (decide (mn 1 < 8)) (mn 4)) mv mn 2 x 0 0 0 0 0)) H := by first | (rw [maK, maV, if_neg hk0, if_neg hk0]; exact hP) | (rw [maK, maV, if_pos hk0, if_pos hk0]; exact hP)
      exact W.iret (v := (acR mv mn (mn 4) 2 x 0 0 0 0 0)) hx hb hr (fun t ht hW => ⟨by rw [er], by rw [ht]; exact hPe, hS.F ht⟩) hS.2.2 d_M_type_40
  refine lv_aload_n hx hb d_M_type_0 rfl (lv_at hl 0 rfl) ?_
  refine lv_iload_n hx hb d_M_type_1 rfl (lv_at hl 1 rfl) ?_
  refine cR (W.runS (As := [.int x]) (rest := [.ref (ab 0)]) ⟨hx, hb, hml, hown, hts⟩ (c_M_isThick x) (cwS 1 hts (wB_goodS (fun _ h => h) ml_M_110 st_M_isThick ini_M co_M_isThick) rfl rfl rfl (by decide +kernel) ⟨Nat.le_of_ble_eq_true rfl, Nat.le_of_ble_eq_true rfl⟩) (pS hK _) rfl rfl hl.1 rfl (lv_room (Nat.le_of_ble_eq_true rfl)) d_M_type_2 ⟨Nat.zero_le _, Nat.zero_le _⟩) ?_
  refine lv_aload_n hx hb d_M_type_5 rfl (lv_at hl 0 rfl) ?_
  refine va_get (D := (dC, dI)) (ci := 6) (v := .int (nI (mn 1))) (C := R_M) (T := F_M) (N := 20) hx hb hts i_M hown hK hP 0 rfl rfl 6 (by decide) (hts _ fl_M_57) (fun _ h9 => h9) (by rw [← (eK 1 (by decide))]; rfl) d_M_type_6 ?_
  refine lv_bipush (v := 8) hx hb d_M_type_9 (by decide) ?_
  refine lv_icmp_ge (tgt := 18) hx hb d_M_type_11 (by decide) (fun c_11 => ?_) (fun c_11 => ?_)
  · have hs : ¬ mn 1 < 8 := fun h => nI_ge h (by decide) c_11
    refine lv_iconst (v := 0) hx hb d_M_type_18 (by decide) ?_
    have em : bI (decide (mn 1 < 8)) = 0 := by simp [bI, hs]
    exact W.eq (g2 := F0 m 19 ls [.int (bI (decide (mn 1 < 8))), .int (bI (thB x)), .ref (ab 0)]) (by rw [em]) (mg_19 ls (lv_sub hl [0, 1] rfl))
  · have hs : mn 1 < 8 := Nat.lt_of_not_le fun h => c_11 (nI_le h (by omega))
    refine lv_iconst (v := 1) hx hb d_M_type_14 (by decide) ?_
    refine lv_goto (tgt := 19) hx hb d_M_type_15 (by decide) ?_
    have em : bI (decide (mn 1 < 8)) = 1 := by simp [bI, hs]
    exact W.eq (g2 := F0 m 19 ls [.int (bI (decide (mn 1 < 8))), .int (bI (thB x)), .ref (ab 0)]) (by rw [em]) (mg_19 ls (lv_sub hl [0, 1] rfl))
set_option maxRecDepth 100000 in
set_option maxHeartbeats 4000000 in
theorem c_M_thickness (hP : va_P (dC, dI) classes (wM ab cI cZ mk mv) H) (hdD : dD noT ab 14) (hM : okM mk mn) (x y : Int32) (hO : (kAct (haB (mk 1) x && thB y) (true) (mn 4)) = 0 → okD ((lgV mv (mn 4) 3 x y 0 0 0 0) 12) (mn 4) (mn, (lgV mv (mn 4) 3 x y 0 0 0 0))) : Met l y_M_thickness (wB y_M_thickness b_M_thickness 3 none) ({ frames := 4, cells := 0, slots := 0, locals := 107 } : Room) (rP [.ref (ab 0), .int x, .int y] H (kK dC dI cI cZ cJ)) (qW none (aN ab 14) (fun H1 => va_P (dC, dI) classes (wM ab cI cZ (maK (kAct (haB (mk 1) x && thB y) (true) (mn 4)) mk mv mn 3 x y 0 0 0 0) (maV (kAct (haB (mk 1) x && thB y) (true) (mn 4)) mv mn 3 x y 0 0 0 0)) H1)) 0 0 (aN ab 14) := by
  refine Met.ofW (cc := b_M_thickness) (maxL := 3) (ret := none) (by decide) rfl ?_
  intro p e s m args below meth c s₁ B hml hv
  obtain ⟨rfl, rfl, hK⟩ := hv
  have hx := B.exec
  have hb := B.bytes
  have hr := B.returns
  have hts0 := atoms_spec (ws := (wB y_M_thickness b_M_thickness 3 none)) B.pre
  have hts : ∀ w9 ∈ BG, w9.before [.ref (ab 0), .int x, .int y].toArray s = true := fun w9 hw9 => hts0 w9 (List.mem_cons_of_mem _ hw9)
  have hown : s.vm.findClass R_M = some m.cls := findClass_of_methodNamed B.named
  have hlocks := B.notSynchronized
  have hK : va_K (dC, dI) classes [(cI, .int), (cZ, .boolean), (cJ, .long)] s := hK
  have hD : va_D (aN ab 14) (wM ab cI cZ mk mv) := wM_D (dD_aN hdD)
  have hS : va_S (aN ab 14) s.heap s.heap [] := va_S.rf
  have hl := lv_entry ([.ref (ab 0), .int x, .int y]) (n := 3) (Nat.le_of_ble_eq_true rfl)
  rw [lg_entry_eq]
  generalize (lg_sl ([.ref (ab 0), .int x, .int y]) ++ List.replicate (3 - (lg_sl ([.ref (ab 0), .int x, .int y])).length) Slot.unset).toArray = ls at hl ⊢
  have hl : lv_has ls 3 [(0, .ref (ab 0)), (1, .int x), (2, .int y)] := hl
  obtain ⟨eK, b0, b1, b2, b3, b4, b5⟩ := id hM
  have mg_21 : ∀ (ls : Array Slot), lv_has ls 3 [(0, .ref (ab 0)), (1, .int x), (2, .int y)] → W p l e (headSpec (wB y_M_thickness b_M_thickness 3 none) ({ frames := 4, cells := 0, slots := 0, locals := 107 } : Room)).room s m [.ref (ab 0), .int x, .int y].toArray below meth c s.heap [] 0 0 (MQ below (qW none (aN ab 14) (fun H1 => va_P (dC, dI) classes (wM ab cI cZ (maK (kAct (haB (mk 1) x && thB y) (true) (mn 4)) mk mv mn 3 x y 0 0 0 0) (maV (kAct (haB (mk 1) x && thB y) (true) (mn 4)) mv mn 3 x y 0 0 0 0)) H1)) [.ref (ab 0), .int x, .int y].toArray s 0 0 (aN ab 14)) (F0 m 21 ls [.int (bI (haB (mk 1) x && thB y)), .ref (ab 0)]) := by
    intro ls hl
    refine lv_iconst (v := 1) hx hb d_M_thickness_21 (by decide) ?_
    refine cW (W.runV (As := [.int (bI (haB (mk 1) x && thB y)), .int (bI true)]) (rest := []) ⟨hx, hb, hml, hown, hts⟩ (c_M_goes hP hdD _ _ (eK 4 (by decide)) b4) (cwV 2 hts (wB_goodV (fun _ h => h) ml_M_98 im_M_goes se_M_goes ini_M co_M_goes) rfl rfl rfl (by decide +kernel) ⟨Nat.le_of_ble_eq_true rfl, Nat.le_of_ble_eq_true rfl⟩) (pV hK hP (ci := 6) (q0 := 0) rfl rfl _) rfl rfl hl.1 rfl (lv_room (Nat.le_of_ble_eq_true rfl)) d_M_thickness_22 ⟨Nat.zero_le _, Nat.zero_le _⟩) hS (fun _ h => h) (fun H locs hP hS _ _ => ?_)
    have hP : va_P (dC, dI) classes (wM ab cI cZ (va_up mk 6 (nI (kAct (haB (mk 1) x && thB y) true (mn 4)))) mv) H := hP
    have hD : va_D (aN ab 14) (wM ab cI cZ (va_up mk 6 (nI (kAct (haB (mk 1) x && thB y) true (mn 4)))) mv) := wM_D (dD_aN hdD)
    refine lv_if_eq (tgt := 40) hx hb d_M_thickness_25 (by decide) (fun c_25 => ?_) (fun c_25 => ?_)
    · have hk0 : ¬ (kAct (haB (mk 1) x && thB y) (true) (mn 4)) = 0 := by simpa using bI_0.mp c_25
      have er : (none : Option Value) = none := by rfl
      have hPe : va_P (dC, dI) classes (wM ab cI cZ (maK (kAct (haB (mk 1) x && thB y) (true) (mn 4)) mk mv mn 3 x y 0 0 0 0) (maV (kAct (haB (mk 1) x && thB y) (true) (mn 4)) mv mn 3 x y 0 0 0 0)) H := by first | (rw [maK, maV, if_neg hk0, if_neg hk0]; exact hP) | (rw [maK, maV, if_pos hk0, if_pos hk0]; exact hP)
      exact W.vret hx hb hr (fun t ht hW => ⟨by rw [er], by rw [ht]; exact hPe, hS.F ht⟩) hS.2.2 d_M_thickness_40
    · have hk0 : (kAct (haB (mk 1) x && thB y) (true) (mn 4)) = 0 := by simpa using bI_n0.mp c_25
      refine lv_aload_n hx hb d_M_thickness_28 rfl (lv_at hl 0 rfl) ?_
      refine lv_iconst (v := 3) hx hb d_M_thickness_29 (by decide) ?_
      refine lv_iload_n hx hb d_M_thickness_30 rfl (lv_at hl 1 rfl) ?_
      refine lv_iload_n hx hb d_M_thickness_31 rfl (lv_at hl 2 rfl) ?_
      refine lv_iconst (v := 0) hx hb d_M_thickness_32 (by decide) ?_
      refine lv_iconst (v := 0) hx hb d_M_thickness_33 (by decide) ?_
      refine lv_iconst (v := 0) hx hb d_M_thickness_34 (by decide) ?_
      refine lv_iconst (v := 0) hx hb d_M_thickness_35 (by decide) ?_
      refine cW (W.runV (As := [.int 3, .int x, .int y, .int 0, .int 0, .int 0, .int 0]) (rest := []) ⟨hx, hb, hml, hown, hts⟩ (c_M_act hP hdD (mn := mn) (d := mn 4) (fun i hi => (va6 (by omega)).trans (eK i (by omega))) ((va6 (by decide)).trans (eK 4 (by decide))) (kAct_lt hk0) _ _ _ _ _ _ _ (hO hk0)) (cwV 7 hts (wB_goodV (fun _ h => h) ml_M_102 im_M_act se_M_act ini_M co_M_act) rfl rfl rfl (by decide +kernel) ⟨Nat.le_of_ble_eq_true rfl, Nat.le_of_ble_eq_true rfl⟩) (pV hK hP (ci := 6) (q0 := 0) rfl rfl _) rfl rfl hl.1 rfl (lv_room (Nat.le_of_ble_eq_true rfl)) d_M_thickness_36 ⟨Nat.zero_le _, Nat.zero_le _⟩) hS (fun _ h => h) (fun H locs hP hS _ _ => ?_)
      have hP : va_P (dC, dI) classes (wM ab cI cZ (acK (va_up mk 6 (nI (kAct (haB (mk 1) x && thB y) true (mn 4)))) mv mn (mn 4) 3 x y 0 0 0 0) (acV mv mn (mn 4) 3 x y 0 0 0 0)) H := hP
      have hD : va_D (aN ab 14) (wM ab cI cZ (acK (va_up mk 6 (nI (kAct (haB (mk 1) x && thB y) true (mn 4)))) mv mn (mn 4) 3 x y 0 0 0 0) (acV mv mn (mn 4) 3 x y 0 0 0 0)) := wM_D (dD_aN hdD)
      refine lv_pop hx hb d_M_thickness_39 rfl ?_
      have er : (none : Option Value) = none := by rfl
      have hPe : va_P (dC, dI) classes (wM ab cI cZ (maK (kAct (haB (mk 1) x && thB y) (true) (mn 4)) mk mv mn 3 x y 0 0 0 0) (maV (kAct (haB (mk 1) x && thB y) (true) (mn 4)) mv mn 3 x y 0 0 0 0)) H := by first | (rw [maK, maV, if_neg hk0, if_neg hk0]; exact hP) | (rw [maK, maV, if_pos hk0, if_pos hk0]; exact hP)
      exact W.vret hx hb hr (fun t ht hW => ⟨by rw [er], by rw [ht]; exact hPe, hS.F ht⟩) hS.2.2 d_M_thickness_40
  refine lv_aload_n hx hb d_M_thickness_0 rfl (lv_at hl 0 rfl) ?_
  refine lv_aload_n hx hb d_M_thickness_1 rfl (lv_at hl 0 rfl) ?_
  refine lv_iload_n hx hb d_M_thickness_2 rfl (lv_at hl 1 rfl) ?_
  refine cR (W.runV (As := [.int x]) (rest := [.ref (ab 0)]) ⟨hx, hb, hml, hown, hts⟩ (c_M_isType hP x) (cwV 1 hts (wB_goodV (fun _ h => h) ml_M_113 im_M_isType se_M_isType ini_M co_M_isType) rfl rfl rfl (by decide +kernel) ⟨Nat.le_of_ble_eq_true rfl, Nat.le_of_ble_eq_true rfl⟩) (pV hK hP (ci := 6) (q0 := 0) rfl rfl _) rfl rfl hl.1 rfl (lv_room (Nat.le_of_ble_eq_true rfl)) d_M_thickness_3 ⟨Nat.zero_le _, Nat.zero_le _⟩) ?_
  refine lv_if_eq (tgt := 20) hx hb d_M_thickness_6 (by decide) (fun c_6 => ?_) (fun c_6 => ?_)
  · refine lv_iconst (v := 0) hx hb d_M_thickness_20 (by decide) ?_
    have em : bI (haB (mk 1) x && thB y) = 0 := by first | (simp [bI, bI_0.mp c_6]; done) | (simp [bI, bI_n0.mp c_6, bI_0.mp c_13]; done) | (simp [bI, bI_n0.mp c_6, bI_n0.mp c_13]; done)
    exact W.eq (g2 := F0 m 21 ls [.int (bI (haB (mk 1) x && thB y)), .ref (ab 0)]) (by rw [em]) (mg_21 ls (lv_sub hl [0, 1, 2] rfl))
  · refine lv_iload_n hx hb d_M_thickness_9 rfl (lv_at hl 2 rfl) ?_
    refine cR (W.runS (As := [.int y]) (rest := [.ref (ab 0)]) ⟨hx, hb, hml, hown, hts⟩ (c_M_isThick y) (cwS 1 hts (wB_goodS (fun _ h => h) ml_M_110 st_M_isThick ini_M co_M_isThick) rfl rfl rfl (by decide +kernel) ⟨Nat.le_of_ble_eq_true rfl, Nat.le_of_ble_eq_true rfl⟩) (pS hK _) rfl rfl hl.1 rfl (lv_room (Nat.le_of_ble_eq_true rfl)) d_M_thickness_10 ⟨Nat.zero_le _, Nat.zero_le _⟩) ?_
    refine lv_if_eq (tgt := 20) hx hb d_M_thickness_13 (by decide) (fun c_13 => ?_) (fun c_13 => ?_)
    · refine lv_iconst (v := 0) hx hb d_M_thickness_20 (by decide) ?_
      have em : bI (haB (mk 1) x && thB y) = 0 := by first | (simp [bI, bI_0.mp c_6]; done) | (simp [bI, bI_n0.mp c_6, bI_0.mp c_13]; done) | (simp [bI, bI_n0.mp c_6, bI_n0.mp c_13]; done)
      exact W.eq (g2 := F0 m 21 ls [.int (bI (haB (mk 1) x && thB y)), .ref (ab 0)]) (by rw [em]) (mg_21 ls (lv_sub hl [0, 1, 2] rfl))
    · refine lv_iconst (v := 1) hx hb d_M_thickness_16 (by decide) ?_
      refine lv_goto (tgt := 21) hx hb d_M_thickness_17 (by decide) ?_
      have em : bI (haB (mk 1) x && thB y) = 1 := by first | (simp [bI, bI_0.mp c_6]; done) | (simp [bI, bI_n0.mp c_6, bI_0.mp c_13]; done) | (simp [bI, bI_n0.mp c_6, bI_n0.mp c_13]; done)
      exact W.eq (g2 := F0 m 21 ls [.int (bI (haB (mk 1) x && thB y)), .ref (ab 0)]) (by rw [em]) (mg_21 ls (lv_sub hl [0, 1, 2] rfl))
set_option maxRecDepth 100000 in
set_option maxHeartbeats 4000000 in
theorem c_M_retype (hP : va_P (dC, dI) classes (wM ab cI cZ mk mv) H) (hdD : dD noT ab 14) (hM : okM mk mn) (x y : Int32) (hO : (kAct (mW mk mv x && haB (mk 1) y) (true) (mn 4)) = 0 → okD ((lgV mv (mn 4) 6 x y 0 0 0 0) 12) (mn 4) (mn, (lgV mv (mn 4) 6 x y 0 0 0 0))) : Met l y_M_retype (wB y_M_retype b_M_retype 3 none) ({ frames := 4, cells := 0, slots := 0, locals := 107 } : Room) (rP [.ref (ab 0), .int x, .int y] H (kK dC dI cI cZ cJ)) (qW none (aN ab 14) (fun H1 => va_P (dC, dI) classes (wM ab cI cZ (maK (kAct (mW mk mv x && haB (mk 1) y) (true) (mn 4)) mk mv mn 6 x y 0 0 0 0) (maV (kAct (mW mk mv x && haB (mk 1) y) (true) (mn 4)) mv mn 6 x y 0 0 0 0)) H1)) 0 0 (aN ab 14) := by
  refine Met.ofW (cc := b_M_retype) (maxL := 3) (ret := none) (by decide) rfl ?_
  intro p e s m args below meth c s₁ B hml hv
  obtain ⟨rfl, rfl, hK⟩ := hv
  have hx := B.exec
  have hb := B.bytes
  have hr := B.returns
  have hts0 := atoms_spec (ws := (wB y_M_retype b_M_retype 3 none)) B.pre
  have hts : ∀ w9 ∈ BG, w9.before [.ref (ab 0), .int x, .int y].toArray s = true := fun w9 hw9 => hts0 w9 (List.mem_cons_of_mem _ hw9)
  have hown : s.vm.findClass R_M = some m.cls := findClass_of_methodNamed B.named
  have hlocks := B.notSynchronized
  have hK : va_K (dC, dI) classes [(cI, .int), (cZ, .boolean), (cJ, .long)] s := hK
  have hD : va_D (aN ab 14) (wM ab cI cZ mk mv) := wM_D (dD_aN hdD)
  have hS : va_S (aN ab 14) s.heap s.heap [] := va_S.rf
  have hl := lv_entry ([.ref (ab 0), .int x, .int y]) (n := 3) (Nat.le_of_ble_eq_true rfl)
  rw [lg_entry_eq]
  generalize (lg_sl ([.ref (ab 0), .int x, .int y]) ++ List.replicate (3 - (lg_sl ([.ref (ab 0), .int x, .int y])).length) Slot.unset).toArray = ls at hl ⊢
  have hl : lv_has ls 3 [(0, .ref (ab 0)), (1, .int x), (2, .int y)] := hl
  obtain ⟨eK, b0, b1, b2, b3, b4, b5⟩ := id hM
  have mg_22 : ∀ (ls : Array Slot), lv_has ls 3 [(0, .ref (ab 0)), (1, .int x), (2, .int y)] → W p l e (headSpec (wB y_M_retype b_M_retype 3 none) ({ frames := 4, cells := 0, slots := 0, locals := 107 } : Room)).room s m [.ref (ab 0), .int x, .int y].toArray below meth c s.heap [] 0 0 (MQ below (qW none (aN ab 14) (fun H1 => va_P (dC, dI) classes (wM ab cI cZ (maK (kAct (mW mk mv x && haB (mk 1) y) (true) (mn 4)) mk mv mn 6 x y 0 0 0 0) (maV (kAct (mW mk mv x && haB (mk 1) y) (true) (mn 4)) mv mn 6 x y 0 0 0 0)) H1)) [.ref (ab 0), .int x, .int y].toArray s 0 0 (aN ab 14)) (F0 m 22 ls [.int (bI (mW mk mv x && haB (mk 1) y)), .ref (ab 0)]) := by
    intro ls hl
    refine lv_iconst (v := 1) hx hb d_M_retype_22 (by decide) ?_
    refine cW (W.runV (As := [.int (bI (mW mk mv x && haB (mk 1) y)), .int (bI true)]) (rest := []) ⟨hx, hb, hml, hown, hts⟩ (c_M_goes hP hdD _ _ (eK 4 (by decide)) b4) (cwV 2 hts (wB_goodV (fun _ h => h) ml_M_98 im_M_goes se_M_goes ini_M co_M_goes) rfl rfl rfl (by decide +kernel) ⟨Nat.le_of_ble_eq_true rfl, Nat.le_of_ble_eq_true rfl⟩) (pV hK hP (ci := 6) (q0 := 0) rfl rfl _) rfl rfl hl.1 rfl (lv_room (Nat.le_of_ble_eq_true rfl)) d_M_retype_23 ⟨Nat.zero_le _, Nat.zero_le _⟩) hS (fun _ h => h) (fun H locs hP hS _ _ => ?_)
    have hP : va_P (dC, dI) classes (wM ab cI cZ (va_up mk 6 (nI (kAct (mW mk mv x && haB (mk 1) y) true (mn 4)))) mv) H := hP
    have hD : va_D (aN ab 14) (wM ab cI cZ (va_up mk 6 (nI (kAct (mW mk mv x && haB (mk 1) y) true (mn 4)))) mv) := wM_D (dD_aN hdD)
    refine lv_if_eq (tgt := 42) hx hb d_M_retype_26 (by decide) (fun c_26 => ?_) (fun c_26 => ?_)
    · have hk0 : ¬ (kAct (mW mk mv x && haB (mk 1) y) (true) (mn 4)) = 0 := by simpa using bI_0.mp c_26
      have er : (none : Option Value) = none := by rfl
      have hPe : va_P (dC, dI) classes (wM ab cI cZ (maK (kAct (mW mk mv x && haB (mk 1) y) (true) (mn 4)) mk mv mn 6 x y 0 0 0 0) (maV (kAct (mW mk mv x && haB (mk 1) y) (true) (mn 4)) mv mn 6 x y 0 0 0 0)) H := by first | (rw [maK, maV, if_neg hk0, if_neg hk0]; exact hP) | (rw [maK, maV, if_pos hk0, if_pos hk0]; exact hP)
      exact W.vret hx hb hr (fun t ht hW => ⟨by rw [er], by rw [ht]; exact hPe, hS.F ht⟩) hS.2.2 d_M_retype_42
    · have hk0 : (kAct (mW mk mv x && haB (mk 1) y) (true) (mn 4)) = 0 := by simpa using bI_n0.mp c_26
      refine lv_aload_n hx hb d_M_retype_29 rfl (lv_at hl 0 rfl) ?_
      refine lv_bipush (v := 6) hx hb d_M_retype_30 (by decide) ?_
      refine lv_iload_n hx hb d_M_retype_32 rfl (lv_at hl 1 rfl) ?_
      refine lv_iload_n hx hb d_M_retype_33 rfl (lv_at hl 2 rfl) ?_
      refine lv_iconst (v := 0) hx hb d_M_retype_34 (by decide) ?_
      refine lv_iconst (v := 0) hx hb d_M_retype_35 (by decide) ?_
      refine lv_iconst (v := 0) hx hb d_M_retype_36 (by decide) ?_
      refine lv_iconst (v := 0) hx hb d_M_retype_37 (by decide) ?_
      refine cW (W.runV (As := [.int 6, .int x, .int y, .int 0, .int 0, .int 0, .int 0]) (rest := []) ⟨hx, hb, hml, hown, hts⟩ (c_M_act hP hdD (mn := mn) (d := mn 4) (fun i hi => (va6 (by omega)).trans (eK i (by omega))) ((va6 (by decide)).trans (eK 4 (by decide))) (kAct_lt hk0) _ _ _ _ _ _ _ (hO hk0)) (cwV 7 hts (wB_goodV (fun _ h => h) ml_M_102 im_M_act se_M_act ini_M co_M_act) rfl rfl rfl (by decide +kernel) ⟨Nat.le_of_ble_eq_true rfl, Nat.le_of_ble_eq_true rfl⟩) (pV hK hP (ci := 6) (q0 := 0) rfl rfl _) rfl rfl hl.1 rfl (lv_room (Nat.le_of_ble_eq_true rfl)) d_M_retype_38 ⟨Nat.zero_le _, Nat.zero_le _⟩) hS (fun _ h => h) (fun H locs hP hS _ _ => ?_)
      have hP : va_P (dC, dI) classes (wM ab cI cZ (acK (va_up mk 6 (nI (kAct (mW mk mv x && haB (mk 1) y) true (mn 4)))) mv mn (mn 4) 6 x y 0 0 0 0) (acV mv mn (mn 4) 6 x y 0 0 0 0)) H := hP
      have hD : va_D (aN ab 14) (wM ab cI cZ (acK (va_up mk 6 (nI (kAct (mW mk mv x && haB (mk 1) y) true (mn 4)))) mv mn (mn 4) 6 x y 0 0 0 0) (acV mv mn (mn 4) 6 x y 0 0 0 0)) := wM_D (dD_aN hdD)
      refine lv_pop hx hb d_M_retype_41 rfl ?_
      have er : (none : Option Value) = none := by rfl
      have hPe : va_P (dC, dI) classes (wM ab cI cZ (maK (kAct (mW mk mv x && haB (mk 1) y) (true) (mn 4)) mk mv mn 6 x y 0 0 0 0) (maV (kAct (mW mk mv x && haB (mk 1) y) (true) (mn 4)) mv mn 6 x y 0 0 0 0)) H := by first | (rw [maK, maV, if_neg hk0, if_neg hk0]; exact hP) | (rw [maK, maV, if_pos hk0, if_pos hk0]; exact hP)
      exact W.vret hx hb hr (fun t ht hW => ⟨by rw [er], by rw [ht]; exact hPe, hS.F ht⟩) hS.2.2 d_M_retype_42
  refine lv_aload_n hx hb d_M_retype_0 rfl (lv_at hl 0 rfl) ?_
  refine lv_aload_n hx hb d_M_retype_1 rfl (lv_at hl 0 rfl) ?_
  refine lv_iload_n hx hb d_M_retype_2 rfl (lv_at hl 1 rfl) ?_
  refine cR (W.runV (As := [.int x]) (rest := [.ref (ab 0)]) ⟨hx, hb, hml, hown, hts⟩ (c_M_isWall hP hM x) (cwV 1 hts (wB_goodV (fun _ h => h) ml_M_120 im_M_isWall se_M_isWall ini_M co_M_isWall) rfl rfl rfl (by decide +kernel) ⟨Nat.le_of_ble_eq_true rfl, Nat.le_of_ble_eq_true rfl⟩) (pV hK hP (ci := 6) (q0 := 0) rfl rfl _) rfl rfl hl.1 rfl (lv_room (Nat.le_of_ble_eq_true rfl)) d_M_retype_3 ⟨Nat.zero_le _, Nat.zero_le _⟩) ?_
  refine lv_if_eq (tgt := 21) hx hb d_M_retype_6 (by decide) (fun c_6 => ?_) (fun c_6 => ?_)
  · refine lv_iconst (v := 0) hx hb d_M_retype_21 (by decide) ?_
    have em : bI (mW mk mv x && haB (mk 1) y) = 0 := by first | (simp [bI, bI_0.mp c_6]; done) | (simp [bI, bI_n0.mp c_6, bI_0.mp c_14]; done) | (simp [bI, bI_n0.mp c_6, bI_n0.mp c_14]; done)
    exact W.eq (g2 := F0 m 22 ls [.int (bI (mW mk mv x && haB (mk 1) y)), .ref (ab 0)]) (by rw [em]) (mg_22 ls (lv_sub hl [0, 1, 2] rfl))
  · refine lv_aload_n hx hb d_M_retype_9 rfl (lv_at hl 0 rfl) ?_
    refine lv_iload_n hx hb d_M_retype_10 rfl (lv_at hl 2 rfl) ?_
    refine cR (W.runV (As := [.int y]) (rest := [.ref (ab 0)]) ⟨hx, hb, hml, hown, hts⟩ (c_M_isType hP y) (cwV 1 hts (wB_goodV (fun _ h => h) ml_M_113 im_M_isType se_M_isType ini_M co_M_isType) rfl rfl rfl (by decide +kernel) ⟨Nat.le_of_ble_eq_true rfl, Nat.le_of_ble_eq_true rfl⟩) (pV hK hP (ci := 6) (q0 := 0) rfl rfl _) rfl rfl hl.1 rfl (lv_room (Nat.le_of_ble_eq_true rfl)) d_M_retype_11 ⟨Nat.zero_le _, Nat.zero_le _⟩) ?_
    refine lv_if_eq (tgt := 21) hx hb d_M_retype_14 (by decide) (fun c_14 => ?_) (fun c_14 => ?_)
    · refine lv_iconst (v := 0) hx hb d_M_retype_21 (by decide) ?_
      have em : bI (mW mk mv x && haB (mk 1) y) = 0 := by first | (simp [bI, bI_0.mp c_6]; done) | (simp [bI, bI_n0.mp c_6, bI_0.mp c_14]; done) | (simp [bI, bI_n0.mp c_6, bI_n0.mp c_14]; done)
      exact W.eq (g2 := F0 m 22 ls [.int (bI (mW mk mv x && haB (mk 1) y)), .ref (ab 0)]) (by rw [em]) (mg_22 ls (lv_sub hl [0, 1, 2] rfl))
    · refine lv_iconst (v := 1) hx hb d_M_retype_17 (by decide) ?_
      refine lv_goto (tgt := 22) hx hb d_M_retype_18 (by decide) ?_
      have em : bI (mW mk mv x && haB (mk 1) y) = 1 := by first | (simp [bI, bI_0.mp c_6]; done) | (simp [bI, bI_n0.mp c_6, bI_0.mp c_14]; done) | (simp [bI, bI_n0.mp c_6, bI_n0.mp c_14]; done)
      exact W.eq (g2 := F0 m 22 ls [.int (bI (mW mk mv x && haB (mk 1) y)), .ref (ab 0)]) (by rw [em]) (mg_22 ls (lv_sub hl [0, 1, 2] rfl))
set_option maxRecDepth 100000 in
set_option maxHeartbeats 4000000 in
theorem c_M_remove (hP : va_P (dC, dI) classes (wM ab cI cZ mk mv) H) (hdD : dD noT ab 14) (hM : okM mk mn) (x : Int32) (hO : (kAct (mW mk mv x) (true) (mn 4)) = 0 → okD ((lgV mv (mn 4) 7 x 0 0 0 0 0) 12) (mn 4) (mn, (lgV mv (mn 4) 7 x 0 0 0 0 0))) : Met l y_M_remove (wB y_M_remove b_M_remove 2 none) ({ frames := 4, cells := 0, slots := 0, locals := 107 } : Room) (rP [.ref (ab 0), .int x] H (kK dC dI cI cZ cJ)) (qW none (aN ab 14) (fun H1 => va_P (dC, dI) classes (wM ab cI cZ (maK (kAct (mW mk mv x) (true) (mn 4)) mk mv mn 7 x 0 0 0 0 0) (maV (kAct (mW mk mv x) (true) (mn 4)) mv mn 7 x 0 0 0 0 0)) H1)) 0 0 (aN ab 14) := by
  refine Met.ofW (cc := b_M_remove) (maxL := 2) (ret := none) (by decide) rfl ?_
  intro p e s m args below meth c s₁ B hml hv
  obtain ⟨rfl, rfl, hK⟩ := hv
  have hx := B.exec
  have hb := B.bytes
  have hr := B.returns
  have hts0 := atoms_spec (ws := (wB y_M_remove b_M_remove 2 none)) B.pre
  have hts : ∀ w9 ∈ BG, w9.before [.ref (ab 0), .int x].toArray s = true := fun w9 hw9 => hts0 w9 (List.mem_cons_of_mem _ hw9)
  have hown : s.vm.findClass R_M = some m.cls := findClass_of_methodNamed B.named
  have hlocks := B.notSynchronized
  have hK : va_K (dC, dI) classes [(cI, .int), (cZ, .boolean), (cJ, .long)] s := hK
  have hD : va_D (aN ab 14) (wM ab cI cZ mk mv) := wM_D (dD_aN hdD)
  have hS : va_S (aN ab 14) s.heap s.heap [] := va_S.rf
  have hl := lv_entry ([.ref (ab 0), .int x]) (n := 2) (Nat.le_of_ble_eq_true rfl)
  rw [lg_entry_eq]
  generalize (lg_sl ([.ref (ab 0), .int x]) ++ List.replicate (2 - (lg_sl ([.ref (ab 0), .int x])).length) Slot.unset).toArray = ls at hl ⊢
  have hl : lv_has ls 2 [(0, .ref (ab 0)), (1, .int x)] := hl
  obtain ⟨eK, b0, b1, b2, b3, b4, b5⟩ := id hM
  refine lv_aload_n hx hb d_M_remove_0 rfl (lv_at hl 0 rfl) ?_
  refine lv_aload_n hx hb d_M_remove_1 rfl (lv_at hl 0 rfl) ?_
  refine lv_iload_n hx hb d_M_remove_2 rfl (lv_at hl 1 rfl) ?_
  refine cR (W.runV (As := [.int x]) (rest := [.ref (ab 0)]) ⟨hx, hb, hml, hown, hts⟩ (c_M_isWall hP hM x) (cwV 1 hts (wB_goodV (fun _ h => h) ml_M_120 im_M_isWall se_M_isWall ini_M co_M_isWall) rfl rfl rfl (by decide +kernel) ⟨Nat.le_of_ble_eq_true rfl, Nat.le_of_ble_eq_true rfl⟩) (pV hK hP (ci := 6) (q0 := 0) rfl rfl _) rfl rfl hl.1 rfl (lv_room (Nat.le_of_ble_eq_true rfl)) d_M_remove_3 ⟨Nat.zero_le _, Nat.zero_le _⟩) ?_
  refine lv_iconst (v := 1) hx hb d_M_remove_6 (by decide) ?_
  refine cW (W.runV (As := [.int (bI (mW mk mv x)), .int (bI true)]) (rest := []) ⟨hx, hb, hml, hown, hts⟩ (c_M_goes hP hdD _ _ (eK 4 (by decide)) b4) (cwV 2 hts (wB_goodV (fun _ h => h) ml_M_98 im_M_goes se_M_goes ini_M co_M_goes) rfl rfl rfl (by decide +kernel) ⟨Nat.le_of_ble_eq_true rfl, Nat.le_of_ble_eq_true rfl⟩) (pV hK hP (ci := 6) (q0 := 0) rfl rfl _) rfl rfl hl.1 rfl (lv_room (Nat.le_of_ble_eq_true rfl)) d_M_remove_7 ⟨Nat.zero_le _, Nat.zero_le _⟩) hS (fun _ h => h) (fun H locs hP hS _ _ => ?_)
  have hP : va_P (dC, dI) classes (wM ab cI cZ (va_up mk 6 (nI (kAct (mW mk mv x) true (mn 4)))) mv) H := hP
  have hD : va_D (aN ab 14) (wM ab cI cZ (va_up mk 6 (nI (kAct (mW mk mv x) true (mn 4)))) mv) := wM_D (dD_aN hdD)
  refine lv_if_eq (tgt := 26) hx hb d_M_remove_10 (by decide) (fun c_10 => ?_) (fun c_10 => ?_)
  · have hk0 : ¬ (kAct (mW mk mv x) (true) (mn 4)) = 0 := by simpa using bI_0.mp c_10
    have er : (none : Option Value) = none := by rfl
    have hPe : va_P (dC, dI) classes (wM ab cI cZ (maK (kAct (mW mk mv x) (true) (mn 4)) mk mv mn 7 x 0 0 0 0 0) (maV (kAct (mW mk mv x) (true) (mn 4)) mv mn 7 x 0 0 0 0 0)) H := by first | (rw [maK, maV, if_neg hk0, if_neg hk0]; exact hP) | (rw [maK, maV, if_pos hk0, if_pos hk0]; exact hP)
    exact W.vret hx hb hr (fun t ht hW => ⟨by rw [er], by rw [ht]; exact hPe, hS.F ht⟩) hS.2.2 d_M_remove_26
  · have hk0 : (kAct (mW mk mv x) (true) (mn 4)) = 0 := by simpa using bI_n0.mp c_10
    refine lv_aload_n hx hb d_M_remove_13 rfl (lv_at hl 0 rfl) ?_
    refine lv_bipush (v := 7) hx hb d_M_remove_14 (by decide) ?_
    refine lv_iload_n hx hb d_M_remove_16 rfl (lv_at hl 1 rfl) ?_
    refine lv_iconst (v := 0) hx hb d_M_remove_17 (by decide) ?_
    refine lv_iconst (v := 0) hx hb d_M_remove_18 (by decide) ?_
    refine lv_iconst (v := 0) hx hb d_M_remove_19 (by decide) ?_
    refine lv_iconst (v := 0) hx hb d_M_remove_20 (by decide) ?_
    refine lv_iconst (v := 0) hx hb d_M_remove_21 (by decide) ?_
    refine cW (W.runV (As := [.int 7, .int x, .int 0, .int 0, .int 0, .int 0, .int 0]) (rest := []) ⟨hx, hb, hml, hown, hts⟩ (c_M_act hP hdD (mn := mn) (d := mn 4) (fun i hi => (va6 (by omega)).trans (eK i (by omega))) ((va6 (by decide)).trans (eK 4 (by decide))) (kAct_lt hk0) _ _ _ _ _ _ _ (hO hk0)) (cwV 7 hts (wB_goodV (fun _ h => h) ml_M_102 im_M_act se_M_act ini_M co_M_act) rfl rfl rfl (by decide +kernel) ⟨Nat.le_of_ble_eq_true rfl, Nat.le_of_ble_eq_true rfl⟩) (pV hK hP (ci := 6) (q0 := 0) rfl rfl _) rfl rfl hl.1 rfl (lv_room (Nat.le_of_ble_eq_true rfl)) d_M_remove_22 ⟨Nat.zero_le _, Nat.zero_le _⟩) hS (fun _ h => h) (fun H locs hP hS _ _ => ?_)
    have hP : va_P (dC, dI) classes (wM ab cI cZ (acK (va_up mk 6 (nI (kAct (mW mk mv x) true (mn 4)))) mv mn (mn 4) 7 x 0 0 0 0 0) (acV mv mn (mn 4) 7 x 0 0 0 0 0)) H := hP
    have hD : va_D (aN ab 14) (wM ab cI cZ (acK (va_up mk 6 (nI (kAct (mW mk mv x) true (mn 4)))) mv mn (mn 4) 7 x 0 0 0 0 0) (acV mv mn (mn 4) 7 x 0 0 0 0 0)) := wM_D (dD_aN hdD)
    refine lv_pop hx hb d_M_remove_25 rfl ?_
    have er : (none : Option Value) = none := by rfl
    have hPe : va_P (dC, dI) classes (wM ab cI cZ (maK (kAct (mW mk mv x) (true) (mn 4)) mk mv mn 7 x 0 0 0 0 0) (maV (kAct (mW mk mv x) (true) (mn 4)) mv mn 7 x 0 0 0 0 0)) H := by first | (rw [maK, maV, if_neg hk0, if_neg hk0]; exact hP) | (rw [maK, maV, if_pos hk0, if_pos hk0]; exact hP)
    exact W.vret hx hb hr (fun t ht hW => ⟨by rw [er], by rw [ht]; exact hPe, hS.F ht⟩) hS.2.2 d_M_remove_26
set_option maxRecDepth 100000 in
set_option maxHeartbeats 4000000 in
theorem c_M_move (hP : va_P (dC, dI) classes (wM ab cI cZ mk mv) H) (hdD : dD noT ab 14) (hM : okM mk mn) (x y z : Int32) (hO : (kAct (rmB mk mv x y z) (true) (mn 4)) = 0 → okD ((lgV mv (mn 4) 5 x y z 0 0 0) 12) (mn 4) (mn, (lgV mv (mn 4) 5 x y z 0 0 0))) : Met l y_M_move (wB y_M_move b_M_move 5 none) ({ frames := 4, cells := 0, slots := 0, locals := 107 } : Room) (rP [.ref (ab 0), .int x, .int y, .int z] H (kK dC dI cI cZ cJ)) (qW none (aN ab 14) (fun H1 => va_P (dC, dI) classes (wM ab cI cZ (maK (kAct (rmB mk mv x y z) (true) (mn 4)) mk mv mn 5 x y z 0 0 0) (maV (kAct (rmB mk mv x y z) (true) (mn 4)) mv mn 5 x y z 0 0 0)) H1)) 0 0 (aN ab 14) := by
  refine Met.ofW (cc := b_M_move) (maxL := 5) (ret := none) (by decide) rfl ?_
  intro p e s m args below meth c s₁ B hml hv
  obtain ⟨rfl, rfl, hK⟩ := hv
  have hx := B.exec
  have hb := B.bytes
  have hr := B.returns
  have hts0 := atoms_spec (ws := (wB y_M_move b_M_move 5 none)) B.pre
  have hts : ∀ w9 ∈ BG, w9.before [.ref (ab 0), .int x, .int y, .int z].toArray s = true := fun w9 hw9 => hts0 w9 (List.mem_cons_of_mem _ hw9)
  have hown : s.vm.findClass R_M = some m.cls := findClass_of_methodNamed B.named
  have hlocks := B.notSynchronized
  have hK : va_K (dC, dI) classes [(cI, .int), (cZ, .boolean), (cJ, .long)] s := hK
  have hD : va_D (aN ab 14) (wM ab cI cZ mk mv) := wM_D (dD_aN hdD)
  have hS : va_S (aN ab 14) s.heap s.heap [] := va_S.rf
  have hl := lv_entry ([.ref (ab 0), .int x, .int y, .int z]) (n := 5) (Nat.le_of_ble_eq_true rfl)
  rw [lg_entry_eq]
  generalize (lg_sl ([.ref (ab 0), .int x, .int y, .int z]) ++ List.replicate (5 - (lg_sl ([.ref (ab 0), .int x, .int y, .int z])).length) Slot.unset).toArray = ls at hl ⊢
  have hl : lv_has ls 5 [(0, .ref (ab 0)), (1, .int x), (2, .int y), (3, .int z)] := hl
  obtain ⟨eK, b0, b1, b2, b3, b4, b5⟩ := id hM
  have mg_69 : ∀ (ls : Array Slot), lv_has ls 5 [(0, .ref (ab 0)), (1, .int x), (2, .int y), (3, .int z)] → W p l e (headSpec (wB y_M_move b_M_move 5 none) ({ frames := 4, cells := 0, slots := 0, locals := 107 } : Room)).room s m [.ref (ab 0), .int x, .int y, .int z].toArray below meth c s.heap [] 0 0 (MQ below (qW none (aN ab 14) (fun H1 => va_P (dC, dI) classes (wM ab cI cZ (maK (kAct (rmB mk mv x y z) (true) (mn 4)) mk mv mn 5 x y z 0 0 0) (maV (kAct (rmB mk mv x y z) (true) (mn 4)) mv mn 5 x y z 0 0 0)) H1)) [.ref (ab 0), .int x, .int y, .int z].toArray s 0 0 (aN ab 14)) (F0 m 69 ls [.int (bI (rmB mk mv x y z))]) := by
    intro ls hl
    refine lv_istore (lv' := [(4, .int (bI (rmB mk mv x y z))), (0, .ref (ab 0)), (1, .int x), (2, .int y), (3, .int z)]) hx hb d_M_move_69 hl (by decide) rfl (fun ls hl => ?_)
    refine lv_aload_n hx hb d_M_move_71 rfl (lv_at hl 1 rfl) ?_
    refine lv_iload hx hb d_M_move_72 (lv_at hl 0 rfl) ?_
    refine lv_iconst (v := 1) hx hb d_M_move_74 (by decide) ?_
    refine cW (W.runV (As := [.int (bI (rmB mk mv x y z)), .int (bI true)]) (rest := []) ⟨hx, hb, hml, hown, hts⟩ (c_M_goes hP hdD _ _ (eK 4 (by decide)) b4) (cwV 2 hts (wB_goodV (fun _ h => h) ml_M_98 im_M_goes se_M_goes ini_M co_M_goes) rfl rfl rfl (by decide +kernel) ⟨Nat.le_of_ble_eq_true rfl, Nat.le_of_ble_eq_true rfl⟩) (pV hK hP (ci := 6) (q0 := 0) rfl rfl _) rfl rfl hl.1 rfl (lv_room (Nat.le_of_ble_eq_true rfl)) d_M_move_75 ⟨Nat.zero_le _, Nat.zero_le _⟩) hS (fun _ h => h) (fun H locs hP hS _ _ => ?_)
    have hP : va_P (dC, dI) classes (wM ab cI cZ (va_up mk 6 (nI (kAct (rmB mk mv x y z) true (mn 4)))) mv) H := hP
    have hD : va_D (aN ab 14) (wM ab cI cZ (va_up mk 6 (nI (kAct (rmB mk mv x y z) true (mn 4)))) mv) := wM_D (dD_aN hdD)
    refine lv_if_eq (tgt := 93) hx hb d_M_move_78 (by decide) (fun c_78 => ?_) (fun c_78 => ?_)
    · have hk0 : ¬ (kAct (rmB mk mv x y z) (true) (mn 4)) = 0 := by simpa using bI_0.mp c_78
      have er : (none : Option Value) = none := by rfl
      have hPe : va_P (dC, dI) classes (wM ab cI cZ (maK (kAct (rmB mk mv x y z) (true) (mn 4)) mk mv mn 5 x y z 0 0 0) (maV (kAct (rmB mk mv x y z) (true) (mn 4)) mv mn 5 x y z 0 0 0)) H := by first | (rw [maK, maV, if_neg hk0, if_neg hk0]; exact hP) | (rw [maK, maV, if_pos hk0, if_pos hk0]; exact hP)
      exact W.vret hx hb hr (fun t ht hW => ⟨by rw [er], by rw [ht]; exact hPe, hS.F ht⟩) hS.2.2 d_M_move_93
    · have hk0 : (kAct (rmB mk mv x y z) (true) (mn 4)) = 0 := by simpa using bI_n0.mp c_78
      refine lv_aload_n hx hb d_M_move_81 rfl (lv_at hl 1 rfl) ?_
      refine lv_iconst (v := 5) hx hb d_M_move_82 (by decide) ?_
      refine lv_iload_n hx hb d_M_move_83 rfl (lv_at hl 2 rfl) ?_
      refine lv_iload_n hx hb d_M_move_84 rfl (lv_at hl 3 rfl) ?_
      refine lv_iload_n hx hb d_M_move_85 rfl (lv_at hl 4 rfl) ?_
      refine lv_iconst (v := 0) hx hb d_M_move_86 (by decide) ?_
      refine lv_iconst (v := 0) hx hb d_M_move_87 (by decide) ?_
      refine lv_iconst (v := 0) hx hb d_M_move_88 (by decide) ?_
      refine cW (W.runV (As := [.int 5, .int x, .int y, .int z, .int 0, .int 0, .int 0]) (rest := []) ⟨hx, hb, hml, hown, hts⟩ (c_M_act hP hdD (mn := mn) (d := mn 4) (fun i hi => (va6 (by omega)).trans (eK i (by omega))) ((va6 (by decide)).trans (eK 4 (by decide))) (kAct_lt hk0) _ _ _ _ _ _ _ (hO hk0)) (cwV 7 hts (wB_goodV (fun _ h => h) ml_M_102 im_M_act se_M_act ini_M co_M_act) rfl rfl rfl (by decide +kernel) ⟨Nat.le_of_ble_eq_true rfl, Nat.le_of_ble_eq_true rfl⟩) (pV hK hP (ci := 6) (q0 := 0) rfl rfl _) rfl rfl hl.1 rfl (lv_room (Nat.le_of_ble_eq_true rfl)) d_M_move_89 ⟨Nat.zero_le _, Nat.zero_le _⟩) hS (fun _ h => h) (fun H locs hP hS _ _ => ?_)
      have hP : va_P (dC, dI) classes (wM ab cI cZ (acK (va_up mk 6 (nI (kAct (rmB mk mv x y z) true (mn 4)))) mv mn (mn 4) 5 x y z 0 0 0) (acV mv mn (mn 4) 5 x y z 0 0 0)) H := hP
      have hD : va_D (aN ab 14) (wM ab cI cZ (acK (va_up mk 6 (nI (kAct (rmB mk mv x y z) true (mn 4)))) mv mn (mn 4) 5 x y z 0 0 0) (acV mv mn (mn 4) 5 x y z 0 0 0)) := wM_D (dD_aN hdD)
      refine lv_pop hx hb d_M_move_92 rfl ?_
      have er : (none : Option Value) = none := by rfl
      have hPe : va_P (dC, dI) classes (wM ab cI cZ (maK (kAct (rmB mk mv x y z) (true) (mn 4)) mk mv mn 5 x y z 0 0 0) (maV (kAct (rmB mk mv x y z) (true) (mn 4)) mv mn 5 x y z 0 0 0)) H := by first | (rw [maK, maV, if_neg hk0, if_neg hk0]; exact hP) | (rw [maK, maV, if_pos hk0, if_pos hk0]; exact hP)
      exact W.vret hx hb hr (fun t ht hW => ⟨by rw [er], by rw [ht]; exact hPe, hS.F ht⟩) hS.2.2 d_M_move_93
  refine lv_aload_n hx hb d_M_move_0 rfl (lv_at hl 0 rfl) ?_
  refine lv_iload_n hx hb d_M_move_1 rfl (lv_at hl 1 rfl) ?_
  refine cR (W.runV (As := [.int x]) (rest := []) ⟨hx, hb, hml, hown, hts⟩ (c_M_isWall hP hM x) (cwV 1 hts (wB_goodV (fun _ h => h) ml_M_120 im_M_isWall se_M_isWall ini_M co_M_isWall) rfl rfl rfl (by decide +kernel) ⟨Nat.le_of_ble_eq_true rfl, Nat.le_of_ble_eq_true rfl⟩) (pV hK hP (ci := 6) (q0 := 0) rfl rfl _) rfl rfl hl.1 rfl (lv_room (Nat.le_of_ble_eq_true rfl)) d_M_move_2 ⟨Nat.zero_le _, Nat.zero_le _⟩) ?_
  refine lv_istore (lv' := [(4, .int (bI (mW mk mv x))), (0, .ref (ab 0)), (1, .int x), (2, .int y), (3, .int z)]) hx hb d_M_move_5 hl (by decide) rfl (fun ls hl => ?_)
  refine lv_iload hx hb d_M_move_7 (lv_at hl 0 rfl) ?_
  refine lv_if_eq (tgt := 68) hx hb d_M_move_9 (by decide) (fun c_9 => ?_) (fun c_9 => ?_)
  · have h9 : mW mk mv x = false := bI_0.mp c_9
    refine lv_iconst (v := 0) hx hb d_M_move_68 (by decide) ?_
    try rw [← ej] at hl
    have em : bI (rmB mk mv x y z) = 0 := by first | (simp [bI, rmB, h9]; done) | (rw [rmB, h9, ec]; first | (simp [bI, bI_0.mp c_35]; done) | (simp [bI, bI_n0.mp c_35, bI_0.mp c_61]; done) | (simp [bI, bI_n0.mp c_35, bI_n0.mp c_61]; done))
    exact W.eq (g2 := F0 m 69 ls [.int (bI (rmB mk mv x y z))]) (by rw [em]) (mg_69 ls (lv_sub hl [1, 2, 3, 4] rfl))
  · have h9 : mW mk mv x = true := bI_n0.mp c_9
    obtain ⟨j, hj, ej⟩ := mW_n hM h9
    have ec : x.toNatClampNeg = j := by rw [ej]; exact nI_clamp (by omega)
    rw [ej] at hl
    refine lv_aload_n hx hb d_M_move_12 rfl (lv_at hl 1 rfl) ?_
    refine va_get (D := (dC, dI)) (ci := 6) (v := .ref (ab 6)) (C := R_M) (T := F_M) (N := 20) hx hb hts i_M hown hK hP 0 rfl rfl 11 (by decide) (hts _ fl_M_25) (fun _ h9 => h9) rfl d_M_move_13 ?_
    refine lv_iload_n hx hb d_M_move_16 rfl (lv_at hl 2 rfl) ?_
    refine va_iald hx hb hK hP 6 0 rfl rfl (vp_in_nI (by omega) (by omega)) d_M_move_17 ?_
    rw [nI_clamp (show j < 2 ^ 31 by omega)]
    refine lv_i2l (v := ((mv 4) j).toInt64) hx hb d_M_move_18 rfl ?_
    refine lv_iload_n hx hb d_M_move_19 rfl (lv_at hl 3 rfl) ?_
    refine lv_i2l (v := y.toInt64) hx hb d_M_move_20 rfl ?_
    refine lv_ladd hx hb d_M_move_21 ?_
    refine lv_aload_n hx hb d_M_move_22 rfl (lv_at hl 1 rfl) ?_
    refine va_get (D := (dC, dI)) (ci := 6) (v := .ref (ab 7)) (C := R_M) (T := F_M) (N := 20) hx hb hts i_M hown hK hP 0 rfl rfl 12 (by decide) (hts _ fl_M_28) (fun _ h9 => h9) rfl d_M_move_23 ?_
    refine lv_iload_n hx hb d_M_move_26 rfl (lv_at hl 2 rfl) ?_
    refine va_iald hx hb hK hP 7 0 rfl rfl (vp_in_nI (by omega) (by omega)) d_M_move_27 ?_
    rw [nI_clamp (show j < 2 ^ 31 by omega)]
    refine lv_i2l (v := ((mv 5) j).toInt64) hx hb d_M_move_28 rfl ?_
    refine lv_iload_n hx hb d_M_move_29 rfl (lv_at hl 4 rfl) ?_
    refine lv_i2l (v := z.toInt64) hx hb d_M_move_30 rfl ?_
    refine lv_ladd hx hb d_M_move_31 ?_
    refine cR (W.runS (As := [.long ((((mv 4) j).toInt64) + (y.toInt64)), .long ((((mv 5) j).toInt64) + (z.toInt64))]) (rest := []) ⟨hx, hb, hml, hown, hts⟩ (c_M_isPlace ((((mv 4) j).toInt64) + (y.toInt64)) ((((mv 5) j).toInt64) + (z.toInt64))) (cwS 2 hts (wB_goodS (fun _ h => h) ml_M_116 st_M_isPlace ini_M co_M_isPlace) rfl rfl rfl (by decide +kernel) ⟨Nat.le_of_ble_eq_true rfl, Nat.le_of_ble_eq_true rfl⟩) (pS hK _) rfl rfl hl.1 rfl (lv_room (Nat.le_of_ble_eq_true rfl)) d_M_move_32 ⟨Nat.zero_le _, Nat.zero_le _⟩) ?_
    refine lv_if_eq (tgt := 68) hx hb d_M_move_35 (by decide) (fun c_35 => ?_) (fun c_35 => ?_)
    · refine lv_iconst (v := 0) hx hb d_M_move_68 (by decide) ?_
      try rw [← ej] at hl
      have em : bI (rmB mk mv x y z) = 0 := by first | (simp [bI, rmB, h9]; done) | (rw [rmB, h9, ec]; first | (simp [bI, bI_0.mp c_35]; done) | (simp [bI, bI_n0.mp c_35, bI_0.mp c_61]; done) | (simp [bI, bI_n0.mp c_35, bI_n0.mp c_61]; done))
      exact W.eq (g2 := F0 m 69 ls [.int (bI (rmB mk mv x y z))]) (by rw [em]) (mg_69 ls (lv_sub hl [1, 2, 3, 4] rfl))
    · refine lv_aload_n hx hb d_M_move_38 rfl (lv_at hl 1 rfl) ?_
      refine va_get (D := (dC, dI)) (ci := 6) (v := .ref (ab 8)) (C := R_M) (T := F_M) (N := 20) hx hb hts i_M hown hK hP 0 rfl rfl 13 (by decide) (hts _ fl_M_31) (fun _ h9 => h9) rfl d_M_move_39 ?_
      refine lv_iload_n hx hb d_M_move_42 rfl (lv_at hl 2 rfl) ?_
      refine va_iald hx hb hK hP 8 0 rfl rfl (vp_in_nI (by omega) (by omega)) d_M_move_43 ?_
      rw [nI_clamp (show j < 2 ^ 31 by omega)]
      refine lv_i2l (v := ((mv 6) j).toInt64) hx hb d_M_move_44 rfl ?_
      refine lv_iload_n hx hb d_M_move_45 rfl (lv_at hl 3 rfl) ?_
      refine lv_i2l (v := y.toInt64) hx hb d_M_move_46 rfl ?_
      refine lv_ladd hx hb d_M_move_47 ?_
      refine lv_aload_n hx hb d_M_move_48 rfl (lv_at hl 1 rfl) ?_
      refine va_get (D := (dC, dI)) (ci := 6) (v := .ref (ab 9)) (C := R_M) (T := F_M) (N := 20) hx hb hts i_M hown hK hP 0 rfl rfl 14 (by decide) (hts _ fl_M_34) (fun _ h9 => h9) rfl d_M_move_49 ?_
      refine lv_iload_n hx hb d_M_move_52 rfl (lv_at hl 2 rfl) ?_
      refine va_iald hx hb hK hP 9 0 rfl rfl (vp_in_nI (by omega) (by omega)) d_M_move_53 ?_
      rw [nI_clamp (show j < 2 ^ 31 by omega)]
      refine lv_i2l (v := ((mv 7) j).toInt64) hx hb d_M_move_54 rfl ?_
      refine lv_iload_n hx hb d_M_move_55 rfl (lv_at hl 4 rfl) ?_
      refine lv_i2l (v := z.toInt64) hx hb d_M_move_56 rfl ?_
      refine lv_ladd hx hb d_M_move_57 ?_
      refine cR (W.runS (As := [.long ((((mv 6) j).toInt64) + (y.toInt64)), .long ((((mv 7) j).toInt64) + (z.toInt64))]) (rest := []) ⟨hx, hb, hml, hown, hts⟩ (c_M_isPlace ((((mv 6) j).toInt64) + (y.toInt64)) ((((mv 7) j).toInt64) + (z.toInt64))) (cwS 2 hts (wB_goodS (fun _ h => h) ml_M_116 st_M_isPlace ini_M co_M_isPlace) rfl rfl rfl (by decide +kernel) ⟨Nat.le_of_ble_eq_true rfl, Nat.le_of_ble_eq_true rfl⟩) (pS hK _) rfl rfl hl.1 rfl (lv_room (Nat.le_of_ble_eq_true rfl)) d_M_move_58 ⟨Nat.zero_le _, Nat.zero_le _⟩) ?_
      refine lv_if_eq (tgt := 68) hx hb d_M_move_61 (by decide) (fun c_61 => ?_) (fun c_61 => ?_)
      · refine lv_iconst (v := 0) hx hb d_M_move_68 (by decide) ?_
        try rw [← ej] at hl
        have em : bI (rmB mk mv x y z) = 0 := by first | (simp [bI, rmB, h9]; done) | (rw [rmB, h9, ec]; first | (simp [bI, bI_0.mp c_35]; done) | (simp [bI, bI_n0.mp c_35, bI_0.mp c_61]; done) | (simp [bI, bI_n0.mp c_35, bI_n0.mp c_61]; done))
        exact W.eq (g2 := F0 m 69 ls [.int (bI (rmB mk mv x y z))]) (by rw [em]) (mg_69 ls (lv_sub hl [1, 2, 3, 4] rfl))
      · refine lv_iconst (v := 1) hx hb d_M_move_64 (by decide) ?_
        refine lv_goto (tgt := 69) hx hb d_M_move_65 (by decide) ?_
        try rw [← ej] at hl
        have em : bI (rmB mk mv x y z) = 1 := by first | (simp [bI, rmB, h9]; done) | (rw [rmB, h9, ec]; first | (simp [bI, bI_0.mp c_35]; done) | (simp [bI, bI_n0.mp c_35, bI_0.mp c_61]; done) | (simp [bI, bI_n0.mp c_35, bI_n0.mp c_61]; done))
        exact W.eq (g2 := F0 m 69 ls [.int (bI (rmB mk mv x y z))]) (by rw [em]) (mg_69 ls (lv_sub hl [1, 2, 3, 4] rfl))
set_option maxRecDepth 100000 in
set_option maxHeartbeats 4000000 in
theorem c_M_wall (hP : va_P (dC, dI) classes (wM ab cI cZ mk mv) H) (hdD : dD noT ab 14) (hM : okM mk mn) (x1 x2 x3 x4 x5 x6 : Int32) (hO : (kAct (rwB mk x1 x2 x3 x4 x5 x6) (decide (mn 2 < 40)) (mn 4)) = 0 → okD ((lgV mv (mn 4) 4 x1 x2 x3 x4 x5 x6) 12) (mn 4) (mn, (lgV mv (mn 4) 4 x1 x2 x3 x4 x5 x6))) : Met l y_M_wall (wB y_M_wall b_M_wall 8 (some .int)) ({ frames := 4, cells := 0, slots := 0, locals := 107 } : Room) (rP [.ref (ab 0), .int x1, .int x2, .int x3, .int x4, .int x5, .int x6] H (kK dC dI cI cZ cJ)) (qW (some (.int (maR (kAct (rwB mk x1 x2 x3 x4 x5 x6) (decide (mn 2 < 40)) (mn 4)) mv mn 4 x1 x2 x3 x4 x5 x6))) (aN ab 14) (fun H1 => va_P (dC, dI) classes (wM ab cI cZ (maK (kAct (rwB mk x1 x2 x3 x4 x5 x6) (decide (mn 2 < 40)) (mn 4)) mk mv mn 4 x1 x2 x3 x4 x5 x6) (maV (kAct (rwB mk x1 x2 x3 x4 x5 x6) (decide (mn 2 < 40)) (mn 4)) mv mn 4 x1 x2 x3 x4 x5 x6)) H1)) 0 0 (aN ab 14) := by
  refine Met.ofW (cc := b_M_wall) (maxL := 8) (ret := (some .int)) (by decide) rfl ?_
  intro p e s m args below meth c s₁ B hml hv
  obtain ⟨rfl, rfl, hK⟩ := hv
  have hx := B.exec
  have hb := B.bytes
  have hr := B.returns
  have hts0 := atoms_spec (ws := (wB y_M_wall b_M_wall 8 (some .int))) B.pre
  have hts : ∀ w9 ∈ BG, w9.before [.ref (ab 0), .int x1, .int x2, .int x3, .int x4, .int x5, .int x6].toArray s = true := fun w9 hw9 => hts0 w9 (List.mem_cons_of_mem _ hw9)
  have hown : s.vm.findClass R_M = some m.cls := findClass_of_methodNamed B.named
  have hlocks := B.notSynchronized
  have hK : va_K (dC, dI) classes [(cI, .int), (cZ, .boolean), (cJ, .long)] s := hK
  have hD : va_D (aN ab 14) (wM ab cI cZ mk mv) := wM_D (dD_aN hdD)
  have hS : va_S (aN ab 14) s.heap s.heap [] := va_S.rf
  have hl := lv_entry ([.ref (ab 0), .int x1, .int x2, .int x3, .int x4, .int x5, .int x6]) (n := 8) (Nat.le_of_ble_eq_true rfl)
  rw [lg_entry_eq]
  generalize (lg_sl ([.ref (ab 0), .int x1, .int x2, .int x3, .int x4, .int x5, .int x6]) ++ List.replicate (8 - (lg_sl ([.ref (ab 0), .int x1, .int x2, .int x3, .int x4, .int x5, .int x6])).length) Slot.unset).toArray = ls at hl ⊢
  have hl : lv_has ls 8 [(0, .ref (ab 0)), (1, .int x1), (2, .int x2), (3, .int x3), (4, .int x4), (5, .int x5), (6, .int x6)] := hl
  obtain ⟨eK, b0, b1, b2, b3, b4, b5⟩ := id hM
  have mg_89 : ∀ (ls : Array Slot), lv_has ls 8 [(7, .int (bI (rwB mk x1 x2 x3 x4 x5 x6))), (0, .ref (ab 0)), (1, .int x1), (2, .int x2), (3, .int x3), (4, .int x4), (5, .int x5), (6, .int x6)] → W p l e (headSpec (wB y_M_wall b_M_wall 8 (some .int)) ({ frames := 4, cells := 0, slots := 0, locals := 107 } : Room)).room s m [.ref (ab 0), .int x1, .int x2, .int x3, .int x4, .int x5, .int x6].toArray below meth c s.heap [] 0 0 (MQ below (qW (some (.int (maR (kAct (rwB mk x1 x2 x3 x4 x5 x6) (decide (mn 2 < 40)) (mn 4)) mv mn 4 x1 x2 x3 x4 x5 x6))) (aN ab 14) (fun H1 => va_P (dC, dI) classes (wM ab cI cZ (maK (kAct (rwB mk x1 x2 x3 x4 x5 x6) (decide (mn 2 < 40)) (mn 4)) mk mv mn 4 x1 x2 x3 x4 x5 x6) (maV (kAct (rwB mk x1 x2 x3 x4 x5 x6) (decide (mn 2 < 40)) (mn 4)) mv mn 4 x1 x2 x3 x4 x5 x6)) H1)) [.ref (ab 0), .int x1, .int x2, .int x3, .int x4, .int x5, .int x6].toArray s 0 0 (aN ab 14)) (F0 m 89 ls [.int (bI (decide (mn 2 < 40))), .int (bI (rwB mk x1 x2 x3 x4 x5 x6)), .ref (ab 0)]) := by
    intro ls hl
    refine cW (W.runV (As := [.int (bI (rwB mk x1 x2 x3 x4 x5 x6)), .int (bI (decide (mn 2 < 40)))]) (rest := []) ⟨hx, hb, hml, hown, hts⟩ (c_M_goes hP hdD _ _ (eK 4 (by decide)) b4) (cwV 2 hts (wB_goodV (fun _ h => h) ml_M_98 im_M_goes se_M_goes ini_M co_M_goes) rfl rfl rfl (by decide +kernel) ⟨Nat.le_of_ble_eq_true rfl, Nat.le_of_ble_eq_true rfl⟩) (pV hK hP (ci := 6) (q0 := 0) rfl rfl _) rfl rfl hl.1 rfl (lv_room (Nat.le_of_ble_eq_true rfl)) d_M_wall_89 ⟨Nat.zero_le _, Nat.zero_le _⟩) hS (fun _ h => h) (fun H locs hP hS _ _ => ?_)
    have hP : va_P (dC, dI) classes (wM ab cI cZ (va_up mk 6 (nI (kAct (rwB mk x1 x2 x3 x4 x5 x6) (decide (mn 2 < 40)) (mn 4)))) mv) H := hP
    have hD : va_D (aN ab 14) (wM ab cI cZ (va_up mk 6 (nI (kAct (rwB mk x1 x2 x3 x4 x5 x6) (decide (mn 2 < 40)) (mn 4)))) mv) := wM_D (dD_aN hdD)
    refine lv_if_eq (tgt := 112) hx hb d_M_wall_92 (by decide) (fun c_92 => ?_) (fun c_92 => ?_)
    · have hk0 : ¬ (kAct (rwB mk x1 x2 x3 x4 x5 x6) (decide (mn 2 < 40)) (mn 4)) = 0 := by simpa using bI_0.mp c_92
      refine lv_iconst (v := 0) hx hb d_M_wall_112 (by decide) ?_
      have er : ((some (.int (maR (kAct (rwB mk x1 x2 x3 x4 x5 x6) (decide (mn 2 < 40)) (mn 4)) mv mn 4 x1 x2 x3 x4 x5 x6))) : Option Value) = some (.int 0) := by first | (rw [maR, if_neg hk0]; done) | (rw [maR, if_pos hk0])
      have hPe : va_P (dC, dI) classes (wM ab cI cZ (maK (kAct (rwB mk x1 x2 x3 x4 x5 x6) (decide (mn 2 < 40)) (mn 4)) mk mv mn 4 x1 x2 x3 x4 x5 x6) (maV (kAct (rwB mk x1 x2 x3 x4 x5 x6) (decide (mn 2 < 40)) (mn 4)) mv mn 4 x1 x2 x3 x4 x5 x6)) H := by first | (rw [maK, maV, if_neg hk0, if_neg hk0]; exact hP) | (rw [maK, maV, if_pos hk0, if_pos hk0]; exact hP)
      exact W.iret (v := 0) hx hb hr (fun t ht hW => ⟨by rw [er], by rw [ht]; exact hPe, hS.F ht⟩) hS.2.2 d_M_wall_113
    · have hk0 : (kAct (rwB mk x1 x2 x3 x4 x5 x6) (decide (mn 2 < 40)) (mn 4)) = 0 := by simpa using bI_n0.mp c_92
      refine lv_aload_n hx hb d_M_wall_95 rfl (lv_at hl 1 rfl) ?_
      refine lv_iconst (v := 4) hx hb d_M_wall_96 (by decide) ?_
      refine lv_iload_n hx hb d_M_wall_97 rfl (lv_at hl 2 rfl) ?_
      refine lv_iload_n hx hb d_M_wall_98 rfl (lv_at hl 3 rfl) ?_
      refine lv_iload_n hx hb d_M_wall_99 rfl (lv_at hl 4 rfl) ?_
      refine lv_iload hx hb d_M_wall_100 (lv_at hl 5 rfl) ?_
      refine lv_iload hx hb d_M_wall_102 (lv_at hl 6 rfl) ?_
      refine lv_iload hx hb d_M_wall_104 (lv_at hl 7 rfl) ?_
      refine cW (W.runV (As := [.int 4, .int x1, .int x2, .int x3, .int x4, .int x5, .int x6]) (rest := []) ⟨hx, hb, hml, hown, hts⟩ (c_M_act hP hdD (mn := mn) (d := mn 4) (fun i hi => (va6 (by omega)).trans (eK i (by omega))) ((va6 (by decide)).trans (eK 4 (by decide))) (kAct_lt hk0) _ _ _ _ _ _ _ (hO hk0)) (cwV 7 hts (wB_goodV (fun _ h => h) ml_M_102 im_M_act se_M_act ini_M co_M_act) rfl rfl rfl (by decide +kernel) ⟨Nat.le_of_ble_eq_true rfl, Nat.le_of_ble_eq_true rfl⟩) (pV hK hP (ci := 6) (q0 := 0) rfl rfl _) rfl rfl hl.1 rfl (lv_room (Nat.le_of_ble_eq_true rfl)) d_M_wall_106 ⟨Nat.zero_le _, Nat.zero_le _⟩) hS (fun _ h => h) (fun H locs hP hS _ _ => ?_)
      have hP : va_P (dC, dI) classes (wM ab cI cZ (acK (va_up mk 6 (nI (kAct (rwB mk x1 x2 x3 x4 x5 x6) (decide (mn 2 < 40)) (mn 4)))) mv mn (mn 4) 4 x1 x2 x3 x4 x5 x6) (acV mv mn (mn 4) 4 x1 x2 x3 x4 x5 x6)) H := hP
      have hD : va_D (aN ab 14) (wM ab cI cZ (acK (va_up mk 6 (nI (kAct (rwB mk x1 x2 x3 x4 x5 x6) (decide (mn 2 < 40)) (mn 4)))) mv mn (mn 4) 4 x1 x2 x3 x4 x5 x6) (acV mv mn (mn 4) 4 x1 x2 x3 x4 x5 x6)) := wM_D (dD_aN hdD)
      refine lv_goto (tgt := 113) hx hb d_M_wall_109 (by decide) ?_
      have er : ((some (.int (maR (kAct (rwB mk x1 x2 x3 x4 x5 x6) (decide (mn 2 < 40)) (mn 4)) mv mn 4 x1 x2 x3 x4 x5 x6))) : Option Value) = some (.int (acR mv mn (mn 4) 4 x1 x2 x3 x4 x5 x6)) := by first | (rw [maR, if_neg hk0]; done) | (rw [maR, if_pos hk0])
      have hPe : va_P (dC, dI) classes (wM ab cI cZ (maK (kAct (rwB mk x1 x2 x3 x4 x5 x6) (decide (mn 2 < 40)) (mn 4)) mk mv mn 4 x1 x2 x3 x4 x5 x6) (maV (kAct (rwB mk x1 x2 x3 x4 x5 x6) (decide (mn 2 < 40)) (mn 4)) mv mn 4 x1 x2 x3 x4 x5 x6)) H := by first | (rw [maK, maV, if_neg hk0, if_neg hk0]; exact hP) | (rw [maK, maV, if_pos hk0, if_pos hk0]; exact hP)
      exact W.iret (v := (acR mv mn (mn 4) 4 x1 x2 x3 x4 x5 x6)) hx hb hr (fun t ht hW => ⟨by rw [er], by rw [ht]; exact hPe, hS.F ht⟩) hS.2.2 d_M_wall_113
  have mg_70 : ∀ (ls : Array Slot), lv_has ls 8 [(0, .ref (ab 0)), (1, .int x1), (2, .int x2), (3, .int x3), (4, .int x4), (5, .int x5), (6, .int x6)] → W p l e (headSpec (wB y_M_wall b_M_wall 8 (some .int)) ({ frames := 4, cells := 0, slots := 0, locals := 107 } : Room)).room s m [.ref (ab 0), .int x1, .int x2, .int x3, .int x4, .int x5, .int x6].toArray below meth c s.heap [] 0 0 (MQ below (qW (some (.int (maR (kAct (rwB mk x1 x2 x3 x4 x5 x6) (decide (mn 2 < 40)) (mn 4)) mv mn 4 x1 x2 x3 x4 x5 x6))) (aN ab 14) (fun H1 => va_P (dC, dI) classes (wM ab cI cZ (maK (kAct (rwB mk x1 x2 x3 x4 x5 x6) (decide (mn 2 < 40)) (mn 4)) mk mv mn 4 x1 x2 x3 x4 x5 x6) (maV (kAct (rwB mk x1 x2 x3 x4 x5 x6) (decide (mn 2 < 40)) (mn 4)) mv mn 4 x1 x2 x3 x4 x5 x6)) H1)) [.ref (ab 0), .int x1, .int x2, .int x3, .int x4, .int x5, .int x6].toArray s 0 0 (aN ab 14)) (F0 m 70 ls [.int (bI (rwB mk x1 x2 x3 x4 x5 x6))]) := by
    intro ls hl
    refine lv_istore (lv' := [(7, .int (bI (rwB mk x1 x2 x3 x4 x5 x6))), (0, .ref (ab 0)), (1, .int x1), (2, .int x2), (3, .int x3), (4, .int x4), (5, .int x5), (6, .int x6)]) hx hb d_M_wall_70 hl (by decide) rfl (fun ls hl => ?_)
    refine lv_aload_n hx hb d_M_wall_72 rfl (lv_at hl 1 rfl) ?_
    refine lv_iload hx hb d_M_wall_73 (lv_at hl 0 rfl) ?_
    refine lv_aload_n hx hb d_M_wall_75 rfl (lv_at hl 1 rfl) ?_
    refine va_get (D := (dC, dI)) (ci := 6) (v := .int (nI (mn 2))) (C := R_M) (T := F_M) (N := 20) hx hb hts i_M hown hK hP 0 rfl rfl 8 (by decide) (hts _ fl_M_60) (fun _ h9 => h9) (by rw [← (eK 2 (by decide))]; rfl) d_M_wall_76 ?_
    refine lv_bipush (v := 40) hx hb d_M_wall_79 (by decide) ?_
    refine lv_icmp_ge (tgt := 88) hx hb d_M_wall_81 (by decide) (fun c_81 => ?_) (fun c_81 => ?_)
    · have hs : ¬ mn 2 < 40 := fun h => nI_ge h (by decide) c_81
      refine lv_iconst (v := 0) hx hb d_M_wall_88 (by decide) ?_
      have em : bI (decide (mn 2 < 40)) = 0 := by simp [bI, hs]
      exact W.eq (g2 := F0 m 89 ls [.int (bI (decide (mn 2 < 40))), .int (bI (rwB mk x1 x2 x3 x4 x5 x6)), .ref (ab 0)]) (by rw [em]) (mg_89 ls (lv_sub hl [0, 1, 2, 3, 4, 5, 6, 7] rfl))
    · have hs : mn 2 < 40 := Nat.lt_of_not_le fun h => c_81 (nI_le h (by omega))
      refine lv_iconst (v := 1) hx hb d_M_wall_84 (by decide) ?_
      refine lv_goto (tgt := 89) hx hb d_M_wall_85 (by decide) ?_
      have em : bI (decide (mn 2 < 40)) = 1 := by simp [bI, hs]
      exact W.eq (g2 := F0 m 89 ls [.int (bI (decide (mn 2 < 40))), .int (bI (rwB mk x1 x2 x3 x4 x5 x6)), .ref (ab 0)]) (by rw [em]) (mg_89 ls (lv_sub hl [0, 1, 2, 3, 4, 5, 6, 7] rfl))
  refine lv_aload_n hx hb d_M_wall_0 rfl (lv_at hl 0 rfl) ?_
  refine lv_iload_n hx hb d_M_wall_1 rfl (lv_at hl 1 rfl) ?_
  refine cR (W.runV (As := [.int x1]) (rest := []) ⟨hx, hb, hml, hown, hts⟩ (c_M_isStorey hP x1) (cwV 1 hts (wB_goodV (fun _ h => h) ml_M_106 im_M_isStorey se_M_isStorey ini_M co_M_isStorey) rfl rfl rfl (by decide +kernel) ⟨Nat.le_of_ble_eq_true rfl, Nat.le_of_ble_eq_true rfl⟩) (pV hK hP (ci := 6) (q0 := 0) rfl rfl _) rfl rfl hl.1 rfl (lv_room (Nat.le_of_ble_eq_true rfl)) d_M_wall_2 ⟨Nat.zero_le _, Nat.zero_le _⟩) ?_
  refine lv_if_eq (tgt := 69) hx hb d_M_wall_5 (by decide) (fun c_5 => ?_) (fun c_5 => ?_)
  · refine lv_iconst (v := 0) hx hb d_M_wall_69 (by decide) ?_
    have em : bI (rwB mk x1 x2 x3 x4 x5 x6) = 0 := by rw [rwB, bI_0.mp c_5]; first | rfl | (simp [bI]; done)
    exact W.eq (g2 := F0 m 70 ls [.int (bI (rwB mk x1 x2 x3 x4 x5 x6))]) (by rw [em]) (mg_70 ls (lv_sub hl [0, 1, 2, 3, 4, 5, 6] rfl))
  · refine lv_aload_n hx hb d_M_wall_8 rfl (lv_at hl 0 rfl) ?_
    refine lv_iload_n hx hb d_M_wall_9 rfl (lv_at hl 2 rfl) ?_
    refine cR (W.runV (As := [.int x2]) (rest := []) ⟨hx, hb, hml, hown, hts⟩ (c_M_isType hP x2) (cwV 1 hts (wB_goodV (fun _ h => h) ml_M_113 im_M_isType se_M_isType ini_M co_M_isType) rfl rfl rfl (by decide +kernel) ⟨Nat.le_of_ble_eq_true rfl, Nat.le_of_ble_eq_true rfl⟩) (pV hK hP (ci := 6) (q0 := 0) rfl rfl _) rfl rfl hl.1 rfl (lv_room (Nat.le_of_ble_eq_true rfl)) d_M_wall_10 ⟨Nat.zero_le _, Nat.zero_le _⟩) ?_
    refine lv_if_eq (tgt := 69) hx hb d_M_wall_13 (by decide) (fun c_13 => ?_) (fun c_13 => ?_)
    · refine lv_iconst (v := 0) hx hb d_M_wall_69 (by decide) ?_
      have em : bI (rwB mk x1 x2 x3 x4 x5 x6) = 0 := by rw [rwB, bI_n0.mp c_5, bI_0.mp c_13]; first | rfl | (simp [bI]; done)
      exact W.eq (g2 := F0 m 70 ls [.int (bI (rwB mk x1 x2 x3 x4 x5 x6))]) (by rw [em]) (mg_70 ls (lv_sub hl [0, 1, 2, 3, 4, 5, 6] rfl))
    · refine lv_iload_n hx hb d_M_wall_16 rfl (lv_at hl 3 rfl) ?_
      refine lv_i2l (v := x3.toInt64) hx hb d_M_wall_17 rfl ?_
      refine lv_iload hx hb d_M_wall_18 (lv_at hl 4 rfl) ?_
      refine lv_i2l (v := x4.toInt64) hx hb d_M_wall_20 rfl ?_
      refine cR (W.runS (As := [.long (x3.toInt64), .long (x4.toInt64)]) (rest := []) ⟨hx, hb, hml, hown, hts⟩ (c_M_isPlace (x3.toInt64) (x4.toInt64)) (cwS 2 hts (wB_goodS (fun _ h => h) ml_M_116 st_M_isPlace ini_M co_M_isPlace) rfl rfl rfl (by decide +kernel) ⟨Nat.le_of_ble_eq_true rfl, Nat.le_of_ble_eq_true rfl⟩) (pS hK _) rfl rfl hl.1 rfl (lv_room (Nat.le_of_ble_eq_true rfl)) d_M_wall_21 ⟨Nat.zero_le _, Nat.zero_le _⟩) ?_
      refine lv_if_eq (tgt := 69) hx hb d_M_wall_24 (by decide) (fun c_24 => ?_) (fun c_24 => ?_)
      · refine lv_iconst (v := 0) hx hb d_M_wall_69 (by decide) ?_
        have em : bI (rwB mk x1 x2 x3 x4 x5 x6) = 0 := by rw [rwB, bI_n0.mp c_5, bI_n0.mp c_13, bI_0.mp c_24]; first | rfl | (simp [bI]; done)
        exact W.eq (g2 := F0 m 70 ls [.int (bI (rwB mk x1 x2 x3 x4 x5 x6))]) (by rw [em]) (mg_70 ls (lv_sub hl [0, 1, 2, 3, 4, 5, 6] rfl))
      · refine lv_iload hx hb d_M_wall_27 (lv_at hl 5 rfl) ?_
        refine lv_i2l (v := x5.toInt64) hx hb d_M_wall_29 rfl ?_
        refine lv_iload hx hb d_M_wall_30 (lv_at hl 6 rfl) ?_
        refine lv_i2l (v := x6.toInt64) hx hb d_M_wall_32 rfl ?_
        refine cR (W.runS (As := [.long (x5.toInt64), .long (x6.toInt64)]) (rest := []) ⟨hx, hb, hml, hown, hts⟩ (c_M_isPlace (x5.toInt64) (x6.toInt64)) (cwS 2 hts (wB_goodS (fun _ h => h) ml_M_116 st_M_isPlace ini_M co_M_isPlace) rfl rfl rfl (by decide +kernel) ⟨Nat.le_of_ble_eq_true rfl, Nat.le_of_ble_eq_true rfl⟩) (pS hK _) rfl rfl hl.1 rfl (lv_room (Nat.le_of_ble_eq_true rfl)) d_M_wall_33 ⟨Nat.zero_le _, Nat.zero_le _⟩) ?_
        refine lv_if_eq (tgt := 69) hx hb d_M_wall_36 (by decide) (fun c_36 => ?_) (fun c_36 => ?_)
        · refine lv_iconst (v := 0) hx hb d_M_wall_69 (by decide) ?_
          have em : bI (rwB mk x1 x2 x3 x4 x5 x6) = 0 := by rw [rwB, bI_n0.mp c_5, bI_n0.mp c_13, bI_n0.mp c_24, bI_0.mp c_36]; first | rfl | (simp [bI]; done)
          exact W.eq (g2 := F0 m 70 ls [.int (bI (rwB mk x1 x2 x3 x4 x5 x6))]) (by rw [em]) (mg_70 ls (lv_sub hl [0, 1, 2, 3, 4, 5, 6] rfl))
        · refine lv_iload_n hx hb d_M_wall_39 rfl (lv_at hl 3 rfl) ?_
          refine lv_iload hx hb d_M_wall_40 (lv_at hl 5 rfl) ?_
          refine lv_icmp_ne (tgt := 49) hx hb d_M_wall_42 (by decide) (fun c_42 => ?_) (fun c_42 => ?_)
          · refine lv_iconst (v := 0) hx hb d_M_wall_49 (by decide) ?_
            refine lv_iload hx hb d_M_wall_50 (lv_at hl 4 rfl) ?_
            refine lv_iload hx hb d_M_wall_52 (lv_at hl 6 rfl) ?_
            refine lv_icmp_ne (tgt := 61) hx hb d_M_wall_54 (by decide) (fun c_54 => ?_) (fun c_54 => ?_)
            · refine lv_iconst (v := 0) hx hb d_M_wall_61 (by decide) ?_
              refine lv_icmp_eq (tgt := 69) hx hb d_M_wall_62 (by decide) (fun c_62 => ?_) (fun c_62 => ?_)
              · have h62 : (decide (x3 = x5) != decide (x4 = x6)) = false := by simp [c_42, c_54]
                refine lv_iconst (v := 0) hx hb d_M_wall_69 (by decide) ?_
                have em : bI (rwB mk x1 x2 x3 x4 x5 x6) = 0 := by rw [rwB, bI_n0.mp c_5, bI_n0.mp c_13, bI_n0.mp c_24, bI_n0.mp c_36, h62]; first | rfl | (simp [bI]; done)
                exact W.eq (g2 := F0 m 70 ls [.int (bI (rwB mk x1 x2 x3 x4 x5 x6))]) (by rw [em]) (mg_70 ls (lv_sub hl [0, 1, 2, 3, 4, 5, 6] rfl))
              · exact absurd c_62 (by decide)
            · refine lv_iconst (v := 1) hx hb d_M_wall_57 (by decide) ?_
              refine lv_goto (tgt := 62) hx hb d_M_wall_58 (by decide) ?_
              refine lv_icmp_eq (tgt := 69) hx hb d_M_wall_62 (by decide) (fun c_62 => ?_) (fun c_62 => ?_)
              · exact absurd c_62 (by decide)
              · have h62 : (decide (x3 = x5) != decide (x4 = x6)) = true := by simp [c_42, c_54]
                refine lv_iconst (v := 1) hx hb d_M_wall_65 (by decide) ?_
                refine lv_goto (tgt := 70) hx hb d_M_wall_66 (by decide) ?_
                have em : bI (rwB mk x1 x2 x3 x4 x5 x6) = 1 := by rw [rwB, bI_n0.mp c_5, bI_n0.mp c_13, bI_n0.mp c_24, bI_n0.mp c_36, h62]; first | rfl | (simp [bI]; done)
                exact W.eq (g2 := F0 m 70 ls [.int (bI (rwB mk x1 x2 x3 x4 x5 x6))]) (by rw [em]) (mg_70 ls (lv_sub hl [0, 1, 2, 3, 4, 5, 6] rfl))
          · refine lv_iconst (v := 1) hx hb d_M_wall_45 (by decide) ?_
            refine lv_goto (tgt := 50) hx hb d_M_wall_46 (by decide) ?_
            refine lv_iload hx hb d_M_wall_50 (lv_at hl 4 rfl) ?_
            refine lv_iload hx hb d_M_wall_52 (lv_at hl 6 rfl) ?_
            refine lv_icmp_ne (tgt := 61) hx hb d_M_wall_54 (by decide) (fun c_54 => ?_) (fun c_54 => ?_)
            · refine lv_iconst (v := 0) hx hb d_M_wall_61 (by decide) ?_
              refine lv_icmp_eq (tgt := 69) hx hb d_M_wall_62 (by decide) (fun c_62 => ?_) (fun c_62 => ?_)
              · exact absurd c_62 (by decide)
              · have h62 : (decide (x3 = x5) != decide (x4 = x6)) = true := by simp [c_42, c_54]
                refine lv_iconst (v := 1) hx hb d_M_wall_65 (by decide) ?_
                refine lv_goto (tgt := 70) hx hb d_M_wall_66 (by decide) ?_
                have em : bI (rwB mk x1 x2 x3 x4 x5 x6) = 1 := by rw [rwB, bI_n0.mp c_5, bI_n0.mp c_13, bI_n0.mp c_24, bI_n0.mp c_36, h62]; first | rfl | (simp [bI]; done)
                exact W.eq (g2 := F0 m 70 ls [.int (bI (rwB mk x1 x2 x3 x4 x5 x6))]) (by rw [em]) (mg_70 ls (lv_sub hl [0, 1, 2, 3, 4, 5, 6] rfl))
            · refine lv_iconst (v := 1) hx hb d_M_wall_57 (by decide) ?_
              refine lv_goto (tgt := 62) hx hb d_M_wall_58 (by decide) ?_
              refine lv_icmp_eq (tgt := 69) hx hb d_M_wall_62 (by decide) (fun c_62 => ?_) (fun c_62 => ?_)
              · have h62 : (decide (x3 = x5) != decide (x4 = x6)) = false := by simp [c_42, c_54]
                refine lv_iconst (v := 0) hx hb d_M_wall_69 (by decide) ?_
                have em : bI (rwB mk x1 x2 x3 x4 x5 x6) = 0 := by rw [rwB, bI_n0.mp c_5, bI_n0.mp c_13, bI_n0.mp c_24, bI_n0.mp c_36, h62]; first | rfl | (simp [bI]; done)
                exact W.eq (g2 := F0 m 70 ls [.int (bI (rwB mk x1 x2 x3 x4 x5 x6))]) (by rw [em]) (mg_70 ls (lv_sub hl [0, 1, 2, 3, 4, 5, 6] rfl))
              · exact absurd c_62 (by decide)
end
