section
variable {l : Launch} {dC : Nat → ClassId} {dI : Nat → Nat → Nat} {H : Heap} {ab : Nat → Nat} {cI cZ cJ : ClassId} {mk : Nat → Int32} {mv : Ar} {mn : Nat → Nat}
set_option maxRecDepth 100000 in
set_option maxHeartbeats 4000000 in
theorem c_M_acts (hP : va_P (dC, dI) classes (wM ab cI cZ mk mv) H) (hdD : dD noT ab 14) (hM : okM mk mn) (x : Int32) : Met l y_M_acts (wB y_M_acts b_M_acts 2 (some .int)) ({ frames := 0, cells := 0, slots := 0, locals := 0 } : Room) (rP [.ref (ab 0), .int x] H (kK dC dI cI cZ cJ)) (qW (some (.int (if kTell (decide (x = 0) || decide (x = 1)) = 0 then (if x = 0 then mk 4 else mk 5) else 0))) (aN ab 14) (fun H1 => va_P (dC, dI) classes (wM ab cI cZ (va_up mk 6 (nI (kTell (decide (x = 0) || decide (x = 1))))) mv) H1)) 0 0 (aN ab 14) := by
  refine Met.ofW (cc := b_M_acts) (maxL := 2) (ret := (some .int)) (by decide) rfl ?_
  intro p e s m args below meth c s₁ B hml hv
  obtain ⟨rfl, rfl, hK⟩ := hv
  have hx := B.exec
  have hb := B.bytes
  have hr := B.returns
  have hts0 := atoms_spec (ws := (wB y_M_acts b_M_acts 2 (some .int))) B.pre
  have hts : ∀ w9 ∈ BG, w9.before [.ref (ab 0), .int x].toArray s = true := fun w9 hw9 => hts0 w9 (List.mem_cons_of_mem _ hw9)
  have hown : s.vm.findClass R_M = some m.cls := findClass_of_methodNamed B.named
  have hlocks := B.notSynchronized
  have hK : va_K (dC, dI) classes [(cI, .int), (cZ, .boolean), (cJ, .long)] s := hK
  have hD : va_D (aN ab 14) (wM ab cI cZ mk mv) := wM_D (dD_aN hdD)
  have hS : va_S (aN ab 14) s.heap s.heap [] := va_S.rf
  have hl := lv_entry ([.ref (ab 0), .int x]) (n := 2) (Nat.le_of_ble_eq_true rfl)
  rw [lg_entry_eq]
  generalize (lg_sl ([.ref (ab 0), .int x]) ++ List.replicate (2 - (lg_sl ([.ref (ab 0), .int x])).length) Slot.unset).toArray = ls at hl ⊢
  have hl : lv_has ls 2 [(0, .ref (ab 0)), (1, .int x)] := hl
  obtain ⟨eK, b0, b1, b2, b3, b4, b5⟩ := id hM
  refine lv_aload_n hx hb d_M_acts_0 rfl (lv_at hl 0 rfl) ?_
  refine lv_iload_n hx hb d_M_acts_1 rfl (lv_at hl 1 rfl) ?_
  refine lv_if_eq (tgt := 10) hx hb d_M_acts_2 (by decide) (fun c_2 => ?_) (fun c_2 => ?_)
  · have ekt : kTell (decide (x = 0) || decide (x = 1)) = 0 := by simp [kTell, c_2]
    refine lv_iconst (v := 0) hx hb d_M_acts_10 (by decide) ?_
    refine lv_goto (tgt := 15) hx hb d_M_acts_11 (by decide) ?_
    refine va_put (D := (dC, dI)) (ci := 6) (v := .int 0) (ty := .int) (C := R_M) (T := F_M) (N := 20) hx hb hts i_M ty_M tok_M n_M hown hK hP hD hS 0 rfl rfl 0 (by decide) (hts _ fl_M_50) (fun _ h9 => h9) rfl (by decide +kernel) rfl rfl (Nat.le_of_ble_eq_true rfl) d_M_acts_15 (fun H locs hP hD hS => ?_)
    have hP : va_P (dC, dI) classes (wM ab cI cZ (va_up mk 6 0) mv) H := hP
    have hD : va_D (aN ab 14) (wM ab cI cZ (va_up mk 6 0) mv) := hD
    refine lv_aload_n hx hb d_M_acts_18 rfl (lv_at hl 0 rfl) ?_
    refine va_get (D := (dC, dI)) (ci := 6) (v := .int 0) (C := R_M) (T := F_M) (N := 20) hx hb hts i_M hown hK hP 0 rfl rfl 0 (by decide) (hts _ fl_M_50) (fun _ h9 => h9) rfl d_M_acts_19 ?_
    refine lv_if_le (tgt := 29) hx hb d_M_acts_22 (by decide) (fun c_22 => ?_) (fun c_22 => ?_)
    · refine lv_iload_n hx hb d_M_acts_29 rfl (lv_at hl 1 rfl) ?_
      refine lv_if_ne (tgt := 40) hx hb d_M_acts_30 (by decide) (fun c_30 => ?_) (fun c_30 => ?_)
      · exact absurd c_30 (fun h => h c_2)
      · refine lv_aload_n hx hb d_M_acts_33 rfl (lv_at hl 0 rfl) ?_
        refine va_get (D := (dC, dI)) (ci := 6) (v := .int (mk 4)) (C := R_M) (T := F_M) (N := 20) hx hb hts i_M hown hK hP 0 rfl rfl 2 (by decide) (hts _ fl_M_71) (fun _ h9 => h9) rfl d_M_acts_34 ?_
        refine lv_goto (tgt := 44) hx hb d_M_acts_37 (by decide) ?_
        have er : ((some (.int (if kTell (decide (x = 0) || decide (x = 1)) = 0 then (if x = 0 then mk 4 else mk 5) else 0))) : Option Value) = some (.int (mk 4)) := by rw [ekt]; first | rfl | (simp [c_2, c_22, c_30]; done)
        have hPe : va_P (dC, dI) classes (wM ab cI cZ (va_up mk 6 (nI (kTell (decide (x = 0) || decide (x = 1))))) mv) H := by rw [ekt]; exact hP
        exact W.iret (v := (mk 4)) hx hb hr (fun t ht hW => ⟨by rw [er], by rw [ht]; exact hPe, hS.F ht⟩) hS.2.2 d_M_acts_44
    · exact absurd c_22 (by decide)
  · refine lv_iload_n hx hb d_M_acts_5 rfl (lv_at hl 1 rfl) ?_
    refine lv_iconst (v := 1) hx hb d_M_acts_6 (by decide) ?_
    refine lv_icmp_ne (tgt := 14) hx hb d_M_acts_7 (by decide) (fun c_7 => ?_) (fun c_7 => ?_)
    · have ekt : kTell (decide (x = 0) || decide (x = 1)) = 1 := by simp [kTell, c_2, c_7]
      refine lv_iconst (v := 1) hx hb d_M_acts_14 (by decide) ?_
      refine va_put (D := (dC, dI)) (ci := 6) (v := .int 1) (ty := .int) (C := R_M) (T := F_M) (N := 20) hx hb hts i_M ty_M tok_M n_M hown hK hP hD hS 0 rfl rfl 0 (by decide) (hts _ fl_M_50) (fun _ h9 => h9) rfl (by decide +kernel) rfl rfl (Nat.le_of_ble_eq_true rfl) d_M_acts_15 (fun H locs hP hD hS => ?_)
      have hP : va_P (dC, dI) classes (wM ab cI cZ (va_up mk 6 1) mv) H := hP
      have hD : va_D (aN ab 14) (wM ab cI cZ (va_up mk 6 1) mv) := hD
      refine lv_aload_n hx hb d_M_acts_18 rfl (lv_at hl 0 rfl) ?_
      refine va_get (D := (dC, dI)) (ci := 6) (v := .int 1) (C := R_M) (T := F_M) (N := 20) hx hb hts i_M hown hK hP 0 rfl rfl 0 (by decide) (hts _ fl_M_50) (fun _ h9 => h9) rfl d_M_acts_19 ?_
      refine lv_if_le (tgt := 29) hx hb d_M_acts_22 (by decide) (fun c_22 => ?_) (fun c_22 => ?_)
      · exact absurd c_22 (by decide)
      · refine lv_iconst (v := 0) hx hb d_M_acts_25 (by decide) ?_
        refine lv_goto (tgt := 44) hx hb d_M_acts_26 (by decide) ?_
        have er : ((some (.int (if kTell (decide (x = 0) || decide (x = 1)) = 0 then (if x = 0 then mk 4 else mk 5) else 0))) : Option Value) = some (.int 0) := by rw [ekt]; first | rfl | (simp [c_2, c_7, c_22]; done)
        have hPe : va_P (dC, dI) classes (wM ab cI cZ (va_up mk 6 (nI (kTell (decide (x = 0) || decide (x = 1))))) mv) H := by rw [ekt]; exact hP
        exact W.iret (v := 0) hx hb hr (fun t ht hW => ⟨by rw [er], by rw [ht]; exact hPe, hS.F ht⟩) hS.2.2 d_M_acts_44
    · have c_7 : x = 1 := by simpa using c_7
      have ekt : kTell (decide (x = 0) || decide (x = 1)) = 0 := by simp [kTell, c_7]
      refine lv_iconst (v := 0) hx hb d_M_acts_10 (by decide) ?_
      refine lv_goto (tgt := 15) hx hb d_M_acts_11 (by decide) ?_
      refine va_put (D := (dC, dI)) (ci := 6) (v := .int 0) (ty := .int) (C := R_M) (T := F_M) (N := 20) hx hb hts i_M ty_M tok_M n_M hown hK hP hD hS 0 rfl rfl 0 (by decide) (hts _ fl_M_50) (fun _ h9 => h9) rfl (by decide +kernel) rfl rfl (Nat.le_of_ble_eq_true rfl) d_M_acts_15 (fun H locs hP hD hS => ?_)
      have hP : va_P (dC, dI) classes (wM ab cI cZ (va_up mk 6 0) mv) H := hP
      have hD : va_D (aN ab 14) (wM ab cI cZ (va_up mk 6 0) mv) := hD
      refine lv_aload_n hx hb d_M_acts_18 rfl (lv_at hl 0 rfl) ?_
      refine va_get (D := (dC, dI)) (ci := 6) (v := .int 0) (C := R_M) (T := F_M) (N := 20) hx hb hts i_M hown hK hP 0 rfl rfl 0 (by decide) (hts _ fl_M_50) (fun _ h9 => h9) rfl d_M_acts_19 ?_
      refine lv_if_le (tgt := 29) hx hb d_M_acts_22 (by decide) (fun c_22 => ?_) (fun c_22 => ?_)
      · refine lv_iload_n hx hb d_M_acts_29 rfl (lv_at hl 1 rfl) ?_
        refine lv_if_ne (tgt := 40) hx hb d_M_acts_30 (by decide) (fun c_30 => ?_) (fun c_30 => ?_)
        · refine lv_aload_n hx hb d_M_acts_40 rfl (lv_at hl 0 rfl) ?_
          refine va_get (D := (dC, dI)) (ci := 6) (v := .int (mk 5)) (C := R_M) (T := F_M) (N := 20) hx hb hts i_M hown hK hP 0 rfl rfl 3 (by decide) (hts _ fl_M_74) (fun _ h9 => h9) rfl d_M_acts_41 ?_
          have er : ((some (.int (if kTell (decide (x = 0) || decide (x = 1)) = 0 then (if x = 0 then mk 4 else mk 5) else 0))) : Option Value) = some (.int (mk 5)) := by rw [ekt]; first | rfl | (simp [c_2, c_7, c_22, c_30]; done)
          have hPe : va_P (dC, dI) classes (wM ab cI cZ (va_up mk 6 (nI (kTell (decide (x = 0) || decide (x = 1))))) mv) H := by rw [ekt]; exact hP
          exact W.iret (v := (mk 5)) hx hb hr (fun t ht hW => ⟨by rw [er], by rw [ht]; exact hPe, hS.F ht⟩) hS.2.2 d_M_acts_44
        · exact absurd c_30 (c_2)
      · exact absurd c_22 (by decide)
set_option maxRecDepth 100000 in
set_option maxHeartbeats 4000000 in
theorem c_M_many (hP : va_P (dC, dI) classes (wM ab cI cZ mk mv) H) (hdD : dD noT ab 14) (hM : okM mk mn) (x : Int32) : Met l y_M_many (wB y_M_many b_M_many 2 (some .int)) ({ frames := 1, cells := 0, slots := 0, locals := 25 } : Room) (rP [.ref (ab 0), .int x] H (kK dC dI cI cZ cJ)) (qW (some (.int (if (inB x.toInt64 0 3) = true then (if x = 0 then mk 0 else if x = 1 then mk 1 else if x = 2 then mk 2 else mk 3) else 0))) (aN ab 14) (fun H1 => va_P (dC, dI) classes (wM ab cI cZ (va_up mk 6 (nI (kTell (inB x.toInt64 0 3)))) mv) H1)) 0 0 (aN ab 14) := by
  refine Met.ofW (cc := b_M_many) (maxL := 2) (ret := (some .int)) (by decide) rfl ?_
  intro p e s m args below meth c s₁ B hml hv
  obtain ⟨rfl, rfl, hK⟩ := hv
  have hx := B.exec
  have hb := B.bytes
  have hr := B.returns
  have hts0 := atoms_spec (ws := (wB y_M_many b_M_many 2 (some .int))) B.pre
  have hts : ∀ w9 ∈ BG, w9.before [.ref (ab 0), .int x].toArray s = true := fun w9 hw9 => hts0 w9 (List.mem_cons_of_mem _ hw9)
  have hown : s.vm.findClass R_M = some m.cls := findClass_of_methodNamed B.named
  have hlocks := B.notSynchronized
  have hK : va_K (dC, dI) classes [(cI, .int), (cZ, .boolean), (cJ, .long)] s := hK
  have hD : va_D (aN ab 14) (wM ab cI cZ mk mv) := wM_D (dD_aN hdD)
  have hS : va_S (aN ab 14) s.heap s.heap [] := va_S.rf
  have hl := lv_entry ([.ref (ab 0), .int x]) (n := 2) (Nat.le_of_ble_eq_true rfl)
  rw [lg_entry_eq]
  generalize (lg_sl ([.ref (ab 0), .int x]) ++ List.replicate (2 - (lg_sl ([.ref (ab 0), .int x])).length) Slot.unset).toArray = ls at hl ⊢
  have hl : lv_has ls 2 [(0, .ref (ab 0)), (1, .int x)] := hl
  obtain ⟨eK, b0, b1, b2, b3, b4, b5⟩ := id hM
  have hM6 := @okM_6 mk mn
  refine lv_aload_n hx hb d_M_many_0 rfl (lv_at hl 0 rfl) ?_
  refine lv_iload_n hx hb d_M_many_1 rfl (lv_at hl 1 rfl) ?_
  refine lv_i2l (v := x.toInt64) hx hb d_M_many_2 rfl ?_
  refine lv_lconst (v := 0) hx hb d_M_many_3 (by decide) ?_
  refine lv_ldc2 (v := 3) hx hb hown (hts _ kl_M_146) d_M_many_4 ?_
  refine cR (W.runS (As := [.long (x.toInt64), .long 0, .long 3]) (rest := [.ref (ab 0)]) ⟨hx, hb, hml, hown, hts⟩ (c_M_isIn (x.toInt64) 0 3) (cwS 3 hts (wB_goodS (fun _ h => h) ml_M_67 st_M_isIn ini_M co_M_isIn) rfl rfl rfl (by decide +kernel) ⟨Nat.le_of_ble_eq_true rfl, Nat.le_of_ble_eq_true rfl⟩) (pS hK _) rfl rfl hl.1 rfl (lv_room (Nat.le_of_ble_eq_true rfl)) d_M_many_7 ⟨Nat.zero_le _, Nat.zero_le _⟩) ?_
  refine cW (W.runV (As := [.int (bI (inB (x.toInt64) 0 3))]) (rest := []) ⟨hx, hb, hml, hown, hts⟩ (c_M_tells hP hdD (inB (x.toInt64) 0 3)) (cwV 1 hts (wB_goodV (fun _ h => h) ml_M_148 im_M_tells se_M_tells ini_M co_M_tells) rfl rfl rfl (by decide +kernel) ⟨Nat.le_of_ble_eq_true rfl, Nat.le_of_ble_eq_true rfl⟩) (pV hK hP (ci := 6) (q0 := 0) rfl rfl _) rfl rfl hl.1 rfl (lv_room (Nat.le_of_ble_eq_true rfl)) d_M_many_10 ⟨Nat.zero_le _, Nat.zero_le _⟩) hS (fun _ h => h) (fun H locs hP hS _ _ => ?_)
  have hP : va_P (dC, dI) classes (wM ab cI cZ (va_up mk 6 (nI (kTell (inB (x.toInt64) 0 3)))) mv) H := hP
  have hD : va_D (aN ab 14) (wM ab cI cZ (va_up mk 6 (nI (kTell (inB (x.toInt64) 0 3)))) mv) := wM_D (dD_aN hdD)
  refine lv_if_ne (tgt := 18) hx hb d_M_many_13 (by decide) (fun c_13 => ?_) (fun c_13 => ?_)
  · have hR : (inB x.toInt64 0 3) = true := bI_n0.mp c_13
    refine lv_iload_n hx hb d_M_many_18 rfl (lv_at hl 1 rfl) ?_
    refine lv_if_ne (tgt := 29) hx hb d_M_many_19 (by decide) (fun c_19 => ?_) (fun c_19 => ?_)
    · refine lv_iload_n hx hb d_M_many_29 rfl (lv_at hl 1 rfl) ?_
      refine lv_iconst (v := 1) hx hb d_M_many_30 (by decide) ?_
      refine lv_icmp_ne (tgt := 41) hx hb d_M_many_31 (by decide) (fun c_31 => ?_) (fun c_31 => ?_)
      · refine lv_iload_n hx hb d_M_many_41 rfl (lv_at hl 1 rfl) ?_
        refine lv_iconst (v := 2) hx hb d_M_many_42 (by decide) ?_
        refine lv_icmp_ne (tgt := 53) hx hb d_M_many_43 (by decide) (fun c_43 => ?_) (fun c_43 => ?_)
        · refine lv_aload_n hx hb d_M_many_53 rfl (lv_at hl 0 rfl) ?_
          refine va_get (D := (dC, dI)) (ci := 6) (v := .int ((va_up mk 6 (nI (kTell (inB (x.toInt64) 0 3)))) 3)) (C := R_M) (T := F_M) (N := 20) hx hb hts i_M hown hK hP 0 rfl rfl 16 (by decide) (hts _ fl_M_81) (fun _ h9 => h9) rfl d_M_many_54 ?_
          have er : ((some (.int (if (inB x.toInt64 0 3) = true then (if x = 0 then mk 0 else if x = 1 then mk 1 else if x = 2 then mk 2 else mk 3) else 0))) : Option Value) = some (.int ((va_up mk 6 (nI (kTell (inB (x.toInt64) 0 3)))) 3)) := by first | (rw [if_neg (by rw [hR]; decide)]; done) | (rw [if_pos hR]; first | (rw [if_pos c_19]; rfl) | (rw [if_neg c_19, if_pos c_31]; rfl) | (rw [if_neg c_19, if_neg c_31, if_pos c_43]; rfl) | (rw [if_neg c_19, if_neg c_31, if_neg c_43]; rfl))
          have hPe : va_P (dC, dI) classes (wM ab cI cZ (va_up mk 6 (nI (kTell (inB x.toInt64 0 3)))) mv) H := by exact hP
          exact W.iret (v := ((va_up mk 6 (nI (kTell (inB (x.toInt64) 0 3)))) 3)) hx hb hr (fun t ht hW => ⟨by rw [er], by rw [ht]; exact hPe, hS.F ht⟩) hS.2.2 d_M_many_57
        · refine lv_aload_n hx hb d_M_many_46 rfl (lv_at hl 0 rfl) ?_
          refine va_get (D := (dC, dI)) (ci := 6) (v := .int ((va_up mk 6 (nI (kTell (inB (x.toInt64) 0 3)))) 2)) (C := R_M) (T := F_M) (N := 20) hx hb hts i_M hown hK hP 0 rfl rfl 8 (by decide) (hts _ fl_M_60) (fun _ h9 => h9) rfl d_M_many_47 ?_
          refine lv_goto (tgt := 57) hx hb d_M_many_50 (by decide) ?_
          have er : ((some (.int (if (inB x.toInt64 0 3) = true then (if x = 0 then mk 0 else if x = 1 then mk 1 else if x = 2 then mk 2 else mk 3) else 0))) : Option Value) = some (.int ((va_up mk 6 (nI (kTell (inB (x.toInt64) 0 3)))) 2)) := by first | (rw [if_neg (by rw [hR]; decide)]; done) | (rw [if_pos hR]; first | (rw [if_pos c_19]; rfl) | (rw [if_neg c_19, if_pos c_31]; rfl) | (rw [if_neg c_19, if_neg c_31, if_pos c_43]; rfl) | (rw [if_neg c_19, if_neg c_31, if_neg c_43]; rfl))
          have hPe : va_P (dC, dI) classes (wM ab cI cZ (va_up mk 6 (nI (kTell (inB x.toInt64 0 3)))) mv) H := by exact hP
          exact W.iret (v := ((va_up mk 6 (nI (kTell (inB (x.toInt64) 0 3)))) 2)) hx hb hr (fun t ht hW => ⟨by rw [er], by rw [ht]; exact hPe, hS.F ht⟩) hS.2.2 d_M_many_57
      · refine lv_aload_n hx hb d_M_many_34 rfl (lv_at hl 0 rfl) ?_
        refine va_get (D := (dC, dI)) (ci := 6) (v := .int ((va_up mk 6 (nI (kTell (inB (x.toInt64) 0 3)))) 1)) (C := R_M) (T := F_M) (N := 20) hx hb hts i_M hown hK hP 0 rfl rfl 6 (by decide) (hts _ fl_M_57) (fun _ h9 => h9) rfl d_M_many_35 ?_
        refine lv_goto (tgt := 57) hx hb d_M_many_38 (by decide) ?_
        have er : ((some (.int (if (inB x.toInt64 0 3) = true then (if x = 0 then mk 0 else if x = 1 then mk 1 else if x = 2 then mk 2 else mk 3) else 0))) : Option Value) = some (.int ((va_up mk 6 (nI (kTell (inB (x.toInt64) 0 3)))) 1)) := by first | (rw [if_neg (by rw [hR]; decide)]; done) | (rw [if_pos hR]; first | (rw [if_pos c_19]; rfl) | (rw [if_neg c_19, if_pos c_31]; rfl) | (rw [if_neg c_19, if_neg c_31, if_pos c_43]; rfl) | (rw [if_neg c_19, if_neg c_31, if_neg c_43]; rfl))
        have hPe : va_P (dC, dI) classes (wM ab cI cZ (va_up mk 6 (nI (kTell (inB x.toInt64 0 3)))) mv) H := by exact hP
        exact W.iret (v := ((va_up mk 6 (nI (kTell (inB (x.toInt64) 0 3)))) 1)) hx hb hr (fun t ht hW => ⟨by rw [er], by rw [ht]; exact hPe, hS.F ht⟩) hS.2.2 d_M_many_57
    · refine lv_aload_n hx hb d_M_many_22 rfl (lv_at hl 0 rfl) ?_
      refine va_get (D := (dC, dI)) (ci := 6) (v := .int ((va_up mk 6 (nI (kTell (inB (x.toInt64) 0 3)))) 0)) (C := R_M) (T := F_M) (N := 20) hx hb hts i_M hown hK hP 0 rfl rfl 4 (by decide) (hts _ fl_M_54) (fun _ h9 => h9) rfl d_M_many_23 ?_
      refine lv_goto (tgt := 57) hx hb d_M_many_26 (by decide) ?_
      have er : ((some (.int (if (inB x.toInt64 0 3) = true then (if x = 0 then mk 0 else if x = 1 then mk 1 else if x = 2 then mk 2 else mk 3) else 0))) : Option Value) = some (.int ((va_up mk 6 (nI (kTell (inB (x.toInt64) 0 3)))) 0)) := by first | (rw [if_neg (by rw [hR]; decide)]; done) | (rw [if_pos hR]; first | (rw [if_pos c_19]; rfl) | (rw [if_neg c_19, if_pos c_31]; rfl) | (rw [if_neg c_19, if_neg c_31, if_pos c_43]; rfl) | (rw [if_neg c_19, if_neg c_31, if_neg c_43]; rfl))
      have hPe : va_P (dC, dI) classes (wM ab cI cZ (va_up mk 6 (nI (kTell (inB x.toInt64 0 3)))) mv) H := by exact hP
      exact W.iret (v := ((va_up mk 6 (nI (kTell (inB (x.toInt64) 0 3)))) 0)) hx hb hr (fun t ht hW => ⟨by rw [er], by rw [ht]; exact hPe, hS.F ht⟩) hS.2.2 d_M_many_57
  · have hR : (inB x.toInt64 0 3) = false := bI_0.mp c_13
    refine lv_iconst (v := 0) hx hb d_M_many_16 (by decide) ?_
    have er : ((some (.int (if (inB x.toInt64 0 3) = true then (if x = 0 then mk 0 else if x = 1 then mk 1 else if x = 2 then mk 2 else mk 3) else 0))) : Option Value) = some (.int 0) := by first | (rw [if_neg (by rw [hR]; decide)]; done) | (rw [if_pos hR]; first | (rw [if_pos c_19]; rfl) | (rw [if_neg c_19, if_pos c_31]; rfl) | (rw [if_neg c_19, if_neg c_31, if_pos c_43]; rfl) | (rw [if_neg c_19, if_neg c_31, if_neg c_43]; rfl))
    have hPe : va_P (dC, dI) classes (wM ab cI cZ (va_up mk 6 (nI (kTell (inB x.toInt64 0 3)))) mv) H := by exact hP
    exact W.iret (v := 0) hx hb hr (fun t ht hW => ⟨by rw [er], by rw [ht]; exact hPe, hS.F ht⟩) hS.2.2 d_M_many_17
set_option maxRecDepth 100000 in
set_option maxHeartbeats 4000000 in
theorem c_M_wallAt (hP : va_P (dC, dI) classes (wM ab cI cZ mk mv) H) (hdD : dD noT ab 14) (hM : okM mk mn) (hV : okV mn mv) (x y : Int32) : Met l y_M_wallAt (wB y_M_wallAt b_M_wallAt 3 (some .long)) ({ frames := 4, cells := 0, slots := 0, locals := 94 } : Room) (rP [.ref (ab 0), .int x, .int y] H (kK dC dI cI cZ cJ)) (qW (some (.long (if (mW mk mv x && inB y.toInt64 0 9) = true then waM mk mv mn x.toNatClampNeg y else 0))) (aN ab 14) (fun H1 => va_P (dC, dI) classes (wM ab cI cZ (va_up mk 6 (nI (kTell (mW mk mv x && inB y.toInt64 0 9)))) mv) H1)) 0 0 (aN ab 14) := by
  refine Met.ofW (cc := b_M_wallAt) (maxL := 3) (ret := (some .long)) (by decide) rfl ?_
  intro p e s m args below meth c s₁ B hml hv
  obtain ⟨rfl, rfl, hK⟩ := hv
  have hx := B.exec
  have hb := B.bytes
  have hr := B.returns
  have hts0 := atoms_spec (ws := (wB y_M_wallAt b_M_wallAt 3 (some .long))) B.pre
  have hts : ∀ w9 ∈ BG, w9.before [.ref (ab 0), .int x, .int y].toArray s = true := fun w9 hw9 => hts0 w9 (List.mem_cons_of_mem _ hw9)
  have hown : s.vm.findClass R_M = some m.cls := findClass_of_methodNamed B.named
  have hlocks := B.notSynchronized
  have hK : va_K (dC, dI) classes [(cI, .int), (cZ, .boolean), (cJ, .long)] s := hK
  have hD : va_D (aN ab 14) (wM ab cI cZ mk mv) := wM_D (dD_aN hdD)
  have hS : va_S (aN ab 14) s.heap s.heap [] := va_S.rf
  have hl := lv_entry ([.ref (ab 0), .int x, .int y]) (n := 3) (Nat.le_of_ble_eq_true rfl)
  rw [lg_entry_eq]
  generalize (lg_sl ([.ref (ab 0), .int x, .int y]) ++ List.replicate (3 - (lg_sl ([.ref (ab 0), .int x, .int y])).length) Slot.unset).toArray = ls at hl ⊢
  have hl : lv_has ls 3 [(0, .ref (ab 0)), (1, .int x), (2, .int y)] := hl
  obtain ⟨eK, b0, b1, b2, b3, b4, b5⟩ := id hM
  have hM6 := @okM_6 mk mn
  have mg_26 : ∀ (ls : Array Slot), lv_has ls 3 [(0, .ref (ab 0)), (1, .int x), (2, .int y)] → W p l e (headSpec (wB y_M_wallAt b_M_wallAt 3 (some .long)) ({ frames := 4, cells := 0, slots := 0, locals := 94 } : Room)).room s m [.ref (ab 0), .int x, .int y].toArray below meth c s.heap [] 0 0 (MQ below (qW (some (.long (if (mW mk mv x && inB y.toInt64 0 9) = true then waM mk mv mn x.toNatClampNeg y else 0))) (aN ab 14) (fun H1 => va_P (dC, dI) classes (wM ab cI cZ (va_up mk 6 (nI (kTell (mW mk mv x && inB y.toInt64 0 9)))) mv) H1)) [.ref (ab 0), .int x, .int y].toArray s 0 0 (aN ab 14)) (F0 m 26 ls [.int (bI (mW mk mv x && inB y.toInt64 0 9)), .ref (ab 0)]) := by
    intro ls hl
    refine cW (W.runV (As := [.int (bI (mW mk mv x && inB y.toInt64 0 9))]) (rest := []) ⟨hx, hb, hml, hown, hts⟩ (c_M_tells hP hdD (mW mk mv x && inB y.toInt64 0 9)) (cwV 1 hts (wB_goodV (fun _ h => h) ml_M_148 im_M_tells se_M_tells ini_M co_M_tells) rfl rfl rfl (by decide +kernel) ⟨Nat.le_of_ble_eq_true rfl, Nat.le_of_ble_eq_true rfl⟩) (pV hK hP (ci := 6) (q0 := 0) rfl rfl _) rfl rfl hl.1 rfl (lv_room (Nat.le_of_ble_eq_true rfl)) d_M_wallAt_26 ⟨Nat.zero_le _, Nat.zero_le _⟩) hS (fun _ h => h) (fun H locs hP hS _ _ => ?_)
    have hP : va_P (dC, dI) classes (wM ab cI cZ (va_up mk 6 (nI (kTell (mW mk mv x && inB y.toInt64 0 9)))) mv) H := hP
    have hD : va_D (aN ab 14) (wM ab cI cZ (va_up mk 6 (nI (kTell (mW mk mv x && inB y.toInt64 0 9)))) mv) := wM_D (dD_aN hdD)
    refine lv_if_ne (tgt := 34) hx hb d_M_wallAt_29 (by decide) (fun c_29 => ?_) (fun c_29 => ?_)
    · have hR : (mW mk mv x && inB y.toInt64 0 9) = true := bI_n0.mp c_29
      obtain ⟨j, hj, ej⟩ := mW_n hM (Bool.and_eq_true _ _ ▸ hR).1
      have ec : x.toNatClampNeg = j := by rw [ej]; exact nI_clamp (by omega)
      rw [ej] at hl
      refine lv_iload_n hx hb d_M_wallAt_34 rfl (lv_at hl 2 rfl) ?_
      obtain ⟨jj, hjj, ejj⟩ := inB_n (n := 9) (by decide) rfl (Bool.and_eq_true _ _ ▸ hR).2
      match jj, hjj, ejj with
      | 0, _, ejj =>
        refine lv_tableIn (off := 49) (tgt := 84) hx hb d_M_wallAt_35 (by rw [ejj]; decide) (by rw [ejj]; decide) (by rw [ejj]; decide) (by decide) ?_
        refine lv_aload_n hx hb d_M_wallAt_84 rfl (lv_at hl 0 rfl) ?_
        refine va_get (D := (dC, dI)) (ci := 6) (v := .ref (ab 4)) (C := R_M) (T := F_M) (N := 20) hx hb hts i_M hown hK hP 0 rfl rfl 9 (by decide) (hts _ fl_M_19) (fun _ h9 => h9) rfl d_M_wallAt_85 ?_
        refine lv_iload_n hx hb d_M_wallAt_88 rfl (lv_at hl 1 rfl) ?_
        refine va_iald hx hb hK hP 4 0 rfl rfl (vp_in_nI (by omega) (by omega)) d_M_wallAt_89 ?_
        rw [nI_clamp (show j < 2 ^ 31 by omega)]
        refine lv_i2l (v := ((mv 2) j).toInt64) hx hb d_M_wallAt_90 rfl ?_
        have er : ((some (.long (if (mW mk mv x && inB y.toInt64 0 9) = true then waM mk mv mn x.toNatClampNeg y else 0))) : Option Value) = some (.long (((mv 2) j).toInt64)) := by first | (rw [if_neg (by rw [hR]; decide)]; done) | (rw [if_pos hR, ec, ejj]; rfl)
        have hPe : va_P (dC, dI) classes (wM ab cI cZ (va_up mk 6 (nI (kTell (mW mk mv x && inB y.toInt64 0 9)))) mv) H := by exact hP
        exact W.lret (v := (((mv 2) j).toInt64)) hx hb hr (fun t ht hW => ⟨by rw [er], by rw [ht]; exact hPe, hS.F ht⟩) hS.2.2 d_M_wallAt_91
      | 1, _, ejj =>
        refine lv_tableIn (off := 57) (tgt := 92) hx hb d_M_wallAt_35 (by rw [ejj]; decide) (by rw [ejj]; decide) (by rw [ejj]; decide) (by decide) ?_
        refine lv_aload_n hx hb d_M_wallAt_92 rfl (lv_at hl 0 rfl) ?_
        refine va_get (D := (dC, dI)) (ci := 6) (v := .ref (ab 5)) (C := R_M) (T := F_M) (N := 20) hx hb hts i_M hown hK hP 0 rfl rfl 10 (by decide) (hts _ fl_M_22) (fun _ h9 => h9) rfl d_M_wallAt_93 ?_
        refine lv_iload_n hx hb d_M_wallAt_96 rfl (lv_at hl 1 rfl) ?_
        refine va_iald hx hb hK hP 5 0 rfl rfl (vp_in_nI (by omega) (by omega)) d_M_wallAt_97 ?_
        rw [nI_clamp (show j < 2 ^ 31 by omega)]
        refine lv_i2l (v := ((mv 3) j).toInt64) hx hb d_M_wallAt_98 rfl ?_
        have er : ((some (.long (if (mW mk mv x && inB y.toInt64 0 9) = true then waM mk mv mn x.toNatClampNeg y else 0))) : Option Value) = some (.long (((mv 3) j).toInt64)) := by first | (rw [if_neg (by rw [hR]; decide)]; done) | (rw [if_pos hR, ec, ejj]; rfl)
        have hPe : va_P (dC, dI) classes (wM ab cI cZ (va_up mk 6 (nI (kTell (mW mk mv x && inB y.toInt64 0 9)))) mv) H := by exact hP
        exact W.lret (v := (((mv 3) j).toInt64)) hx hb hr (fun t ht hW => ⟨by rw [er], by rw [ht]; exact hPe, hS.F ht⟩) hS.2.2 d_M_wallAt_99
      | 2, _, ejj =>
        refine lv_tableIn (off := 65) (tgt := 100) hx hb d_M_wallAt_35 (by rw [ejj]; decide) (by rw [ejj]; decide) (by rw [ejj]; decide) (by decide) ?_
        refine lv_aload_n hx hb d_M_wallAt_100 rfl (lv_at hl 0 rfl) ?_
        refine va_get (D := (dC, dI)) (ci := 6) (v := .ref (ab 6)) (C := R_M) (T := F_M) (N := 20) hx hb hts i_M hown hK hP 0 rfl rfl 11 (by decide) (hts _ fl_M_25) (fun _ h9 => h9) rfl d_M_wallAt_101 ?_
        refine lv_iload_n hx hb d_M_wallAt_104 rfl (lv_at hl 1 rfl) ?_
        refine va_iald hx hb hK hP 6 0 rfl rfl (vp_in_nI (by omega) (by omega)) d_M_wallAt_105 ?_
        rw [nI_clamp (show j < 2 ^ 31 by omega)]
        refine lv_i2l (v := ((mv 4) j).toInt64) hx hb d_M_wallAt_106 rfl ?_
        have er : ((some (.long (if (mW mk mv x && inB y.toInt64 0 9) = true then waM mk mv mn x.toNatClampNeg y else 0))) : Option Value) = some (.long (((mv 4) j).toInt64)) := by first | (rw [if_neg (by rw [hR]; decide)]; done) | (rw [if_pos hR, ec, ejj]; rfl)
        have hPe : va_P (dC, dI) classes (wM ab cI cZ (va_up mk 6 (nI (kTell (mW mk mv x && inB y.toInt64 0 9)))) mv) H := by exact hP
        exact W.lret (v := (((mv 4) j).toInt64)) hx hb hr (fun t ht hW => ⟨by rw [er], by rw [ht]; exact hPe, hS.F ht⟩) hS.2.2 d_M_wallAt_107
      | 3, _, ejj =>
        refine lv_tableIn (off := 73) (tgt := 108) hx hb d_M_wallAt_35 (by rw [ejj]; decide) (by rw [ejj]; decide) (by rw [ejj]; decide) (by decide) ?_
        refine lv_aload_n hx hb d_M_wallAt_108 rfl (lv_at hl 0 rfl) ?_
        refine va_get (D := (dC, dI)) (ci := 6) (v := .ref (ab 7)) (C := R_M) (T := F_M) (N := 20) hx hb hts i_M hown hK hP 0 rfl rfl 12 (by decide) (hts _ fl_M_28) (fun _ h9 => h9) rfl d_M_wallAt_109 ?_
        refine lv_iload_n hx hb d_M_wallAt_112 rfl (lv_at hl 1 rfl) ?_
        refine va_iald hx hb hK hP 7 0 rfl rfl (vp_in_nI (by omega) (by omega)) d_M_wallAt_113 ?_
        rw [nI_clamp (show j < 2 ^ 31 by omega)]
        refine lv_i2l (v := ((mv 5) j).toInt64) hx hb d_M_wallAt_114 rfl ?_
        have er : ((some (.long (if (mW mk mv x && inB y.toInt64 0 9) = true then waM mk mv mn x.toNatClampNeg y else 0))) : Option Value) = some (.long (((mv 5) j).toInt64)) := by first | (rw [if_neg (by rw [hR]; decide)]; done) | (rw [if_pos hR, ec, ejj]; rfl)
        have hPe : va_P (dC, dI) classes (wM ab cI cZ (va_up mk 6 (nI (kTell (mW mk mv x && inB y.toInt64 0 9)))) mv) H := by exact hP
        exact W.lret (v := (((mv 5) j).toInt64)) hx hb hr (fun t ht hW => ⟨by rw [er], by rw [ht]; exact hPe, hS.F ht⟩) hS.2.2 d_M_wallAt_115
      | 4, _, ejj =>
        refine lv_tableIn (off := 81) (tgt := 116) hx hb d_M_wallAt_35 (by rw [ejj]; decide) (by rw [ejj]; decide) (by rw [ejj]; decide) (by decide) ?_
        refine lv_aload_n hx hb d_M_wallAt_116 rfl (lv_at hl 0 rfl) ?_
        refine va_get (D := (dC, dI)) (ci := 6) (v := .ref (ab 8)) (C := R_M) (T := F_M) (N := 20) hx hb hts i_M hown hK hP 0 rfl rfl 13 (by decide) (hts _ fl_M_31) (fun _ h9 => h9) rfl d_M_wallAt_117 ?_
        refine lv_iload_n hx hb d_M_wallAt_120 rfl (lv_at hl 1 rfl) ?_
        refine va_iald hx hb hK hP 8 0 rfl rfl (vp_in_nI (by omega) (by omega)) d_M_wallAt_121 ?_
        rw [nI_clamp (show j < 2 ^ 31 by omega)]
        refine lv_i2l (v := ((mv 6) j).toInt64) hx hb d_M_wallAt_122 rfl ?_
        have er : ((some (.long (if (mW mk mv x && inB y.toInt64 0 9) = true then waM mk mv mn x.toNatClampNeg y else 0))) : Option Value) = some (.long (((mv 6) j).toInt64)) := by first | (rw [if_neg (by rw [hR]; decide)]; done) | (rw [if_pos hR, ec, ejj]; rfl)
        have hPe : va_P (dC, dI) classes (wM ab cI cZ (va_up mk 6 (nI (kTell (mW mk mv x && inB y.toInt64 0 9)))) mv) H := by exact hP
        exact W.lret (v := (((mv 6) j).toInt64)) hx hb hr (fun t ht hW => ⟨by rw [er], by rw [ht]; exact hPe, hS.F ht⟩) hS.2.2 d_M_wallAt_123
      | 5, _, ejj =>
        refine lv_tableIn (off := 89) (tgt := 124) hx hb d_M_wallAt_35 (by rw [ejj]; decide) (by rw [ejj]; decide) (by rw [ejj]; decide) (by decide) ?_
        refine lv_aload_n hx hb d_M_wallAt_124 rfl (lv_at hl 0 rfl) ?_
        refine va_get (D := (dC, dI)) (ci := 6) (v := .ref (ab 9)) (C := R_M) (T := F_M) (N := 20) hx hb hts i_M hown hK hP 0 rfl rfl 14 (by decide) (hts _ fl_M_34) (fun _ h9 => h9) rfl d_M_wallAt_125 ?_
        refine lv_iload_n hx hb d_M_wallAt_128 rfl (lv_at hl 1 rfl) ?_
        refine va_iald hx hb hK hP 9 0 rfl rfl (vp_in_nI (by omega) (by omega)) d_M_wallAt_129 ?_
        rw [nI_clamp (show j < 2 ^ 31 by omega)]
        refine lv_i2l (v := ((mv 7) j).toInt64) hx hb d_M_wallAt_130 rfl ?_
        have er : ((some (.long (if (mW mk mv x && inB y.toInt64 0 9) = true then waM mk mv mn x.toNatClampNeg y else 0))) : Option Value) = some (.long (((mv 7) j).toInt64)) := by first | (rw [if_neg (by rw [hR]; decide)]; done) | (rw [if_pos hR, ec, ejj]; rfl)
        have hPe : va_P (dC, dI) classes (wM ab cI cZ (va_up mk 6 (nI (kTell (mW mk mv x && inB y.toInt64 0 9)))) mv) H := by exact hP
        exact W.lret (v := (((mv 7) j).toInt64)) hx hb hr (fun t ht hW => ⟨by rw [er], by rw [ht]; exact hPe, hS.F ht⟩) hS.2.2 d_M_wallAt_131
      | 6, _, ejj =>
        refine lv_tableIn (off := 97) (tgt := 132) hx hb d_M_wallAt_35 (by rw [ejj]; decide) (by rw [ejj]; decide) (by rw [ejj]; decide) (by decide) ?_
        refine lv_aload_n hx hb d_M_wallAt_132 rfl (lv_at hl 0 rfl) ?_
        refine lv_iload_n hx hb d_M_wallAt_133 rfl (lv_at hl 1 rfl) ?_
        refine cR (W.runV (As := [.int (nI j)]) (rest := []) ⟨hx, hb, hml, hown, hts⟩ (c_M_length hP (show j < 40 by omega)) (cwV 1 hts (wB_goodV (fun _ h => h) ml_M_123 im_M_length se_M_length ini_M co_M_length) rfl rfl rfl (by decide +kernel) ⟨Nat.le_of_ble_eq_true rfl, Nat.le_of_ble_eq_true rfl⟩) (pV hK hP (ci := 6) (q0 := 0) rfl rfl _) rfl rfl hl.1 rfl (lv_room (Nat.le_of_ble_eq_true rfl)) d_M_wallAt_134 ⟨Nat.zero_le _, Nat.zero_le _⟩) ?_
        refine lv_i2l (v := (leM mv j).toInt64) hx hb d_M_wallAt_137 rfl ?_
        have er : ((some (.long (if (mW mk mv x && inB y.toInt64 0 9) = true then waM mk mv mn x.toNatClampNeg y else 0))) : Option Value) = some (.long ((leM mv j).toInt64)) := by first | (rw [if_neg (by rw [hR]; decide)]; done) | (rw [if_pos hR, ec, ejj]; rfl)
        have hPe : va_P (dC, dI) classes (wM ab cI cZ (va_up mk 6 (nI (kTell (mW mk mv x && inB y.toInt64 0 9)))) mv) H := by exact hP
        exact W.lret (v := ((leM mv j).toInt64)) hx hb hr (fun t ht hW => ⟨by rw [er], by rw [ht]; exact hPe, hS.F ht⟩) hS.2.2 d_M_wallAt_138
      | 7, _, ejj =>
        refine lv_tableIn (off := 104) (tgt := 139) hx hb d_M_wallAt_35 (by rw [ejj]; decide) (by rw [ejj]; decide) (by rw [ejj]; decide) (by decide) ?_
        refine lv_aload_n hx hb d_M_wallAt_139 rfl (lv_at hl 0 rfl) ?_
        refine lv_iload_n hx hb d_M_wallAt_140 rfl (lv_at hl 1 rfl) ?_
        refine cR (W.runV (As := [.int (nI j)]) (rest := []) ⟨hx, hb, hml, hown, hts⟩ (c_M_net hP (hM6 hM) hV hj) (cwV 1 hts (wB_goodV (fun _ h => h) ml_M_141 im_M_net se_M_net ini_M co_M_net) rfl rfl rfl (by decide +kernel) ⟨Nat.le_of_ble_eq_true rfl, Nat.le_of_ble_eq_true rfl⟩) (pV hK hP (ci := 6) (q0 := 0) rfl rfl _) rfl rfl hl.1 rfl (lv_room (Nat.le_of_ble_eq_true rfl)) d_M_wallAt_141 ⟨Nat.zero_le _, Nat.zero_le _⟩) ?_
        refine lv_i2l (v := (neM mv mn j).toInt64) hx hb d_M_wallAt_144 rfl ?_
        have er : ((some (.long (if (mW mk mv x && inB y.toInt64 0 9) = true then waM mk mv mn x.toNatClampNeg y else 0))) : Option Value) = some (.long ((neM mv mn j).toInt64)) := by first | (rw [if_neg (by rw [hR]; decide)]; done) | (rw [if_pos hR, ec, ejj]; rfl)
        have hPe : va_P (dC, dI) classes (wM ab cI cZ (va_up mk 6 (nI (kTell (mW mk mv x && inB y.toInt64 0 9)))) mv) H := by exact hP
        exact W.lret (v := ((neM mv mn j).toInt64)) hx hb hr (fun t ht hW => ⟨by rw [er], by rw [ht]; exact hPe, hS.F ht⟩) hS.2.2 d_M_wallAt_145
      | 8, _, ejj =>
        refine lv_tableIn (off := 111) (tgt := 146) hx hb d_M_wallAt_35 (by rw [ejj]; decide) (by rw [ejj]; decide) (by rw [ejj]; decide) (by decide) ?_
        refine lv_aload_n hx hb d_M_wallAt_146 rfl (lv_at hl 0 rfl) ?_
        refine lv_iload_n hx hb d_M_wallAt_147 rfl (lv_at hl 1 rfl) ?_
        refine cRL (W.runV (As := [.int (nI j)]) (rest := []) ⟨hx, hb, hml, hown, hts⟩ (c_M_area hP (hM6 hM) hV hj) (cwV 1 hts (wB_goodV (fun _ h => h) ml_M_154 im_M_area se_M_area ini_M co_M_area) rfl rfl rfl (by decide +kernel) ⟨Nat.le_of_ble_eq_true rfl, Nat.le_of_ble_eq_true rfl⟩) (pV hK hP (ci := 6) (q0 := 0) rfl rfl _) rfl rfl hl.1 rfl (lv_room (Nat.le_of_ble_eq_true rfl)) d_M_wallAt_148 ⟨Nat.zero_le _, Nat.zero_le _⟩) ?_
        have er : ((some (.long (if (mW mk mv x && inB y.toInt64 0 9) = true then waM mk mv mn x.toNatClampNeg y else 0))) : Option Value) = some (.long (arM (va_up mk 6 (nI (kTell (mW mk mv x && inB y.toInt64 0 9)))) mv mn j)) := by first | (rw [if_neg (by rw [hR]; decide)]; done) | (rw [if_pos hR, ec, ejj]; rfl)
        have hPe : va_P (dC, dI) classes (wM ab cI cZ (va_up mk 6 (nI (kTell (mW mk mv x && inB y.toInt64 0 9)))) mv) H := by exact hP
        exact W.lret (v := (arM (va_up mk 6 (nI (kTell (mW mk mv x && inB y.toInt64 0 9)))) mv mn j)) hx hb hr (fun t ht hW => ⟨by rw [er], by rw [ht]; exact hPe, hS.F ht⟩) hS.2.2 d_M_wallAt_151
      | 9, _, ejj =>
        refine lv_tableOut (tgt := 152) hx hb d_M_wallAt_35 (Or.inr (by rw [ejj]; decide)) (by decide) ?_
        refine lv_aload_n hx hb d_M_wallAt_152 rfl (lv_at hl 0 rfl) ?_
        refine lv_iload_n hx hb d_M_wallAt_153 rfl (lv_at hl 1 rfl) ?_
        refine cR (W.runV (As := [.int (nI j)]) (rest := []) ⟨hx, hb, hml, hown, hts⟩ (c_M_cuts hP (hM6 hM) (nI j)) (cwV 1 hts (wB_goodV (fun _ h => h) ml_M_126 im_M_cuts se_M_cuts ini_M co_M_cuts) rfl rfl rfl (by decide +kernel) ⟨Nat.le_of_ble_eq_true rfl, Nat.le_of_ble_eq_true rfl⟩) (pV hK hP (ci := 6) (q0 := 0) rfl rfl _) rfl rfl hl.1 rfl (lv_room (Nat.le_of_ble_eq_true rfl)) d_M_wallAt_154 ⟨Nat.zero_le _, Nat.zero_le _⟩) ?_
        refine lv_i2l (v := (nI (cnt (fun i => decide (mv 9 i = (nI j))) (mn 3))).toInt64) hx hb d_M_wallAt_157 rfl ?_
        have er : ((some (.long (if (mW mk mv x && inB y.toInt64 0 9) = true then waM mk mv mn x.toNatClampNeg y else 0))) : Option Value) = some (.long ((nI (cnt (fun i => decide (mv 9 i = (nI j))) (mn 3))).toInt64)) := by first | (rw [if_neg (by rw [hR]; decide)]; done) | (rw [if_pos hR, ec, ejj]; rfl)
        have hPe : va_P (dC, dI) classes (wM ab cI cZ (va_up mk 6 (nI (kTell (mW mk mv x && inB y.toInt64 0 9)))) mv) H := by exact hP
        exact W.lret (v := ((nI (cnt (fun i => decide (mv 9 i = (nI j))) (mn 3))).toInt64)) hx hb hr (fun t ht hW => ⟨by rw [er], by rw [ht]; exact hPe, hS.F ht⟩) hS.2.2 d_M_wallAt_158
      | k + 10, h, _ => exact absurd h (by omega)
    · have hR : (mW mk mv x && inB y.toInt64 0 9) = false := bI_0.mp c_29
      refine lv_lconst (v := 0) hx hb d_M_wallAt_32 (by decide) ?_
      have er : ((some (.long (if (mW mk mv x && inB y.toInt64 0 9) = true then waM mk mv mn x.toNatClampNeg y else 0))) : Option Value) = some (.long 0) := by first | (rw [if_neg (by rw [hR]; decide)]; done) | (rw [if_pos hR, ec, ejj]; rfl)
      have hPe : va_P (dC, dI) classes (wM ab cI cZ (va_up mk 6 (nI (kTell (mW mk mv x && inB y.toInt64 0 9)))) mv) H := by exact hP
      exact W.lret (v := 0) hx hb hr (fun t ht hW => ⟨by rw [er], by rw [ht]; exact hPe, hS.F ht⟩) hS.2.2 d_M_wallAt_33
  refine lv_aload_n hx hb d_M_wallAt_0 rfl (lv_at hl 0 rfl) ?_
  refine lv_aload_n hx hb d_M_wallAt_1 rfl (lv_at hl 0 rfl) ?_
  refine lv_iload_n hx hb d_M_wallAt_2 rfl (lv_at hl 1 rfl) ?_
  refine cR (W.runV (As := [.int x]) (rest := [.ref (ab 0)]) ⟨hx, hb, hml, hown, hts⟩ (c_M_isWall hP hM x) (cwV 1 hts (wB_goodV (fun _ h => h) ml_M_120 im_M_isWall se_M_isWall ini_M co_M_isWall) rfl rfl rfl (by decide +kernel) ⟨Nat.le_of_ble_eq_true rfl, Nat.le_of_ble_eq_true rfl⟩) (pV hK hP (ci := 6) (q0 := 0) rfl rfl _) rfl rfl hl.1 rfl (lv_room (Nat.le_of_ble_eq_true rfl)) d_M_wallAt_3 ⟨Nat.zero_le _, Nat.zero_le _⟩) ?_
  refine lv_if_eq (tgt := 25) hx hb d_M_wallAt_6 (by decide) (fun c_6 => ?_) (fun c_6 => ?_)
  · refine lv_iconst (v := 0) hx hb d_M_wallAt_25 (by decide) ?_
    have em : bI (mW mk mv x && inB y.toInt64 0 9) = 0 := by first | (simp [bI, bI_0.mp c_6]; done) | (simp [bI, bI_n0.mp c_6, bI_0.mp c_18]; done) | (simp [bI, bI_n0.mp c_6, bI_n0.mp c_18]; done)
    exact W.eq (g2 := F0 m 26 ls [.int (bI (mW mk mv x && inB y.toInt64 0 9)), .ref (ab 0)]) (by rw [em]) (mg_26 ls (lv_sub hl [0, 1, 2] rfl))
  · refine lv_iload_n hx hb d_M_wallAt_9 rfl (lv_at hl 2 rfl) ?_
    refine lv_i2l (v := y.toInt64) hx hb d_M_wallAt_10 rfl ?_
    refine lv_lconst (v := 0) hx hb d_M_wallAt_11 (by decide) ?_
    refine lv_ldc2 (v := 9) hx hb hown (hts _ kl_M_152) d_M_wallAt_12 ?_
    refine cR (W.runS (As := [.long (y.toInt64), .long 0, .long 9]) (rest := [.ref (ab 0)]) ⟨hx, hb, hml, hown, hts⟩ (c_M_isIn (y.toInt64) 0 9) (cwS 3 hts (wB_goodS (fun _ h => h) ml_M_67 st_M_isIn ini_M co_M_isIn) rfl rfl rfl (by decide +kernel) ⟨Nat.le_of_ble_eq_true rfl, Nat.le_of_ble_eq_true rfl⟩) (pS hK _) rfl rfl hl.1 rfl (lv_room (Nat.le_of_ble_eq_true rfl)) d_M_wallAt_15 ⟨Nat.zero_le _, Nat.zero_le _⟩) ?_
    refine lv_if_eq (tgt := 25) hx hb d_M_wallAt_18 (by decide) (fun c_18 => ?_) (fun c_18 => ?_)
    · refine lv_iconst (v := 0) hx hb d_M_wallAt_25 (by decide) ?_
      have em : bI (mW mk mv x && inB y.toInt64 0 9) = 0 := by first | (simp [bI, bI_0.mp c_6]; done) | (simp [bI, bI_n0.mp c_6, bI_0.mp c_18]; done) | (simp [bI, bI_n0.mp c_6, bI_n0.mp c_18]; done)
      exact W.eq (g2 := F0 m 26 ls [.int (bI (mW mk mv x && inB y.toInt64 0 9)), .ref (ab 0)]) (by rw [em]) (mg_26 ls (lv_sub hl [0, 1, 2] rfl))
    · refine lv_iconst (v := 1) hx hb d_M_wallAt_21 (by decide) ?_
      refine lv_goto (tgt := 26) hx hb d_M_wallAt_22 (by decide) ?_
      have em : bI (mW mk mv x && inB y.toInt64 0 9) = 1 := by first | (simp [bI, bI_0.mp c_6]; done) | (simp [bI, bI_n0.mp c_6, bI_0.mp c_18]; done) | (simp [bI, bI_n0.mp c_6, bI_n0.mp c_18]; done)
      exact W.eq (g2 := F0 m 26 ls [.int (bI (mW mk mv x && inB y.toInt64 0 9)), .ref (ab 0)]) (by rw [em]) (mg_26 ls (lv_sub hl [0, 1, 2] rfl))
set_option maxRecDepth 100000 in
set_option maxHeartbeats 4000000 in
theorem c_M_openingAt (hP : va_P (dC, dI) classes (wM ab cI cZ mk mv) H) (hdD : dD noT ab 14) (hM : okM mk mn) (hO9 : ∀ o, o < mn 3 → ∃ w, w < 40 ∧ mv 9 o = nI w) (x y : Int32) : Met l y_M_openingAt (wB y_M_openingAt b_M_openingAt 3 (some .int)) ({ frames := 1, cells := 0, slots := 0, locals := 25 } : Room) (rP [.ref (ab 0), .int x, .int y] H (kK dC dI cI cZ cJ)) (qW (some (.int (if (roR mk mv x y) = true then opR mv x.toNatClampNeg y else 0))) (aN ab 14) (fun H1 => va_P (dC, dI) classes (wM ab cI cZ (va_up mk 6 (nI (kTell (roR mk mv x y)))) mv) H1)) 0 0 (aN ab 14) := by
  refine Met.ofW (cc := b_M_openingAt) (maxL := 3) (ret := (some .int)) (by decide) rfl ?_
  intro p e s m args below meth c s₁ B hml hv
  obtain ⟨rfl, rfl, hK⟩ := hv
  have hx := B.exec
  have hb := B.bytes
  have hr := B.returns
  have hts0 := atoms_spec (ws := (wB y_M_openingAt b_M_openingAt 3 (some .int))) B.pre
  have hts : ∀ w9 ∈ BG, w9.before [.ref (ab 0), .int x, .int y].toArray s = true := fun w9 hw9 => hts0 w9 (List.mem_cons_of_mem _ hw9)
  have hown : s.vm.findClass R_M = some m.cls := findClass_of_methodNamed B.named
  have hlocks := B.notSynchronized
  have hK : va_K (dC, dI) classes [(cI, .int), (cZ, .boolean), (cJ, .long)] s := hK
  have hD : va_D (aN ab 14) (wM ab cI cZ mk mv) := wM_D (dD_aN hdD)
  have hS : va_S (aN ab 14) s.heap s.heap [] := va_S.rf
  have hl := lv_entry ([.ref (ab 0), .int x, .int y]) (n := 3) (Nat.le_of_ble_eq_true rfl)
  rw [lg_entry_eq]
  generalize (lg_sl ([.ref (ab 0), .int x, .int y]) ++ List.replicate (3 - (lg_sl ([.ref (ab 0), .int x, .int y])).length) Slot.unset).toArray = ls at hl ⊢
  have hl : lv_has ls 3 [(0, .ref (ab 0)), (1, .int x), (2, .int y)] := hl
  obtain ⟨eK, b0, b1, b2, b3, b4, b5⟩ := id hM
  have hM6 := @okM_6 mk mn
  have mg_60 : ∀ (ls : Array Slot), lv_has ls 3 [(0, .ref (ab 0)), (1, .int x), (2, .int y)] → W p l e (headSpec (wB y_M_openingAt b_M_openingAt 3 (some .int)) ({ frames := 1, cells := 0, slots := 0, locals := 25 } : Room)).room s m [.ref (ab 0), .int x, .int y].toArray below meth c s.heap [] 0 0 (MQ below (qW (some (.int (if (roR mk mv x y) = true then opR mv x.toNatClampNeg y else 0))) (aN ab 14) (fun H1 => va_P (dC, dI) classes (wM ab cI cZ (va_up mk 6 (nI (kTell (roR mk mv x y)))) mv) H1)) [.ref (ab 0), .int x, .int y].toArray s 0 0 (aN ab 14)) (F0 m 60 ls [.int (bI (roR mk mv x y)), .ref (ab 0)]) := by
    intro ls hl
    refine cW (W.runV (As := [.int (bI (roR mk mv x y))]) (rest := []) ⟨hx, hb, hml, hown, hts⟩ (c_M_tells hP hdD (roR mk mv x y)) (cwV 1 hts (wB_goodV (fun _ h => h) ml_M_148 im_M_tells se_M_tells ini_M co_M_tells) rfl rfl rfl (by decide +kernel) ⟨Nat.le_of_ble_eq_true rfl, Nat.le_of_ble_eq_true rfl⟩) (pV hK hP (ci := 6) (q0 := 0) rfl rfl _) rfl rfl hl.1 rfl (lv_room (Nat.le_of_ble_eq_true rfl)) d_M_openingAt_60 ⟨Nat.zero_le _, Nat.zero_le _⟩) hS (fun _ h => h) (fun H locs hP hS _ _ => ?_)
    have hP : va_P (dC, dI) classes (wM ab cI cZ (va_up mk 6 (nI (kTell (roR mk mv x y)))) mv) H := hP
    have hD : va_D (aN ab 14) (wM ab cI cZ (va_up mk 6 (nI (kTell (roR mk mv x y)))) mv) := wM_D (dD_aN hdD)
    refine lv_if_ne (tgt := 68) hx hb d_M_openingAt_63 (by decide) (fun c_63 => ?_) (fun c_63 => ?_)
    · have hR : (roR mk mv x y) = true := bI_n0.mp c_63
      obtain ⟨j, hj, ej⟩ := haB_n (eK 3 (by decide)) (by omega) (by have h9 := hR; simp only [roR, Bool.and_eq_true] at h9; exact h9.1.1)
      have ec : x.toNatClampNeg = j := by rw [ej]; exact nI_clamp (by omega)
      rw [ej] at hl
      refine lv_iload_n hx hb d_M_openingAt_68 rfl (lv_at hl 2 rfl) ?_
      refine lv_if_ne (tgt := 81) hx hb d_M_openingAt_69 (by decide) (fun c_69 => ?_) (fun c_69 => ?_)
      · refine lv_iload_n hx hb d_M_openingAt_81 rfl (lv_at hl 2 rfl) ?_
        refine lv_iconst (v := 1) hx hb d_M_openingAt_82 (by decide) ?_
        refine lv_icmp_ne (tgt := 95) hx hb d_M_openingAt_83 (by decide) (fun c_83 => ?_) (fun c_83 => ?_)
        · refine lv_aload_n hx hb d_M_openingAt_95 rfl (lv_at hl 0 rfl) ?_
          refine va_get (D := (dC, dI)) (ci := 6) (v := .ref (ab 13)) (C := R_M) (T := F_M) (N := 20) hx hb hts i_M hown hK hP 0 rfl rfl 19 (by decide) (hts _ fl_M_47) (fun _ h9 => h9) rfl d_M_openingAt_96 ?_
          refine lv_iload_n hx hb d_M_openingAt_99 rfl (lv_at hl 1 rfl) ?_
          refine va_iald hx hb hK hP 13 0 rfl rfl (vp_in_nI (by omega) (by omega)) d_M_openingAt_100 ?_
          rw [nI_clamp (show j < 2 ^ 31 by omega)]
          have er : ((some (.int (if (roR mk mv x y) = true then opR mv x.toNatClampNeg y else 0))) : Option Value) = some (.int ((mv 11) j)) := by first | (rw [if_neg (by rw [hR]; decide)]; done) | (rw [if_pos hR, ec, opR]; first | (rw [if_pos c_69]; done) | (rw [if_neg c_69, if_pos c_83]; done) | (rw [if_neg c_69, if_neg c_83]; done))
          have hPe : va_P (dC, dI) classes (wM ab cI cZ (va_up mk 6 (nI (kTell (roR mk mv x y)))) mv) H := by exact hP
          exact W.iret (v := ((mv 11) j)) hx hb hr (fun t ht hW => ⟨by rw [er], by rw [ht]; exact hPe, hS.F ht⟩) hS.2.2 d_M_openingAt_101
        · refine lv_aload_n hx hb d_M_openingAt_86 rfl (lv_at hl 0 rfl) ?_
          refine va_get (D := (dC, dI)) (ci := 6) (v := .ref (ab 12)) (C := R_M) (T := F_M) (N := 20) hx hb hts i_M hown hK hP 0 rfl rfl 18 (by decide) (hts _ fl_M_44) (fun _ h9 => h9) rfl d_M_openingAt_87 ?_
          refine lv_iload_n hx hb d_M_openingAt_90 rfl (lv_at hl 1 rfl) ?_
          refine va_iald hx hb hK hP 12 0 rfl rfl (vp_in_nI (by omega) (by omega)) d_M_openingAt_91 ?_
          rw [nI_clamp (show j < 2 ^ 31 by omega)]
          refine lv_goto (tgt := 101) hx hb d_M_openingAt_92 (by decide) ?_
          have er : ((some (.int (if (roR mk mv x y) = true then opR mv x.toNatClampNeg y else 0))) : Option Value) = some (.int ((mv 10) j)) := by first | (rw [if_neg (by rw [hR]; decide)]; done) | (rw [if_pos hR, ec, opR]; first | (rw [if_pos c_69]; done) | (rw [if_neg c_69, if_pos c_83]; done) | (rw [if_neg c_69, if_neg c_83]; done))
          have hPe : va_P (dC, dI) classes (wM ab cI cZ (va_up mk 6 (nI (kTell (roR mk mv x y)))) mv) H := by exact hP
          exact W.iret (v := ((mv 10) j)) hx hb hr (fun t ht hW => ⟨by rw [er], by rw [ht]; exact hPe, hS.F ht⟩) hS.2.2 d_M_openingAt_101
      · refine lv_aload_n hx hb d_M_openingAt_72 rfl (lv_at hl 0 rfl) ?_
        refine va_get (D := (dC, dI)) (ci := 6) (v := .ref (ab 11)) (C := R_M) (T := F_M) (N := 20) hx hb hts i_M hown hK hP 0 rfl rfl 17 (by decide) (hts _ fl_M_41) (fun _ h9 => h9) rfl d_M_openingAt_73 ?_
        refine lv_iload_n hx hb d_M_openingAt_76 rfl (lv_at hl 1 rfl) ?_
        refine va_iald hx hb hK hP 11 0 rfl rfl (vp_in_nI (by omega) (by omega)) d_M_openingAt_77 ?_
        rw [nI_clamp (show j < 2 ^ 31 by omega)]
        refine lv_goto (tgt := 101) hx hb d_M_openingAt_78 (by decide) ?_
        have er : ((some (.int (if (roR mk mv x y) = true then opR mv x.toNatClampNeg y else 0))) : Option Value) = some (.int ((mv 9) j)) := by first | (rw [if_neg (by rw [hR]; decide)]; done) | (rw [if_pos hR, ec, opR]; first | (rw [if_pos c_69]; done) | (rw [if_neg c_69, if_pos c_83]; done) | (rw [if_neg c_69, if_neg c_83]; done))
        have hPe : va_P (dC, dI) classes (wM ab cI cZ (va_up mk 6 (nI (kTell (roR mk mv x y)))) mv) H := by exact hP
        exact W.iret (v := ((mv 9) j)) hx hb hr (fun t ht hW => ⟨by rw [er], by rw [ht]; exact hPe, hS.F ht⟩) hS.2.2 d_M_openingAt_101
    · have hR : (roR mk mv x y) = false := bI_0.mp c_63
      refine lv_iconst (v := 0) hx hb d_M_openingAt_66 (by decide) ?_
      have er : ((some (.int (if (roR mk mv x y) = true then opR mv x.toNatClampNeg y else 0))) : Option Value) = some (.int 0) := by first | (rw [if_neg (by rw [hR]; decide)]; done) | (rw [if_pos hR, ec, opR]; first | (rw [if_pos c_69]; done) | (rw [if_neg c_69, if_pos c_83]; done) | (rw [if_neg c_69, if_neg c_83]; done))
      have hPe : va_P (dC, dI) classes (wM ab cI cZ (va_up mk 6 (nI (kTell (roR mk mv x y)))) mv) H := by exact hP
      exact W.iret (v := 0) hx hb hr (fun t ht hW => ⟨by rw [er], by rw [ht]; exact hPe, hS.F ht⟩) hS.2.2 d_M_openingAt_67
  refine lv_aload_n hx hb d_M_openingAt_0 rfl (lv_at hl 0 rfl) ?_
  refine lv_iload_n hx hb d_M_openingAt_1 rfl (lv_at hl 1 rfl) ?_
  refine lv_if_lt (tgt := 59) hx hb d_M_openingAt_2 (by decide) (fun c_2 => ?_) (fun c_2 => ?_)
  · refine lv_iconst (v := 0) hx hb d_M_openingAt_59 (by decide) ?_
    try rw [← ej] at hl
    have em : bI (roR mk mv x y) = 0 := by simp [bI, roR, haB, c_2]
    exact W.eq (g2 := F0 m 60 ls [.int (bI (roR mk mv x y)), .ref (ab 0)]) (by rw [em]) (mg_60 ls (lv_sub hl [0, 1, 2] rfl))
  · refine lv_iload_n hx hb d_M_openingAt_5 rfl (lv_at hl 1 rfl) ?_
    refine lv_aload_n hx hb d_M_openingAt_6 rfl (lv_at hl 0 rfl) ?_
    refine va_get (D := (dC, dI)) (ci := 6) (v := .int (mk 3)) (C := R_M) (T := F_M) (N := 20) hx hb hts i_M hown hK hP 0 rfl rfl 16 (by decide) (hts _ fl_M_81) (fun _ h9 => h9) rfl d_M_openingAt_7 ?_
    refine lv_icmp_ge (tgt := 59) hx hb d_M_openingAt_10 (by decide) (fun c_10 => ?_) (fun c_10 => ?_)
    · refine lv_iconst (v := 0) hx hb d_M_openingAt_59 (by decide) ?_
      try rw [← ej] at hl
      have em : bI (roR mk mv x y) = 0 := by simp [bI, roR, haB, c_10]
      exact W.eq (g2 := F0 m 60 ls [.int (bI (roR mk mv x y)), .ref (ab 0)]) (by rw [em]) (mg_60 ls (lv_sub hl [0, 1, 2] rfl))
    · have h10 : haB (mk 3) x = true := by simp [haB, c_2, c_10]
      obtain ⟨j, hj, ej⟩ := haB_n (eK 3 (by decide)) (by omega) h10
      have ec : x.toNatClampNeg = j := by rw [ej]; exact nI_clamp (by omega)
      rw [ej] at hl
      obtain ⟨w9, hw9, ew9⟩ := hO9 j hj
      refine lv_iload_n hx hb d_M_openingAt_13 rfl (lv_at hl 2 rfl) ?_
      refine lv_i2l (v := y.toInt64) hx hb d_M_openingAt_14 rfl ?_
      refine lv_lconst (v := 0) hx hb d_M_openingAt_15 (by decide) ?_
      refine lv_ldc2 (v := 2) hx hb hown (hts _ kl_M_158) d_M_openingAt_16 ?_
      refine cR (W.runS (As := [.long (y.toInt64), .long 0, .long 2]) (rest := [.ref (ab 0)]) ⟨hx, hb, hml, hown, hts⟩ (c_M_isIn (y.toInt64) 0 2) (cwS 3 hts (wB_goodS (fun _ h => h) ml_M_67 st_M_isIn ini_M co_M_isIn) rfl rfl rfl (by decide +kernel) ⟨Nat.le_of_ble_eq_true rfl, Nat.le_of_ble_eq_true rfl⟩) (pS hK _) rfl rfl hl.1 rfl (lv_room (Nat.le_of_ble_eq_true rfl)) d_M_openingAt_19 ⟨Nat.zero_le _, Nat.zero_le _⟩) ?_
      refine lv_if_eq (tgt := 59) hx hb d_M_openingAt_22 (by decide) (fun c_22 => ?_) (fun c_22 => ?_)
      · refine lv_iconst (v := 0) hx hb d_M_openingAt_59 (by decide) ?_
        try rw [← ej] at hl
        have em : bI (roR mk mv x y) = 0 := by simp [bI, roR, bI_0.mp c_22]
        exact W.eq (g2 := F0 m 60 ls [.int (bI (roR mk mv x y)), .ref (ab 0)]) (by rw [em]) (mg_60 ls (lv_sub hl [0, 1, 2] rfl))
      · refine lv_aload_n hx hb d_M_openingAt_25 rfl (lv_at hl 0 rfl) ?_
        refine va_get (D := (dC, dI)) (ci := 6) (v := .ref (ab 10)) (C := R_M) (T := F_M) (N := 20) hx hb hts i_M hown hK hP 0 rfl rfl 15 (by decide) (hts _ fl_M_37) (fun _ h9 => h9) rfl d_M_openingAt_26 ?_
        refine lv_aload_n hx hb d_M_openingAt_29 rfl (lv_at hl 0 rfl) ?_
        refine va_get (D := (dC, dI)) (ci := 6) (v := .ref (ab 11)) (C := R_M) (T := F_M) (N := 20) hx hb hts i_M hown hK hP 0 rfl rfl 17 (by decide) (hts _ fl_M_41) (fun _ h9 => h9) rfl d_M_openingAt_30 ?_
        refine lv_iload_n hx hb d_M_openingAt_33 rfl (lv_at hl 1 rfl) ?_
        refine lv_if_lt (tgt := 45) hx hb d_M_openingAt_34 (by decide) (fun c_34 => ?_) (fun c_34 => ?_)
        · exact absurd c_34 (by rw [← ej]; exact c_2)
        · refine lv_iload_n hx hb d_M_openingAt_37 rfl (lv_at hl 1 rfl) ?_
          refine lv_aload_n hx hb d_M_openingAt_38 rfl (lv_at hl 0 rfl) ?_
          refine va_get (D := (dC, dI)) (ci := 6) (v := .int (mk 3)) (C := R_M) (T := F_M) (N := 20) hx hb hts i_M hown hK hP 0 rfl rfl 16 (by decide) (hts _ fl_M_81) (fun _ h9 => h9) rfl d_M_openingAt_39 ?_
          refine lv_icmp_lt (tgt := 49) hx hb d_M_openingAt_42 (by decide) (fun c_42 => ?_) (fun c_42 => ?_)
          · refine lv_iload_n hx hb d_M_openingAt_49 rfl (lv_at hl 1 rfl) ?_
            refine va_iald hx hb hK hP 11 0 rfl rfl (vp_in_nI (by omega) (by omega)) d_M_openingAt_50 ?_
            rw [nI_clamp (show j < 2 ^ 31 by omega)]
            rw [ew9]
            refine va_zald hx hb hK hP 10 1 rfl rfl (vp_in_nI (by omega) (by omega)) d_M_openingAt_51 ?_
            rw [nI_clamp (show w9 < 2 ^ 31 by omega)]
            refine lv_if_eq (tgt := 59) hx hb d_M_openingAt_52 (by decide) (fun c_52 => ?_) (fun c_52 => ?_)
            · refine lv_iconst (v := 0) hx hb d_M_openingAt_59 (by decide) ?_
              try rw [← ej] at hl
              have em : bI (roR mk mv x y) = 0 := by rw [roR, h10, bI_n0.mp c_22, ec, ew9, nI_clamp (show w9 < 2 ^ 31 by omega)]; simp [bI, c_52]
              exact W.eq (g2 := F0 m 60 ls [.int (bI (roR mk mv x y)), .ref (ab 0)]) (by rw [em]) (mg_60 ls (lv_sub hl [0, 1, 2] rfl))
            · refine lv_iconst (v := 1) hx hb d_M_openingAt_55 (by decide) ?_
              refine lv_goto (tgt := 60) hx hb d_M_openingAt_56 (by decide) ?_
              try rw [← ej] at hl
              have em : bI (roR mk mv x y) = 1 := by rw [roR, h10, bI_n0.mp c_22, ec, ew9, nI_clamp (show w9 < 2 ^ 31 by omega)]; simp [bI, c_52]
              exact W.eq (g2 := F0 m 60 ls [.int (bI (roR mk mv x y)), .ref (ab 0)]) (by rw [em]) (mg_60 ls (lv_sub hl [0, 1, 2] rfl))
          · exact absurd c_42 (fun h => h (by rw [← ej, Int32.lt_iff_toInt_lt]; rw [Int32.le_iff_toInt_le] at c_10; omega))
set_option maxRecDepth 100000 in
set_option maxHeartbeats 4000000 in
theorem c_M_storeyAt (hP : va_P (dC, dI) classes (wM ab cI cZ mk mv) H) (hdD : dD noT ab 14) (hM : okM mk mn) (hV : okV mn mv) (x y : Int32) : Met l y_M_storeyAt (wB y_M_storeyAt b_M_storeyAt 8 (some .long)) ({ frames := 4, cells := 0, slots := 0, locals := 94 } : Room) (rP [.ref (ab 0), .int x, .int y] H (kK dC dI cI cZ cJ)) (qW (some (.long (if (haB (mk 0) x && inB y.toInt64 0 3) = true then saM mk mv mn x y else 0))) (aN ab 14) (fun H1 => va_P (dC, dI) classes (wM ab cI cZ (va_up mk 6 (nI (kTell (haB (mk 0) x && inB y.toInt64 0 3)))) mv) H1)) 0 0 (aN ab 14) := by
  refine Met.ofW (cc := b_M_storeyAt) (maxL := 8) (ret := (some .long)) (by decide) rfl ?_
  intro p e s m args below meth c s₁ B hml hv
  obtain ⟨rfl, rfl, hK⟩ := hv
  have hx := B.exec
  have hb := B.bytes
  have hr := B.returns
  have hts0 := atoms_spec (ws := (wB y_M_storeyAt b_M_storeyAt 8 (some .long))) B.pre
  have hts : ∀ w9 ∈ BG, w9.before [.ref (ab 0), .int x, .int y].toArray s = true := fun w9 hw9 => hts0 w9 (List.mem_cons_of_mem _ hw9)
  have hown : s.vm.findClass R_M = some m.cls := findClass_of_methodNamed B.named
  have hlocks := B.notSynchronized
  have hK : va_K (dC, dI) classes [(cI, .int), (cZ, .boolean), (cJ, .long)] s := hK
  have hD : va_D (aN ab 14) (wM ab cI cZ mk mv) := wM_D (dD_aN hdD)
  have hS : va_S (aN ab 14) s.heap s.heap [] := va_S.rf
  have hl := lv_entry ([.ref (ab 0), .int x, .int y]) (n := 8) (Nat.le_of_ble_eq_true rfl)
  rw [lg_entry_eq]
  generalize (lg_sl ([.ref (ab 0), .int x, .int y]) ++ List.replicate (8 - (lg_sl ([.ref (ab 0), .int x, .int y])).length) Slot.unset).toArray = ls at hl ⊢
  have hl : lv_has ls 8 [(0, .ref (ab 0)), (1, .int x), (2, .int y)] := hl
  obtain ⟨eK, b0, b1, b2, b3, b4, b5⟩ := id hM
  have hM6 := @okM_6 mk mn
  have mg_26 : ∀ (ls : Array Slot), lv_has ls 8 [(0, .ref (ab 0)), (1, .int x), (2, .int y)] → W p l e (headSpec (wB y_M_storeyAt b_M_storeyAt 8 (some .long)) ({ frames := 4, cells := 0, slots := 0, locals := 94 } : Room)).room s m [.ref (ab 0), .int x, .int y].toArray below meth c s.heap [] 0 0 (MQ below (qW (some (.long (if (haB (mk 0) x && inB y.toInt64 0 3) = true then saM mk mv mn x y else 0))) (aN ab 14) (fun H1 => va_P (dC, dI) classes (wM ab cI cZ (va_up mk 6 (nI (kTell (haB (mk 0) x && inB y.toInt64 0 3)))) mv) H1)) [.ref (ab 0), .int x, .int y].toArray s 0 0 (aN ab 14)) (F0 m 26 ls [.int (bI (haB (mk 0) x && inB y.toInt64 0 3)), .ref (ab 0)]) := by
    intro ls hl
    refine cW (W.runV (As := [.int (bI (haB (mk 0) x && inB y.toInt64 0 3))]) (rest := []) ⟨hx, hb, hml, hown, hts⟩ (c_M_tells hP hdD (haB (mk 0) x && inB y.toInt64 0 3)) (cwV 1 hts (wB_goodV (fun _ h => h) ml_M_148 im_M_tells se_M_tells ini_M co_M_tells) rfl rfl rfl (by decide +kernel) ⟨Nat.le_of_ble_eq_true rfl, Nat.le_of_ble_eq_true rfl⟩) (pV hK hP (ci := 6) (q0 := 0) rfl rfl _) rfl rfl hl.1 rfl (lv_room (Nat.le_of_ble_eq_true rfl)) d_M_storeyAt_26 ⟨Nat.zero_le _, Nat.zero_le _⟩) hS (fun _ h => h) (fun H locs hP hS _ _ => ?_)
    have hP : va_P (dC, dI) classes (wM ab cI cZ (va_up mk 6 (nI (kTell (haB (mk 0) x && inB y.toInt64 0 3)))) mv) H := hP
    have hD : va_D (aN ab 14) (wM ab cI cZ (va_up mk 6 (nI (kTell (haB (mk 0) x && inB y.toInt64 0 3)))) mv) := wM_D (dD_aN hdD)
    refine lv_if_ne (tgt := 34) hx hb d_M_storeyAt_29 (by decide) (fun c_29 => ?_) (fun c_29 => ?_)
    · have hR : (haB (mk 0) x && inB y.toInt64 0 3) = true := bI_n0.mp c_29
      obtain ⟨j, hj, ej⟩ := haB_n (eK 0 (by decide)) (by omega) (Bool.and_eq_true _ _ ▸ hR).1
      have ec : x.toNatClampNeg = j := by rw [ej]; exact nI_clamp (by omega)
      refine lv_lconst (v := 0) hx hb d_M_storeyAt_34 (by decide) ?_
      refine lv_lstore_n (lv' := [(3, .long 0), (0, .ref (ab 0)), (1, .int x), (2, .int y)]) hx hb d_M_storeyAt_35 rfl hl (by decide) rfl (fun ls hl => ?_)
      refine lv_lconst (v := 0) hx hb d_M_storeyAt_36 (by decide) ?_
      refine lv_lstore (lv' := [(5, .long 0), (3, .long 0), (0, .ref (ab 0)), (1, .int x), (2, .int y)]) hx hb d_M_storeyAt_37 hl (by decide) rfl (fun ls hl => ?_)
      refine lv_iconst (v := 0) hx hb d_M_storeyAt_39 (by decide) ?_
      refine lv_istore (lv' := [(7, .int 0), (5, .long 0), (3, .long 0), (0, .ref (ab 0)), (1, .int x), (2, .int y)]) hx hb d_M_storeyAt_40 hl (by decide) rfl (fun ls hl => ?_)
      have loop_42 : ∀ (k9 i : Nat), mn 2 + 1 ≤ i + k9 → i ≤ mn 2 → ∀ (H : Heap) (locs : List Loc), va_P (dC, dI) classes (wM ab cI cZ (va_up mk 6 (nI (kTell (haB (mk 0) x && inB y.toInt64 0 3)))) mv) H → va_S (aN ab 14) s.heap H locs → ∀ (ls : Array Slot), lv_has ls 8 [(0, .ref (ab 0)), (1, .int x), (2, .int y), (3, .long (lN (cnt (thS mv x) i))), (5, .long (sumL (thS mv x) (arM (va_up mk 6 (nI (kTell (haB (mk 0) x && inB y.toInt64 0 3)))) mv mn) i)), (7, .int (nI i))] → W p l e (headSpec (wB y_M_storeyAt b_M_storeyAt 8 (some .long)) ({ frames := 4, cells := 0, slots := 0, locals := 94 } : Room)).room s m [.ref (ab 0), .int x, .int y].toArray below meth c H locs 0 0 (MQ below (qW (some (.long (if (haB (mk 0) x && inB y.toInt64 0 3) = true then saM mk mv mn x y else 0))) (aN ab 14) (fun H1 => va_P (dC, dI) classes (wM ab cI cZ (va_up mk 6 (nI (kTell (haB (mk 0) x && inB y.toInt64 0 3)))) mv) H1)) [.ref (ab 0), .int x, .int y].toArray s 0 0 (aN ab 14)) (F0 m 42 ls []) := by
        intro k9_42
        induction k9_42 with
        | zero => intro i  hk_42 hi H locs hP hS ls hl; exact absurd hk_42 (by omega)
        | succ k9_42 ih_42 =>
          intro i  hk_42 hi H locs hP hS ls hl
          have hD : va_D (aN ab 14) (wM ab cI cZ (va_up mk 6 (nI (kTell (haB (mk 0) x && inB y.toInt64 0 3)))) mv) := wM_D (dD_aN hdD)
          refine lv_iload hx hb d_M_storeyAt_42 (lv_at hl 5 rfl) ?_
          refine lv_aload_n hx hb d_M_storeyAt_44 rfl (lv_at hl 0 rfl) ?_
          refine va_get (D := (dC, dI)) (ci := 6) (v := .int ((va_up mk 6 (nI (kTell (haB (mk 0) x && inB y.toInt64 0 3)))) 2)) (C := R_M) (T := F_M) (N := 20) hx hb hts i_M hown hK hP 0 rfl rfl 8 (by decide) (hts _ fl_M_60) (fun _ h9 => h9) rfl d_M_storeyAt_45 ?_
          refine lv_icmp_ge (tgt := 93) hx hb d_M_storeyAt_48 (by decide) (fun c_48 => ?_) (fun c_48 => ?_)
          · have hi2 : i = mn 2 := Nat.le_antisymm hi (geC (eK 2 (by decide)) c_48 (by omega) (by omega))
            have hl : lv_has ls 8 [(0, .ref (ab 0)), (1, .int (nI j)), (2, .int y), (3, .long (lN (cnt (thS mv x) i))), (5, .long (sumL (thS mv x) (arM (va_up mk 6 (nI (kTell (haB (mk 0) x && inB y.toInt64 0 3)))) mv mn) i)), (7, .int (nI i))] := by rw [← ej]; exact hl
            refine lv_iload_n hx hb d_M_storeyAt_93 rfl (lv_at hl 2 rfl) ?_
            refine lv_if_ne (tgt := 107) hx hb d_M_storeyAt_94 (by decide) (fun c_94 => ?_) (fun c_94 => ?_)
            · refine lv_iload_n hx hb d_M_storeyAt_107 rfl (lv_at hl 2 rfl) ?_
              refine lv_iconst (v := 1) hx hb d_M_storeyAt_108 (by decide) ?_
              refine lv_icmp_ne (tgt := 121) hx hb d_M_storeyAt_109 (by decide) (fun c_109 => ?_) (fun c_109 => ?_)
              · refine lv_iload_n hx hb d_M_storeyAt_121 rfl (lv_at hl 2 rfl) ?_
                refine lv_iconst (v := 2) hx hb d_M_storeyAt_122 (by decide) ?_
                refine lv_icmp_ne (tgt := 130) hx hb d_M_storeyAt_123 (by decide) (fun c_123 => ?_) (fun c_123 => ?_)
                · refine lv_lload hx hb d_M_storeyAt_130 (lv_at hl 4 rfl) ?_
                  have er : ((some (.long (if (haB (mk 0) x && inB y.toInt64 0 3) = true then saM mk mv mn x y else 0))) : Option Value) = some (.long (sumL (thS mv x) (arM (va_up mk 6 (nI (kTell (haB (mk 0) x && inB y.toInt64 0 3)))) mv mn) i)) := by first | (rw [if_neg (by rw [hR]; decide)]; done) | (rw [if_pos hR, saM, ec, ← hi2]; first | (rw [if_pos c_94]; done) | (rw [if_neg c_94, if_pos c_109]; first | done | rfl) | (rw [if_neg c_94, if_neg c_109, if_pos c_123]; done) | (rw [if_neg c_94, if_neg c_109, if_neg c_123]; first | done | rfl) | (rw [if_neg c_94, if_neg c_109]; first | done | rfl))
                  have hPe : va_P (dC, dI) classes (wM ab cI cZ (va_up mk 6 (nI (kTell (haB (mk 0) x && inB y.toInt64 0 3)))) mv) H := by exact hP
                  exact W.lret (v := (sumL (thS mv x) (arM (va_up mk 6 (nI (kTell (haB (mk 0) x && inB y.toInt64 0 3)))) mv mn) i)) hx hb hr (fun t ht hW => ⟨by rw [er], by rw [ht]; exact hPe, hS.F ht⟩) hS.2.2 d_M_storeyAt_132
                · refine lv_lload_n hx hb d_M_storeyAt_126 rfl (lv_at hl 3 rfl) ?_
                  refine lv_goto (tgt := 132) hx hb d_M_storeyAt_127 (by decide) ?_
                  have er : ((some (.long (if (haB (mk 0) x && inB y.toInt64 0 3) = true then saM mk mv mn x y else 0))) : Option Value) = some (.long (lN (cnt (thS mv x) i))) := by first | (rw [if_neg (by rw [hR]; decide)]; done) | (rw [if_pos hR, saM, ec, ← hi2]; first | (rw [if_pos c_94]; done) | (rw [if_neg c_94, if_pos c_109]; first | done | rfl) | (rw [if_neg c_94, if_neg c_109, if_pos c_123]; done) | (rw [if_neg c_94, if_neg c_109, if_neg c_123]; first | done | rfl) | (rw [if_neg c_94, if_neg c_109]; first | done | rfl))
                  have hPe : va_P (dC, dI) classes (wM ab cI cZ (va_up mk 6 (nI (kTell (haB (mk 0) x && inB y.toInt64 0 3)))) mv) H := by exact hP
                  exact W.lret (v := (lN (cnt (thS mv x) i))) hx hb hr (fun t ht hW => ⟨by rw [er], by rw [ht]; exact hPe, hS.F ht⟩) hS.2.2 d_M_storeyAt_132
              · refine lv_aload_n hx hb d_M_storeyAt_112 rfl (lv_at hl 0 rfl) ?_
                refine lv_iload_n hx hb d_M_storeyAt_113 rfl (lv_at hl 1 rfl) ?_
                refine cR (W.runV (As := [.int (nI j)]) (rest := []) ⟨hx, hb, hml, hown, hts⟩ (c_M_height hP (hM6 hM) (show j < 6 by omega)) (cwV 1 hts (wB_goodV (fun _ h => h) ml_M_138 im_M_height se_M_height ini_M co_M_height) rfl rfl rfl (by decide +kernel) ⟨Nat.le_of_ble_eq_true rfl, Nat.le_of_ble_eq_true rfl⟩) (pV hK hP (ci := 6) (q0 := 0) rfl rfl _) rfl rfl hl.1 rfl (lv_room (Nat.le_of_ble_eq_true rfl)) d_M_storeyAt_114 ⟨Nat.zero_le _, Nat.zero_le _⟩) ?_
                refine lv_i2l (v := (heC (va_up mk 6 (nI (kTell (haB (mk 0) x && inB y.toInt64 0 3)))) mv j).toInt64) hx hb d_M_storeyAt_117 rfl ?_
                refine lv_goto (tgt := 132) hx hb d_M_storeyAt_118 (by decide) ?_
                have er : ((some (.long (if (haB (mk 0) x && inB y.toInt64 0 3) = true then saM mk mv mn x y else 0))) : Option Value) = some (.long ((heC (va_up mk 6 (nI (kTell (haB (mk 0) x && inB y.toInt64 0 3)))) mv j).toInt64)) := by first | (rw [if_neg (by rw [hR]; decide)]; done) | (rw [if_pos hR, saM, ec, ← hi2]; first | (rw [if_pos c_94]; done) | (rw [if_neg c_94, if_pos c_109]; first | done | rfl) | (rw [if_neg c_94, if_neg c_109, if_pos c_123]; done) | (rw [if_neg c_94, if_neg c_109, if_neg c_123]; first | done | rfl) | (rw [if_neg c_94, if_neg c_109]; first | done | rfl))
                have hPe : va_P (dC, dI) classes (wM ab cI cZ (va_up mk 6 (nI (kTell (haB (mk 0) x && inB y.toInt64 0 3)))) mv) H := by exact hP
                exact W.lret (v := ((heC (va_up mk 6 (nI (kTell (haB (mk 0) x && inB y.toInt64 0 3)))) mv j).toInt64)) hx hb hr (fun t ht hW => ⟨by rw [er], by rw [ht]; exact hPe, hS.F ht⟩) hS.2.2 d_M_storeyAt_132
            · refine lv_aload_n hx hb d_M_storeyAt_97 rfl (lv_at hl 0 rfl) ?_
              refine va_get (D := (dC, dI)) (ci := 6) (v := .ref (ab 2)) (C := R_M) (T := F_M) (N := 20) hx hb hts i_M hown hK hP 0 rfl rfl 5 (by decide) (hts _ fl_M_13) (fun _ h9 => h9) rfl d_M_storeyAt_98 ?_
              refine lv_iload_n hx hb d_M_storeyAt_101 rfl (lv_at hl 1 rfl) ?_
              refine va_iald hx hb hK hP 2 0 rfl rfl (vp_in_nI (by omega) (by omega)) d_M_storeyAt_102 ?_
              rw [nI_clamp (show j < 2 ^ 31 by omega)]
              refine lv_i2l (v := ((mv 0) j).toInt64) hx hb d_M_storeyAt_103 rfl ?_
              refine lv_goto (tgt := 132) hx hb d_M_storeyAt_104 (by decide) ?_
              have er : ((some (.long (if (haB (mk 0) x && inB y.toInt64 0 3) = true then saM mk mv mn x y else 0))) : Option Value) = some (.long (((mv 0) j).toInt64)) := by first | (rw [if_neg (by rw [hR]; decide)]; done) | (rw [if_pos hR, saM, ec, ← hi2]; first | (rw [if_pos c_94]; done) | (rw [if_neg c_94, if_pos c_109]; first | done | rfl) | (rw [if_neg c_94, if_neg c_109, if_pos c_123]; done) | (rw [if_neg c_94, if_neg c_109, if_neg c_123]; first | done | rfl) | (rw [if_neg c_94, if_neg c_109]; first | done | rfl))
              have hPe : va_P (dC, dI) classes (wM ab cI cZ (va_up mk 6 (nI (kTell (haB (mk 0) x && inB y.toInt64 0 3)))) mv) H := by exact hP
              exact W.lret (v := (((mv 0) j).toInt64)) hx hb hr (fun t ht hW => ⟨by rw [er], by rw [ht]; exact hPe, hS.F ht⟩) hS.2.2 d_M_storeyAt_132
          · have hi2 : i < mn 2 := ltC (eK 2 (by decide)) c_48 (by omega) (by omega)
            refine lv_aload_n hx hb d_M_storeyAt_51 rfl (lv_at hl 0 rfl) ?_
            refine va_get (D := (dC, dI)) (ci := 6) (v := .ref (ab 10)) (C := R_M) (T := F_M) (N := 20) hx hb hts i_M hown hK hP 0 rfl rfl 15 (by decide) (hts _ fl_M_37) (fun _ h9 => h9) rfl d_M_storeyAt_52 ?_
            refine lv_iload hx hb d_M_storeyAt_55 (lv_at hl 5 rfl) ?_
            refine va_zald hx hb hK hP 10 1 rfl rfl (vp_in_nI (by omega) (by omega)) d_M_storeyAt_57 ?_
            rw [nI_clamp (show i < 2 ^ 31 by omega)]
            refine lv_if_eq (tgt := 87) hx hb d_M_storeyAt_58 (by decide) (fun c_58 => ?_) (fun c_58 => ?_)
            · refine lv_iinc (v := (nI (i + 1))) (lv' := [(7, .int (nI (i + 1))), (0, .ref (ab 0)), (1, .int x), (2, .int y), (3, .long (lN (cnt (thS mv x) i))), (5, .long (sumL (thS mv x) (arM (va_up mk 6 (nI (kTell (haB (mk 0) x && inB y.toInt64 0 3)))) mv mn) i))]) hx hb d_M_storeyAt_87 hl (k := 5) rfl (nI_1 _) (by decide) rfl (fun ls hl => ?_)
              refine lv_goto (tgt := 42) hx hb d_M_storeyAt_90 (by decide) ?_
              have hp9 : thS mv x i = false := by first | (simp [thS, c_58]; done) | (simp [thS, c_69]; done)
              rw [cnt_f (p := (thS mv x)) hp9, sumL_f (p := (thS mv x)) (f := (arM (va_up mk 6 (nI (kTell (haB (mk 0) x && inB y.toInt64 0 3)))) mv mn)) hp9] at hl
              exact ih_42 (i + 1) (by omega) (by omega) _ _ hP hS ls (lv_sub hl [1, 2, 3, 4, 5, 0] rfl)
            · refine lv_aload_n hx hb d_M_storeyAt_61 rfl (lv_at hl 0 rfl) ?_
              refine va_get (D := (dC, dI)) (ci := 6) (v := .ref (ab 4)) (C := R_M) (T := F_M) (N := 20) hx hb hts i_M hown hK hP 0 rfl rfl 9 (by decide) (hts _ fl_M_19) (fun _ h9 => h9) rfl d_M_storeyAt_62 ?_
              refine lv_iload hx hb d_M_storeyAt_65 (lv_at hl 5 rfl) ?_
              refine va_iald hx hb hK hP 4 0 rfl rfl (vp_in_nI (by omega) (by omega)) d_M_storeyAt_67 ?_
              rw [nI_clamp (show i < 2 ^ 31 by omega)]
              refine lv_iload_n hx hb d_M_storeyAt_68 rfl (lv_at hl 1 rfl) ?_
              refine lv_icmp_ne (tgt := 87) hx hb d_M_storeyAt_69 (by decide) (fun c_69 => ?_) (fun c_69 => ?_)
              · refine lv_iinc (v := (nI (i + 1))) (lv' := [(7, .int (nI (i + 1))), (0, .ref (ab 0)), (1, .int x), (2, .int y), (3, .long (lN (cnt (thS mv x) i))), (5, .long (sumL (thS mv x) (arM (va_up mk 6 (nI (kTell (haB (mk 0) x && inB y.toInt64 0 3)))) mv mn) i))]) hx hb d_M_storeyAt_87 hl (k := 5) rfl (nI_1 _) (by decide) rfl (fun ls hl => ?_)
                refine lv_goto (tgt := 42) hx hb d_M_storeyAt_90 (by decide) ?_
                have hp9 : thS mv x i = false := by first | (simp [thS, c_58]; done) | (simp [thS, c_69]; done)
                rw [cnt_f (p := (thS mv x)) hp9, sumL_f (p := (thS mv x)) (f := (arM (va_up mk 6 (nI (kTell (haB (mk 0) x && inB y.toInt64 0 3)))) mv mn)) hp9] at hl
                exact ih_42 (i + 1) (by omega) (by omega) _ _ hP hS ls (lv_sub hl [1, 2, 3, 4, 5, 0] rfl)
              · refine lv_lload_n hx hb d_M_storeyAt_72 rfl (lv_at hl 3 rfl) ?_
                refine lv_lconst (v := 1) hx hb d_M_storeyAt_73 (by decide) ?_
                refine lv_ladd hx hb d_M_storeyAt_74 ?_
                refine lv_lstore_n (lv' := [(3, .long ((lN (cnt (thS mv x) i)) + 1)), (0, .ref (ab 0)), (1, .int x), (2, .int y), (5, .long (sumL (thS mv x) (arM (va_up mk 6 (nI (kTell (haB (mk 0) x && inB y.toInt64 0 3)))) mv mn) i)), (7, .int (nI i))]) hx hb d_M_storeyAt_75 rfl hl (by decide) rfl (fun ls hl => ?_)
                refine lv_lload hx hb d_M_storeyAt_76 (lv_at hl 4 rfl) ?_
                refine lv_aload_n hx hb d_M_storeyAt_78 rfl (lv_at hl 1 rfl) ?_
                refine lv_iload hx hb d_M_storeyAt_79 (lv_at hl 5 rfl) ?_
                refine cRL (W.runV (As := [.int (nI i)]) (rest := [.long (sumL (thS mv x) (arM (va_up mk 6 (nI (kTell (haB (mk 0) x && inB y.toInt64 0 3)))) mv mn) i)]) ⟨hx, hb, hml, hown, hts⟩ (c_M_area hP (hM6 hM) hV hi2) (cwV 1 hts (wB_goodV (fun _ h => h) ml_M_154 im_M_area se_M_area ini_M co_M_area) rfl rfl rfl (by decide +kernel) ⟨Nat.le_of_ble_eq_true rfl, Nat.le_of_ble_eq_true rfl⟩) (pV hK hP (ci := 6) (q0 := 0) rfl rfl _) rfl rfl hl.1 rfl (lv_room (Nat.le_of_ble_eq_true rfl)) d_M_storeyAt_81 ⟨Nat.zero_le _, Nat.zero_le _⟩) ?_
                refine lv_ladd hx hb d_M_storeyAt_84 ?_
                refine lv_lstore (lv' := [(5, .long ((sumL (thS mv x) (arM (va_up mk 6 (nI (kTell (haB (mk 0) x && inB y.toInt64 0 3)))) mv mn) i) + (arM (va_up mk 6 (nI (kTell (haB (mk 0) x && inB y.toInt64 0 3)))) mv mn i))), (3, .long ((lN (cnt (thS mv x) i)) + 1)), (0, .ref (ab 0)), (1, .int x), (2, .int y), (7, .int (nI i))]) hx hb d_M_storeyAt_85 hl (by decide) rfl (fun ls hl => ?_)
                refine lv_iinc (v := (nI (i + 1))) (lv' := [(7, .int (nI (i + 1))), (5, .long ((sumL (thS mv x) (arM (va_up mk 6 (nI (kTell (haB (mk 0) x && inB y.toInt64 0 3)))) mv mn) i) + (arM (va_up mk 6 (nI (kTell (haB (mk 0) x && inB y.toInt64 0 3)))) mv mn i))), (3, .long ((lN (cnt (thS mv x) i)) + 1)), (0, .ref (ab 0)), (1, .int x), (2, .int y)]) hx hb d_M_storeyAt_87 hl (k := 5) rfl (nI_1 _) (by decide) rfl (fun ls hl => ?_)
                refine lv_goto (tgt := 42) hx hb d_M_storeyAt_90 (by decide) ?_
                have hp9 : thS mv x i = true := by simp [thS, c_58]; simpa using c_69
                rw [lN_1, cnt_t (p := (thS mv x)) hp9, sumL_t (p := (thS mv x)) (f := (arM (va_up mk 6 (nI (kTell (haB (mk 0) x && inB y.toInt64 0 3)))) mv mn)) hp9] at hl
                exact ih_42 (i + 1) (by omega) (by omega) _ _ hP hS ls (lv_sub hl [3, 4, 5, 2, 1, 0] rfl)
      exact loop_42 (mn 2 + 1) 0 (by omega) (by omega) _ _ hP hS ls (lv_sub hl [3, 4, 5, 2, 1, 0] rfl)
    · have hR : (haB (mk 0) x && inB y.toInt64 0 3) = false := bI_0.mp c_29
      refine lv_lconst (v := 0) hx hb d_M_storeyAt_32 (by decide) ?_
      have er : ((some (.long (if (haB (mk 0) x && inB y.toInt64 0 3) = true then saM mk mv mn x y else 0))) : Option Value) = some (.long 0) := by first | (rw [if_neg (by rw [hR]; decide)]; done) | (rw [if_pos hR, saM, ec, ← hi2]; first | (rw [if_pos c_94]; done) | (rw [if_neg c_94, if_pos c_109]; first | done | rfl) | (rw [if_neg c_94, if_neg c_109, if_pos c_123]; done) | (rw [if_neg c_94, if_neg c_109, if_neg c_123]; first | done | rfl) | (rw [if_neg c_94, if_neg c_109]; first | done | rfl))
      have hPe : va_P (dC, dI) classes (wM ab cI cZ (va_up mk 6 (nI (kTell (haB (mk 0) x && inB y.toInt64 0 3)))) mv) H := by exact hP
      exact W.lret (v := 0) hx hb hr (fun t ht hW => ⟨by rw [er], by rw [ht]; exact hPe, hS.F ht⟩) hS.2.2 d_M_storeyAt_33
  refine lv_aload_n hx hb d_M_storeyAt_0 rfl (lv_at hl 0 rfl) ?_
  refine lv_aload_n hx hb d_M_storeyAt_1 rfl (lv_at hl 0 rfl) ?_
  refine lv_iload_n hx hb d_M_storeyAt_2 rfl (lv_at hl 1 rfl) ?_
  refine cR (W.runV (As := [.int x]) (rest := [.ref (ab 0)]) ⟨hx, hb, hml, hown, hts⟩ (c_M_isStorey hP x) (cwV 1 hts (wB_goodV (fun _ h => h) ml_M_106 im_M_isStorey se_M_isStorey ini_M co_M_isStorey) rfl rfl rfl (by decide +kernel) ⟨Nat.le_of_ble_eq_true rfl, Nat.le_of_ble_eq_true rfl⟩) (pV hK hP (ci := 6) (q0 := 0) rfl rfl _) rfl rfl hl.1 rfl (lv_room (Nat.le_of_ble_eq_true rfl)) d_M_storeyAt_3 ⟨Nat.zero_le _, Nat.zero_le _⟩) ?_
  refine lv_if_eq (tgt := 25) hx hb d_M_storeyAt_6 (by decide) (fun c_6 => ?_) (fun c_6 => ?_)
  · refine lv_iconst (v := 0) hx hb d_M_storeyAt_25 (by decide) ?_
    have em : bI (haB (mk 0) x && inB y.toInt64 0 3) = 0 := by first | (simp [bI, bI_0.mp c_6]; done) | (simp [bI, bI_n0.mp c_6, bI_0.mp c_18]; done) | (simp [bI, bI_n0.mp c_6, bI_n0.mp c_18]; done)
    exact W.eq (g2 := F0 m 26 ls [.int (bI (haB (mk 0) x && inB y.toInt64 0 3)), .ref (ab 0)]) (by rw [em]) (mg_26 ls (lv_sub hl [0, 1, 2] rfl))
  · refine lv_iload_n hx hb d_M_storeyAt_9 rfl (lv_at hl 2 rfl) ?_
    refine lv_i2l (v := y.toInt64) hx hb d_M_storeyAt_10 rfl ?_
    refine lv_lconst (v := 0) hx hb d_M_storeyAt_11 (by decide) ?_
    refine lv_ldc2 (v := 3) hx hb hown (hts _ kl_M_146) d_M_storeyAt_12 ?_
    refine cR (W.runS (As := [.long (y.toInt64), .long 0, .long 3]) (rest := [.ref (ab 0)]) ⟨hx, hb, hml, hown, hts⟩ (c_M_isIn (y.toInt64) 0 3) (cwS 3 hts (wB_goodS (fun _ h => h) ml_M_67 st_M_isIn ini_M co_M_isIn) rfl rfl rfl (by decide +kernel) ⟨Nat.le_of_ble_eq_true rfl, Nat.le_of_ble_eq_true rfl⟩) (pS hK _) rfl rfl hl.1 rfl (lv_room (Nat.le_of_ble_eq_true rfl)) d_M_storeyAt_15 ⟨Nat.zero_le _, Nat.zero_le _⟩) ?_
    refine lv_if_eq (tgt := 25) hx hb d_M_storeyAt_18 (by decide) (fun c_18 => ?_) (fun c_18 => ?_)
    · refine lv_iconst (v := 0) hx hb d_M_storeyAt_25 (by decide) ?_
      have em : bI (haB (mk 0) x && inB y.toInt64 0 3) = 0 := by first | (simp [bI, bI_0.mp c_6]; done) | (simp [bI, bI_n0.mp c_6, bI_0.mp c_18]; done) | (simp [bI, bI_n0.mp c_6, bI_n0.mp c_18]; done)
      exact W.eq (g2 := F0 m 26 ls [.int (bI (haB (mk 0) x && inB y.toInt64 0 3)), .ref (ab 0)]) (by rw [em]) (mg_26 ls (lv_sub hl [0, 1, 2] rfl))
    · refine lv_iconst (v := 1) hx hb d_M_storeyAt_21 (by decide) ?_
      refine lv_goto (tgt := 26) hx hb d_M_storeyAt_22 (by decide) ?_
      have em : bI (haB (mk 0) x && inB y.toInt64 0 3) = 1 := by first | (simp [bI, bI_0.mp c_6]; done) | (simp [bI, bI_n0.mp c_6, bI_0.mp c_18]; done) | (simp [bI, bI_n0.mp c_6, bI_n0.mp c_18]; done)
      exact W.eq (g2 := F0 m 26 ls [.int (bI (haB (mk 0) x && inB y.toInt64 0 3)), .ref (ab 0)]) (by rw [em]) (mg_26 ls (lv_sub hl [0, 1, 2] rfl))
set_option maxRecDepth 100000 in
set_option maxHeartbeats 4000000 in
theorem c_M_typeAt (hP : va_P (dC, dI) classes (wM ab cI cZ mk mv) H) (hdD : dD noT ab 14) (hM : okM mk mn) (hV : okV mn mv) (x y : Int32) : Met l y_M_typeAt (wB y_M_typeAt b_M_typeAt 8 (some .long)) ({ frames := 3, cells := 0, slots := 0, locals := 68 } : Room) (rP [.ref (ab 0), .int x, .int y] H (kK dC dI cI cZ cJ)) (qW (some (.long (if (haB (mk 1) x && inB y.toInt64 0 2) = true then taM mv mn x y else 0))) (aN ab 14) (fun H1 => va_P (dC, dI) classes (wM ab cI cZ (va_up mk 6 (nI (kTell (haB (mk 1) x && inB y.toInt64 0 2)))) mv) H1)) 0 0 (aN ab 14) := by
  refine Met.ofW (cc := b_M_typeAt) (maxL := 8) (ret := (some .long)) (by decide) rfl ?_
  intro p e s m args below meth c s₁ B hml hv
  obtain ⟨rfl, rfl, hK⟩ := hv
  have hx := B.exec
  have hb := B.bytes
  have hr := B.returns
  have hts0 := atoms_spec (ws := (wB y_M_typeAt b_M_typeAt 8 (some .long))) B.pre
  have hts : ∀ w9 ∈ BG, w9.before [.ref (ab 0), .int x, .int y].toArray s = true := fun w9 hw9 => hts0 w9 (List.mem_cons_of_mem _ hw9)
  have hown : s.vm.findClass R_M = some m.cls := findClass_of_methodNamed B.named
  have hlocks := B.notSynchronized
  have hK : va_K (dC, dI) classes [(cI, .int), (cZ, .boolean), (cJ, .long)] s := hK
  have hD : va_D (aN ab 14) (wM ab cI cZ mk mv) := wM_D (dD_aN hdD)
  have hS : va_S (aN ab 14) s.heap s.heap [] := va_S.rf
  have hl := lv_entry ([.ref (ab 0), .int x, .int y]) (n := 8) (Nat.le_of_ble_eq_true rfl)
  rw [lg_entry_eq]
  generalize (lg_sl ([.ref (ab 0), .int x, .int y]) ++ List.replicate (8 - (lg_sl ([.ref (ab 0), .int x, .int y])).length) Slot.unset).toArray = ls at hl ⊢
  have hl : lv_has ls 8 [(0, .ref (ab 0)), (1, .int x), (2, .int y)] := hl
  obtain ⟨eK, b0, b1, b2, b3, b4, b5⟩ := id hM
  have hM6 := @okM_6 mk mn
  have mg_26 : ∀ (ls : Array Slot), lv_has ls 8 [(0, .ref (ab 0)), (1, .int x), (2, .int y)] → W p l e (headSpec (wB y_M_typeAt b_M_typeAt 8 (some .long)) ({ frames := 3, cells := 0, slots := 0, locals := 68 } : Room)).room s m [.ref (ab 0), .int x, .int y].toArray below meth c s.heap [] 0 0 (MQ below (qW (some (.long (if (haB (mk 1) x && inB y.toInt64 0 2) = true then taM mv mn x y else 0))) (aN ab 14) (fun H1 => va_P (dC, dI) classes (wM ab cI cZ (va_up mk 6 (nI (kTell (haB (mk 1) x && inB y.toInt64 0 2)))) mv) H1)) [.ref (ab 0), .int x, .int y].toArray s 0 0 (aN ab 14)) (F0 m 26 ls [.int (bI (haB (mk 1) x && inB y.toInt64 0 2)), .ref (ab 0)]) := by
    intro ls hl
    refine cW (W.runV (As := [.int (bI (haB (mk 1) x && inB y.toInt64 0 2))]) (rest := []) ⟨hx, hb, hml, hown, hts⟩ (c_M_tells hP hdD (haB (mk 1) x && inB y.toInt64 0 2)) (cwV 1 hts (wB_goodV (fun _ h => h) ml_M_148 im_M_tells se_M_tells ini_M co_M_tells) rfl rfl rfl (by decide +kernel) ⟨Nat.le_of_ble_eq_true rfl, Nat.le_of_ble_eq_true rfl⟩) (pV hK hP (ci := 6) (q0 := 0) rfl rfl _) rfl rfl hl.1 rfl (lv_room (Nat.le_of_ble_eq_true rfl)) d_M_typeAt_26 ⟨Nat.zero_le _, Nat.zero_le _⟩) hS (fun _ h => h) (fun H locs hP hS _ _ => ?_)
    have hP : va_P (dC, dI) classes (wM ab cI cZ (va_up mk 6 (nI (kTell (haB (mk 1) x && inB y.toInt64 0 2)))) mv) H := hP
    have hD : va_D (aN ab 14) (wM ab cI cZ (va_up mk 6 (nI (kTell (haB (mk 1) x && inB y.toInt64 0 2)))) mv) := wM_D (dD_aN hdD)
    refine lv_if_ne (tgt := 34) hx hb d_M_typeAt_29 (by decide) (fun c_29 => ?_) (fun c_29 => ?_)
    · have hR : (haB (mk 1) x && inB y.toInt64 0 2) = true := bI_n0.mp c_29
      obtain ⟨j, hj, ej⟩ := haB_n (eK 1 (by decide)) (by omega) (Bool.and_eq_true _ _ ▸ hR).1
      have ec : x.toNatClampNeg = j := by rw [ej]; exact nI_clamp (by omega)
      refine lv_lconst (v := 0) hx hb d_M_typeAt_34 (by decide) ?_
      refine lv_lstore_n (lv' := [(3, .long 0), (0, .ref (ab 0)), (1, .int x), (2, .int y)]) hx hb d_M_typeAt_35 rfl hl (by decide) rfl (fun ls hl => ?_)
      refine lv_lconst (v := 0) hx hb d_M_typeAt_36 (by decide) ?_
      refine lv_lstore (lv' := [(5, .long 0), (3, .long 0), (0, .ref (ab 0)), (1, .int x), (2, .int y)]) hx hb d_M_typeAt_37 hl (by decide) rfl (fun ls hl => ?_)
      refine lv_iconst (v := 0) hx hb d_M_typeAt_39 (by decide) ?_
      refine lv_istore (lv' := [(7, .int 0), (5, .long 0), (3, .long 0), (0, .ref (ab 0)), (1, .int x), (2, .int y)]) hx hb d_M_typeAt_40 hl (by decide) rfl (fun ls hl => ?_)
      have loop_42 : ∀ (k9 i : Nat), mn 2 + 1 ≤ i + k9 → i ≤ mn 2 → ∀ (H : Heap) (locs : List Loc), va_P (dC, dI) classes (wM ab cI cZ (va_up mk 6 (nI (kTell (haB (mk 1) x && inB y.toInt64 0 2)))) mv) H → va_S (aN ab 14) s.heap H locs → ∀ (ls : Array Slot), lv_has ls 8 [(0, .ref (ab 0)), (1, .int x), (2, .int y), (3, .long (lN (cnt (tyS mv x) i))), (5, .long (sumL (tyS mv x) (fun i => (neM mv mn i).toInt64) i)), (7, .int (nI i))] → W p l e (headSpec (wB y_M_typeAt b_M_typeAt 8 (some .long)) ({ frames := 3, cells := 0, slots := 0, locals := 68 } : Room)).room s m [.ref (ab 0), .int x, .int y].toArray below meth c H locs 0 0 (MQ below (qW (some (.long (if (haB (mk 1) x && inB y.toInt64 0 2) = true then taM mv mn x y else 0))) (aN ab 14) (fun H1 => va_P (dC, dI) classes (wM ab cI cZ (va_up mk 6 (nI (kTell (haB (mk 1) x && inB y.toInt64 0 2)))) mv) H1)) [.ref (ab 0), .int x, .int y].toArray s 0 0 (aN ab 14)) (F0 m 42 ls []) := by
        intro k9_42
        induction k9_42 with
        | zero => intro i  hk_42 hi H locs hP hS ls hl; exact absurd hk_42 (by omega)
        | succ k9_42 ih_42 =>
          intro i  hk_42 hi H locs hP hS ls hl
          have hD : va_D (aN ab 14) (wM ab cI cZ (va_up mk 6 (nI (kTell (haB (mk 1) x && inB y.toInt64 0 2)))) mv) := wM_D (dD_aN hdD)
          refine lv_iload hx hb d_M_typeAt_42 (lv_at hl 5 rfl) ?_
          refine lv_aload_n hx hb d_M_typeAt_44 rfl (lv_at hl 0 rfl) ?_
          refine va_get (D := (dC, dI)) (ci := 6) (v := .int ((va_up mk 6 (nI (kTell (haB (mk 1) x && inB y.toInt64 0 2)))) 2)) (C := R_M) (T := F_M) (N := 20) hx hb hts i_M hown hK hP 0 rfl rfl 8 (by decide) (hts _ fl_M_60) (fun _ h9 => h9) rfl d_M_typeAt_45 ?_
          refine lv_icmp_ge (tgt := 94) hx hb d_M_typeAt_48 (by decide) (fun c_48 => ?_) (fun c_48 => ?_)
          · have hi2 : i = mn 2 := Nat.le_antisymm hi (geC (eK 2 (by decide)) c_48 (by omega) (by omega))
            have hl : lv_has ls 8 [(0, .ref (ab 0)), (1, .int (nI j)), (2, .int y), (3, .long (lN (cnt (tyS mv x) i))), (5, .long (sumL (tyS mv x) (fun i => (neM mv mn i).toInt64) i)), (7, .int (nI i))] := by rw [← ej]; exact hl
            refine lv_iload_n hx hb d_M_typeAt_94 rfl (lv_at hl 2 rfl) ?_
            refine lv_if_ne (tgt := 108) hx hb d_M_typeAt_95 (by decide) (fun c_95 => ?_) (fun c_95 => ?_)
            · refine lv_iload_n hx hb d_M_typeAt_108 rfl (lv_at hl 2 rfl) ?_
              refine lv_iconst (v := 1) hx hb d_M_typeAt_109 (by decide) ?_
              refine lv_icmp_ne (tgt := 117) hx hb d_M_typeAt_110 (by decide) (fun c_110 => ?_) (fun c_110 => ?_)
              · refine lv_lload hx hb d_M_typeAt_117 (lv_at hl 4 rfl) ?_
                have er : ((some (.long (if (haB (mk 1) x && inB y.toInt64 0 2) = true then taM mv mn x y else 0))) : Option Value) = some (.long (sumL (tyS mv x) (fun i => (neM mv mn i).toInt64) i)) := by first | (rw [if_neg (by rw [hR]; decide)]; done) | (rw [if_pos hR, taM, ec, ← hi2]; first | (rw [if_pos c_95]; done) | (rw [if_neg c_95, if_pos c_110]; first | done | rfl) | (rw [if_neg c_95, if_neg c_110, if_pos c_999]; done) | (rw [if_neg c_95, if_neg c_110, if_neg c_999]; first | done | rfl) | (rw [if_neg c_95, if_neg c_110]; first | done | rfl))
                have hPe : va_P (dC, dI) classes (wM ab cI cZ (va_up mk 6 (nI (kTell (haB (mk 1) x && inB y.toInt64 0 2)))) mv) H := by exact hP
                exact W.lret (v := (sumL (tyS mv x) (fun i => (neM mv mn i).toInt64) i)) hx hb hr (fun t ht hW => ⟨by rw [er], by rw [ht]; exact hPe, hS.F ht⟩) hS.2.2 d_M_typeAt_119
              · refine lv_lload_n hx hb d_M_typeAt_113 rfl (lv_at hl 3 rfl) ?_
                refine lv_goto (tgt := 119) hx hb d_M_typeAt_114 (by decide) ?_
                have er : ((some (.long (if (haB (mk 1) x && inB y.toInt64 0 2) = true then taM mv mn x y else 0))) : Option Value) = some (.long (lN (cnt (tyS mv x) i))) := by first | (rw [if_neg (by rw [hR]; decide)]; done) | (rw [if_pos hR, taM, ec, ← hi2]; first | (rw [if_pos c_95]; done) | (rw [if_neg c_95, if_pos c_110]; first | done | rfl) | (rw [if_neg c_95, if_neg c_110, if_pos c_999]; done) | (rw [if_neg c_95, if_neg c_110, if_neg c_999]; first | done | rfl) | (rw [if_neg c_95, if_neg c_110]; first | done | rfl))
                have hPe : va_P (dC, dI) classes (wM ab cI cZ (va_up mk 6 (nI (kTell (haB (mk 1) x && inB y.toInt64 0 2)))) mv) H := by exact hP
                exact W.lret (v := (lN (cnt (tyS mv x) i))) hx hb hr (fun t ht hW => ⟨by rw [er], by rw [ht]; exact hPe, hS.F ht⟩) hS.2.2 d_M_typeAt_119
            · refine lv_aload_n hx hb d_M_typeAt_98 rfl (lv_at hl 0 rfl) ?_
              refine va_get (D := (dC, dI)) (ci := 6) (v := .ref (ab 3)) (C := R_M) (T := F_M) (N := 20) hx hb hts i_M hown hK hP 0 rfl rfl 7 (by decide) (hts _ fl_M_16) (fun _ h9 => h9) rfl d_M_typeAt_99 ?_
              refine lv_iload_n hx hb d_M_typeAt_102 rfl (lv_at hl 1 rfl) ?_
              refine va_iald hx hb hK hP 3 0 rfl rfl (vp_in_nI (by omega) (by omega)) d_M_typeAt_103 ?_
              rw [nI_clamp (show j < 2 ^ 31 by omega)]
              refine lv_i2l (v := ((mv 1) j).toInt64) hx hb d_M_typeAt_104 rfl ?_
              refine lv_goto (tgt := 119) hx hb d_M_typeAt_105 (by decide) ?_
              have er : ((some (.long (if (haB (mk 1) x && inB y.toInt64 0 2) = true then taM mv mn x y else 0))) : Option Value) = some (.long (((mv 1) j).toInt64)) := by first | (rw [if_neg (by rw [hR]; decide)]; done) | (rw [if_pos hR, taM, ec, ← hi2]; first | (rw [if_pos c_95]; done) | (rw [if_neg c_95, if_pos c_110]; first | done | rfl) | (rw [if_neg c_95, if_neg c_110, if_pos c_999]; done) | (rw [if_neg c_95, if_neg c_110, if_neg c_999]; first | done | rfl) | (rw [if_neg c_95, if_neg c_110]; first | done | rfl))
              have hPe : va_P (dC, dI) classes (wM ab cI cZ (va_up mk 6 (nI (kTell (haB (mk 1) x && inB y.toInt64 0 2)))) mv) H := by exact hP
              exact W.lret (v := (((mv 1) j).toInt64)) hx hb hr (fun t ht hW => ⟨by rw [er], by rw [ht]; exact hPe, hS.F ht⟩) hS.2.2 d_M_typeAt_119
          · have hi2 : i < mn 2 := ltC (eK 2 (by decide)) c_48 (by omega) (by omega)
            refine lv_aload_n hx hb d_M_typeAt_51 rfl (lv_at hl 0 rfl) ?_
            refine va_get (D := (dC, dI)) (ci := 6) (v := .ref (ab 10)) (C := R_M) (T := F_M) (N := 20) hx hb hts i_M hown hK hP 0 rfl rfl 15 (by decide) (hts _ fl_M_37) (fun _ h9 => h9) rfl d_M_typeAt_52 ?_
            refine lv_iload hx hb d_M_typeAt_55 (lv_at hl 5 rfl) ?_
            refine va_zald hx hb hK hP 10 1 rfl rfl (vp_in_nI (by omega) (by omega)) d_M_typeAt_57 ?_
            rw [nI_clamp (show i < 2 ^ 31 by omega)]
            refine lv_if_eq (tgt := 88) hx hb d_M_typeAt_58 (by decide) (fun c_58 => ?_) (fun c_58 => ?_)
            · refine lv_iinc (v := (nI (i + 1))) (lv' := [(7, .int (nI (i + 1))), (0, .ref (ab 0)), (1, .int x), (2, .int y), (3, .long (lN (cnt (tyS mv x) i))), (5, .long (sumL (tyS mv x) (fun i => (neM mv mn i).toInt64) i))]) hx hb d_M_typeAt_88 hl (k := 5) rfl (nI_1 _) (by decide) rfl (fun ls hl => ?_)
              refine lv_goto (tgt := 42) hx hb d_M_typeAt_91 (by decide) ?_
              have hp9 : tyS mv x i = false := by first | (simp [tyS, c_58]; done) | (simp [tyS, c_69]; done)
              rw [cnt_f (p := (tyS mv x)) hp9, sumL_f (p := (tyS mv x)) (f := (fun i => (neM mv mn i).toInt64)) hp9] at hl
              exact ih_42 (i + 1) (by omega) (by omega) _ _ hP hS ls (lv_sub hl [1, 2, 3, 4, 5, 0] rfl)
            · refine lv_aload_n hx hb d_M_typeAt_61 rfl (lv_at hl 0 rfl) ?_
              refine va_get (D := (dC, dI)) (ci := 6) (v := .ref (ab 5)) (C := R_M) (T := F_M) (N := 20) hx hb hts i_M hown hK hP 0 rfl rfl 10 (by decide) (hts _ fl_M_22) (fun _ h9 => h9) rfl d_M_typeAt_62 ?_
              refine lv_iload hx hb d_M_typeAt_65 (lv_at hl 5 rfl) ?_
              refine va_iald hx hb hK hP 5 0 rfl rfl (vp_in_nI (by omega) (by omega)) d_M_typeAt_67 ?_
              rw [nI_clamp (show i < 2 ^ 31 by omega)]
              refine lv_iload_n hx hb d_M_typeAt_68 rfl (lv_at hl 1 rfl) ?_
              refine lv_icmp_ne (tgt := 88) hx hb d_M_typeAt_69 (by decide) (fun c_69 => ?_) (fun c_69 => ?_)
              · refine lv_iinc (v := (nI (i + 1))) (lv' := [(7, .int (nI (i + 1))), (0, .ref (ab 0)), (1, .int x), (2, .int y), (3, .long (lN (cnt (tyS mv x) i))), (5, .long (sumL (tyS mv x) (fun i => (neM mv mn i).toInt64) i))]) hx hb d_M_typeAt_88 hl (k := 5) rfl (nI_1 _) (by decide) rfl (fun ls hl => ?_)
                refine lv_goto (tgt := 42) hx hb d_M_typeAt_91 (by decide) ?_
                have hp9 : tyS mv x i = false := by first | (simp [tyS, c_58]; done) | (simp [tyS, c_69]; done)
                rw [cnt_f (p := (tyS mv x)) hp9, sumL_f (p := (tyS mv x)) (f := (fun i => (neM mv mn i).toInt64)) hp9] at hl
                exact ih_42 (i + 1) (by omega) (by omega) _ _ hP hS ls (lv_sub hl [1, 2, 3, 4, 5, 0] rfl)
              · refine lv_lload_n hx hb d_M_typeAt_72 rfl (lv_at hl 3 rfl) ?_
                refine lv_lconst (v := 1) hx hb d_M_typeAt_73 (by decide) ?_
                refine lv_ladd hx hb d_M_typeAt_74 ?_
                refine lv_lstore_n (lv' := [(3, .long ((lN (cnt (tyS mv x) i)) + 1)), (0, .ref (ab 0)), (1, .int x), (2, .int y), (5, .long (sumL (tyS mv x) (fun i => (neM mv mn i).toInt64) i)), (7, .int (nI i))]) hx hb d_M_typeAt_75 rfl hl (by decide) rfl (fun ls hl => ?_)
                refine lv_lload hx hb d_M_typeAt_76 (lv_at hl 4 rfl) ?_
                refine lv_aload_n hx hb d_M_typeAt_78 rfl (lv_at hl 1 rfl) ?_
                refine lv_iload hx hb d_M_typeAt_79 (lv_at hl 5 rfl) ?_
                refine cR (W.runV (As := [.int (nI i)]) (rest := [.long (sumL (tyS mv x) (fun i => (neM mv mn i).toInt64) i)]) ⟨hx, hb, hml, hown, hts⟩ (c_M_net hP (hM6 hM) hV hi2) (cwV 1 hts (wB_goodV (fun _ h => h) ml_M_141 im_M_net se_M_net ini_M co_M_net) rfl rfl rfl (by decide +kernel) ⟨Nat.le_of_ble_eq_true rfl, Nat.le_of_ble_eq_true rfl⟩) (pV hK hP (ci := 6) (q0 := 0) rfl rfl _) rfl rfl hl.1 rfl (lv_room (Nat.le_of_ble_eq_true rfl)) d_M_typeAt_81 ⟨Nat.zero_le _, Nat.zero_le _⟩) ?_
                refine lv_i2l (v := (neM mv mn i).toInt64) hx hb d_M_typeAt_84 rfl ?_
                refine lv_ladd hx hb d_M_typeAt_85 ?_
                refine lv_lstore (lv' := [(5, .long ((sumL (tyS mv x) (fun i => (neM mv mn i).toInt64) i) + ((neM mv mn i).toInt64))), (3, .long ((lN (cnt (tyS mv x) i)) + 1)), (0, .ref (ab 0)), (1, .int x), (2, .int y), (7, .int (nI i))]) hx hb d_M_typeAt_86 hl (by decide) rfl (fun ls hl => ?_)
                refine lv_iinc (v := (nI (i + 1))) (lv' := [(7, .int (nI (i + 1))), (5, .long ((sumL (tyS mv x) (fun i => (neM mv mn i).toInt64) i) + ((neM mv mn i).toInt64))), (3, .long ((lN (cnt (tyS mv x) i)) + 1)), (0, .ref (ab 0)), (1, .int x), (2, .int y)]) hx hb d_M_typeAt_88 hl (k := 5) rfl (nI_1 _) (by decide) rfl (fun ls hl => ?_)
                refine lv_goto (tgt := 42) hx hb d_M_typeAt_91 (by decide) ?_
                have hp9 : tyS mv x i = true := by simp [tyS, c_58]; simpa using c_69
                rw [lN_1, cnt_t (p := (tyS mv x)) hp9, sumL_t (p := (tyS mv x)) (f := (fun i => (neM mv mn i).toInt64)) hp9] at hl
                exact ih_42 (i + 1) (by omega) (by omega) _ _ hP hS ls (lv_sub hl [3, 4, 5, 2, 1, 0] rfl)
      exact loop_42 (mn 2 + 1) 0 (by omega) (by omega) _ _ hP hS ls (lv_sub hl [3, 4, 5, 2, 1, 0] rfl)
    · have hR : (haB (mk 1) x && inB y.toInt64 0 2) = false := bI_0.mp c_29
      refine lv_lconst (v := 0) hx hb d_M_typeAt_32 (by decide) ?_
      have er : ((some (.long (if (haB (mk 1) x && inB y.toInt64 0 2) = true then taM mv mn x y else 0))) : Option Value) = some (.long 0) := by first | (rw [if_neg (by rw [hR]; decide)]; done) | (rw [if_pos hR, taM, ec, ← hi2]; first | (rw [if_pos c_95]; done) | (rw [if_neg c_95, if_pos c_110]; first | done | rfl) | (rw [if_neg c_95, if_neg c_110, if_pos c_999]; done) | (rw [if_neg c_95, if_neg c_110, if_neg c_999]; first | done | rfl) | (rw [if_neg c_95, if_neg c_110]; first | done | rfl))
      have hPe : va_P (dC, dI) classes (wM ab cI cZ (va_up mk 6 (nI (kTell (haB (mk 1) x && inB y.toInt64 0 2)))) mv) H := by exact hP
      exact W.lret (v := 0) hx hb hr (fun t ht hW => ⟨by rw [er], by rw [ht]; exact hPe, hS.F ht⟩) hS.2.2 d_M_typeAt_33
  refine lv_aload_n hx hb d_M_typeAt_0 rfl (lv_at hl 0 rfl) ?_
  refine lv_aload_n hx hb d_M_typeAt_1 rfl (lv_at hl 0 rfl) ?_
  refine lv_iload_n hx hb d_M_typeAt_2 rfl (lv_at hl 1 rfl) ?_
  refine cR (W.runV (As := [.int x]) (rest := [.ref (ab 0)]) ⟨hx, hb, hml, hown, hts⟩ (c_M_isType hP x) (cwV 1 hts (wB_goodV (fun _ h => h) ml_M_113 im_M_isType se_M_isType ini_M co_M_isType) rfl rfl rfl (by decide +kernel) ⟨Nat.le_of_ble_eq_true rfl, Nat.le_of_ble_eq_true rfl⟩) (pV hK hP (ci := 6) (q0 := 0) rfl rfl _) rfl rfl hl.1 rfl (lv_room (Nat.le_of_ble_eq_true rfl)) d_M_typeAt_3 ⟨Nat.zero_le _, Nat.zero_le _⟩) ?_
  refine lv_if_eq (tgt := 25) hx hb d_M_typeAt_6 (by decide) (fun c_6 => ?_) (fun c_6 => ?_)
  · refine lv_iconst (v := 0) hx hb d_M_typeAt_25 (by decide) ?_
    have em : bI (haB (mk 1) x && inB y.toInt64 0 2) = 0 := by first | (simp [bI, bI_0.mp c_6]; done) | (simp [bI, bI_n0.mp c_6, bI_0.mp c_18]; done) | (simp [bI, bI_n0.mp c_6, bI_n0.mp c_18]; done)
    exact W.eq (g2 := F0 m 26 ls [.int (bI (haB (mk 1) x && inB y.toInt64 0 2)), .ref (ab 0)]) (by rw [em]) (mg_26 ls (lv_sub hl [0, 1, 2] rfl))
  · refine lv_iload_n hx hb d_M_typeAt_9 rfl (lv_at hl 2 rfl) ?_
    refine lv_i2l (v := y.toInt64) hx hb d_M_typeAt_10 rfl ?_
    refine lv_lconst (v := 0) hx hb d_M_typeAt_11 (by decide) ?_
    refine lv_ldc2 (v := 2) hx hb hown (hts _ kl_M_158) d_M_typeAt_12 ?_
    refine cR (W.runS (As := [.long (y.toInt64), .long 0, .long 2]) (rest := [.ref (ab 0)]) ⟨hx, hb, hml, hown, hts⟩ (c_M_isIn (y.toInt64) 0 2) (cwS 3 hts (wB_goodS (fun _ h => h) ml_M_67 st_M_isIn ini_M co_M_isIn) rfl rfl rfl (by decide +kernel) ⟨Nat.le_of_ble_eq_true rfl, Nat.le_of_ble_eq_true rfl⟩) (pS hK _) rfl rfl hl.1 rfl (lv_room (Nat.le_of_ble_eq_true rfl)) d_M_typeAt_15 ⟨Nat.zero_le _, Nat.zero_le _⟩) ?_
    refine lv_if_eq (tgt := 25) hx hb d_M_typeAt_18 (by decide) (fun c_18 => ?_) (fun c_18 => ?_)
    · refine lv_iconst (v := 0) hx hb d_M_typeAt_25 (by decide) ?_
      have em : bI (haB (mk 1) x && inB y.toInt64 0 2) = 0 := by first | (simp [bI, bI_0.mp c_6]; done) | (simp [bI, bI_n0.mp c_6, bI_0.mp c_18]; done) | (simp [bI, bI_n0.mp c_6, bI_n0.mp c_18]; done)
      exact W.eq (g2 := F0 m 26 ls [.int (bI (haB (mk 1) x && inB y.toInt64 0 2)), .ref (ab 0)]) (by rw [em]) (mg_26 ls (lv_sub hl [0, 1, 2] rfl))
    · refine lv_iconst (v := 1) hx hb d_M_typeAt_21 (by decide) ?_
      refine lv_goto (tgt := 26) hx hb d_M_typeAt_22 (by decide) ?_
      have em : bI (haB (mk 1) x && inB y.toInt64 0 2) = 1 := by first | (simp [bI, bI_0.mp c_6]; done) | (simp [bI, bI_n0.mp c_6, bI_0.mp c_18]; done) | (simp [bI, bI_n0.mp c_6, bI_n0.mp c_18]; done)
      exact W.eq (g2 := F0 m 26 ls [.int (bI (haB (mk 1) x && inB y.toInt64 0 2)), .ref (ab 0)]) (by rw [em]) (mg_26 ls (lv_sub hl [0, 1, 2] rfl))
set_option maxRecDepth 100000 in
set_option maxHeartbeats 4000000 in
theorem c_M_body (hP : va_P (dC, dI) classes (wM ab cI cZ mk mv) H) (hdD : dD noT ab 14) (hM : okM mk mn) (hV : okV mn mv) (x1 x2 x3 x4 : Int32) : Met l y_M_body (wB y_M_body b_M_body 7 (some .int)) ({ frames := 2, cells := 0, slots := 0, locals := 51 } : Room) (rP [.ref (ab 0), .int x1, .int x2, .int x3, .int x4] H (kK dC dI cI cZ cJ)) (qW (some (.int (if (haB (mk 0) x1 && ipB x2.toInt64 x3.toInt64 && !decide (x4 < 0)) = true then oI (kth (bdM mv x1 x2 x3) x4.toNatClampNeg (mn 2)) else 0))) (aN ab 14) (fun H1 => va_P (dC, dI) classes (wM ab cI cZ (va_up mk 6 (nI (kTell (haB (mk 0) x1 && ipB x2.toInt64 x3.toInt64 && !decide (x4 < 0))))) mv) H1)) 0 0 (aN ab 14) := by
  refine Met.ofW (cc := b_M_body) (maxL := 7) (ret := (some .int)) (by decide) rfl ?_
  intro p e s m args below meth c s₁ B hml hv
  obtain ⟨rfl, rfl, hK⟩ := hv
  have hx := B.exec
  have hb := B.bytes
  have hr := B.returns
  have hts0 := atoms_spec (ws := (wB y_M_body b_M_body 7 (some .int))) B.pre
  have hts : ∀ w9 ∈ BG, w9.before [.ref (ab 0), .int x1, .int x2, .int x3, .int x4].toArray s = true := fun w9 hw9 => hts0 w9 (List.mem_cons_of_mem _ hw9)
  have hown : s.vm.findClass R_M = some m.cls := findClass_of_methodNamed B.named
  have hlocks := B.notSynchronized
  have hK : va_K (dC, dI) classes [(cI, .int), (cZ, .boolean), (cJ, .long)] s := hK
  have hD : va_D (aN ab 14) (wM ab cI cZ mk mv) := wM_D (dD_aN hdD)
  have hS : va_S (aN ab 14) s.heap s.heap [] := va_S.rf
  have hl := lv_entry ([.ref (ab 0), .int x1, .int x2, .int x3, .int x4]) (n := 7) (Nat.le_of_ble_eq_true rfl)
  rw [lg_entry_eq]
  generalize (lg_sl ([.ref (ab 0), .int x1, .int x2, .int x3, .int x4]) ++ List.replicate (7 - (lg_sl ([.ref (ab 0), .int x1, .int x2, .int x3, .int x4])).length) Slot.unset).toArray = ls at hl ⊢
  have hl : lv_has ls 7 [(0, .ref (ab 0)), (1, .int x1), (2, .int x2), (3, .int x3), (4, .int x4)] := hl
  obtain ⟨eK, b0, b1, b2, b3, b4, b5⟩ := id hM
  have hM6 := @okM_6 mk mn
  have mg_29 : ∀ (ls : Array Slot), lv_has ls 7 [(0, .ref (ab 0)), (1, .int x1), (2, .int x2), (3, .int x3), (4, .int x4)] → W p l e (headSpec (wB y_M_body b_M_body 7 (some .int)) ({ frames := 2, cells := 0, slots := 0, locals := 51 } : Room)).room s m [.ref (ab 0), .int x1, .int x2, .int x3, .int x4].toArray below meth c s.heap [] 0 0 (MQ below (qW (some (.int (if (haB (mk 0) x1 && ipB x2.toInt64 x3.toInt64 && !decide (x4 < 0)) = true then oI (kth (bdM mv x1 x2 x3) x4.toNatClampNeg (mn 2)) else 0))) (aN ab 14) (fun H1 => va_P (dC, dI) classes (wM ab cI cZ (va_up mk 6 (nI (kTell (haB (mk 0) x1 && ipB x2.toInt64 x3.toInt64 && !decide (x4 < 0))))) mv) H1)) [.ref (ab 0), .int x1, .int x2, .int x3, .int x4].toArray s 0 0 (aN ab 14)) (F0 m 29 ls [.int (bI (haB (mk 0) x1 && ipB x2.toInt64 x3.toInt64 && !decide (x4 < 0))), .ref (ab 0)]) := by
    intro ls hl
    refine cW (W.runV (As := [.int (bI (haB (mk 0) x1 && ipB x2.toInt64 x3.toInt64 && !decide (x4 < 0)))]) (rest := []) ⟨hx, hb, hml, hown, hts⟩ (c_M_tells hP hdD (haB (mk 0) x1 && ipB x2.toInt64 x3.toInt64 && !decide (x4 < 0))) (cwV 1 hts (wB_goodV (fun _ h => h) ml_M_148 im_M_tells se_M_tells ini_M co_M_tells) rfl rfl rfl (by decide +kernel) ⟨Nat.le_of_ble_eq_true rfl, Nat.le_of_ble_eq_true rfl⟩) (pV hK hP (ci := 6) (q0 := 0) rfl rfl _) rfl rfl hl.1 rfl (lv_room (Nat.le_of_ble_eq_true rfl)) d_M_body_29 ⟨Nat.zero_le _, Nat.zero_le _⟩) hS (fun _ h => h) (fun H locs hP hS _ _ => ?_)
    have hP : va_P (dC, dI) classes (wM ab cI cZ (va_up mk 6 (nI (kTell (haB (mk 0) x1 && ipB x2.toInt64 x3.toInt64 && !decide (x4 < 0))))) mv) H := hP
    have hD : va_D (aN ab 14) (wM ab cI cZ (va_up mk 6 (nI (kTell (haB (mk 0) x1 && ipB x2.toInt64 x3.toInt64 && !decide (x4 < 0))))) mv) := wM_D (dD_aN hdD)
    refine lv_if_ne (tgt := 37) hx hb d_M_body_32 (by decide) (fun c_32 => ?_) (fun c_32 => ?_)
    · have hR : (haB (mk 0) x1 && ipB x2.toInt64 x3.toInt64 && !decide (x4 < 0)) = true := bI_n0.mp c_32
      have h14 : ¬ x4 < 0 := by have h9 := hR; simp only [Bool.and_eq_true, Bool.not_eq_true', decide_eq_false_iff_not] at h9; exact h9.2
      obtain ⟨q, hq, eq⟩ := nI_of h14
      rw [eq] at hl
      have ec : x4.toNatClampNeg = q := by rw [eq]; exact nI_clamp hq
      refine lv_iload hx hb d_M_body_37 (lv_at hl 4 rfl) ?_
      refine lv_istore (lv' := [(5, .int (nI q)), (0, .ref (ab 0)), (1, .int x1), (2, .int x2), (3, .int x3), (4, .int (nI q))]) hx hb d_M_body_39 hl (by decide) rfl (fun ls hl => ?_)
      refine lv_iconst (v := 0) hx hb d_M_body_41 (by decide) ?_
      refine lv_istore (lv' := [(6, .int 0), (5, .int (nI q)), (0, .ref (ab 0)), (1, .int x1), (2, .int x2), (3, .int x3), (4, .int (nI q))]) hx hb d_M_body_42 hl (by decide) rfl (fun ls hl => ?_)
      have loop_44 : ∀ (k9 i : Nat), mn 2 + 1 ≤ i + k9 → i ≤ mn 2 → fstN (fun i => (bdM mv x1 x2 x3) i && decide (cnt (bdM mv x1 x2 x3) i = q)) i = none → cnt (bdM mv x1 x2 x3) i ≤ q → ∀ (H : Heap) (locs : List Loc), va_P (dC, dI) classes (wM ab cI cZ (va_up mk 6 (nI (kTell (haB (mk 0) x1 && ipB x2.toInt64 x3.toInt64 && !decide (x4 < 0))))) mv) H → va_S (aN ab 14) s.heap H locs → ∀ (ls : Array Slot), lv_has ls 7 [(0, .ref (ab 0)), (1, .int x1), (2, .int x2), (3, .int x3), (5, .int (nI (q - cnt (bdM mv x1 x2 x3) i))), (6, .int (nI i))] → W p l e (headSpec (wB y_M_body b_M_body 7 (some .int)) ({ frames := 2, cells := 0, slots := 0, locals := 51 } : Room)).room s m [.ref (ab 0), .int x1, .int x2, .int x3, .int x4].toArray below meth c H locs 0 0 (MQ below (qW (some (.int (if (haB (mk 0) x1 && ipB x2.toInt64 x3.toInt64 && !decide (x4 < 0)) = true then oI (kth (bdM mv x1 x2 x3) x4.toNatClampNeg (mn 2)) else 0))) (aN ab 14) (fun H1 => va_P (dC, dI) classes (wM ab cI cZ (va_up mk 6 (nI (kTell (haB (mk 0) x1 && ipB x2.toInt64 x3.toInt64 && !decide (x4 < 0))))) mv) H1)) [.ref (ab 0), .int x1, .int x2, .int x3, .int x4].toArray s 0 0 (aN ab 14)) (F0 m 44 ls []) := by
        intro k9_44
        induction k9_44 with
        | zero => intro i  hk_44 hi hf hc H locs hP hS ls hl; exact absurd hk_44 (by omega)
        | succ k9_44 ih_44 =>
          intro i  hk_44 hi hf hc H locs hP hS ls hl
          have hD : va_D (aN ab 14) (wM ab cI cZ (va_up mk 6 (nI (kTell (haB (mk 0) x1 && ipB x2.toInt64 x3.toInt64 && !decide (x4 < 0))))) mv) := wM_D (dD_aN hdD)
          refine lv_iload hx hb d_M_body_44 (lv_at hl 5 rfl) ?_
          refine lv_aload_n hx hb d_M_body_46 rfl (lv_at hl 0 rfl) ?_
          refine va_get (D := (dC, dI)) (ci := 6) (v := .int ((va_up mk 6 (nI (kTell (haB (mk 0) x1 && ipB x2.toInt64 x3.toInt64 && !decide (x4 < 0))))) 2)) (C := R_M) (T := F_M) (N := 20) hx hb hts i_M hown hK hP 0 rfl rfl 8 (by decide) (hts _ fl_M_60) (fun _ h9 => h9) rfl d_M_body_47 ?_
          refine lv_icmp_ge (tgt := 102) hx hb d_M_body_50 (by decide) (fun c_50 => ?_) (fun c_50 => ?_)
          · have hi2 : mn 2 ≤ i := geC (eK 2 (by decide)) c_50 (by omega) (by omega)
            refine lv_iconst (v := (-1)) hx hb d_M_body_102 (by decide) ?_
            have er : ((some (.int (if (haB (mk 0) x1 && ipB x2.toInt64 x3.toInt64 && !decide (x4 < 0)) = true then oI (kth (bdM mv x1 x2 x3) x4.toNatClampNeg (mn 2)) else 0))) : Option Value) = some (.int (-1)) := by rw [if_pos hR, ec, kth, show mn 2 = i by omega, hf]; rfl
            have hPe : va_P (dC, dI) classes (wM ab cI cZ (va_up mk 6 (nI (kTell (haB (mk 0) x1 && ipB x2.toInt64 x3.toInt64 && !decide (x4 < 0))))) mv) H := by exact hP
            exact W.iret (v := (-1)) hx hb hr (fun t ht hW => ⟨by rw [er], by rw [ht]; exact hPe, hS.F ht⟩) hS.2.2 d_M_body_103
          · have hi2 : i < mn 2 := ltC (eK 2 (by decide)) c_50 (by omega) (by omega)
            refine lv_aload_n hx hb d_M_body_53 rfl (lv_at hl 0 rfl) ?_
            refine va_get (D := (dC, dI)) (ci := 6) (v := .ref (ab 10)) (C := R_M) (T := F_M) (N := 20) hx hb hts i_M hown hK hP 0 rfl rfl 15 (by decide) (hts _ fl_M_37) (fun _ h9 => h9) rfl d_M_body_54 ?_
            refine lv_iload hx hb d_M_body_57 (lv_at hl 5 rfl) ?_
            refine va_zald hx hb hK hP 10 1 rfl rfl (vp_in_nI (by omega) (by omega)) d_M_body_59 ?_
            rw [nI_clamp (show i < 2 ^ 31 by omega)]
            refine lv_if_eq (tgt := 96) hx hb d_M_body_60 (by decide) (fun c_60 => ?_) (fun c_60 => ?_)
            · refine lv_iinc (v := (nI (i + 1))) (lv' := [(6, .int (nI (i + 1))), (0, .ref (ab 0)), (1, .int x1), (2, .int x2), (3, .int x3), (5, .int (nI (q - cnt (bdM mv x1 x2 x3) i)))]) hx hb d_M_body_96 hl (k := 5) rfl (nI_1 _) (by decide) rfl (fun ls hl => ?_)
              refine lv_goto (tgt := 44) hx hb d_M_body_99 (by decide) ?_
              have hp9 : (bdM mv x1 x2 x3) i = false := by first | (simp [bdM, thS, c_60]; done) | (simp [bdM, thS, c_71]; done) | (simp [bdM, bI_0.mp c_82]; done)
              rw [cnt_f (p := (bdM mv x1 x2 x3)) hp9] at hl hc
              have hn : fstN (fun i => (bdM mv x1 x2 x3) i && decide (cnt (bdM mv x1 x2 x3) i = q)) (i + 1) = none := fstN_none hf (by simp [hp9])
              exact ih_44 (i + 1) (by omega) (by omega) hn hc _ _ hP hS ls (lv_sub hl [1, 2, 3, 4, 5, 0] rfl)
            · refine lv_aload_n hx hb d_M_body_63 rfl (lv_at hl 0 rfl) ?_
              refine va_get (D := (dC, dI)) (ci := 6) (v := .ref (ab 4)) (C := R_M) (T := F_M) (N := 20) hx hb hts i_M hown hK hP 0 rfl rfl 9 (by decide) (hts _ fl_M_19) (fun _ h9 => h9) rfl d_M_body_64 ?_
              refine lv_iload hx hb d_M_body_67 (lv_at hl 5 rfl) ?_
              refine va_iald hx hb hK hP 4 0 rfl rfl (vp_in_nI (by omega) (by omega)) d_M_body_69 ?_
              rw [nI_clamp (show i < 2 ^ 31 by omega)]
              refine lv_iload_n hx hb d_M_body_70 rfl (lv_at hl 1 rfl) ?_
              refine lv_icmp_ne (tgt := 96) hx hb d_M_body_71 (by decide) (fun c_71 => ?_) (fun c_71 => ?_)
              · refine lv_iinc (v := (nI (i + 1))) (lv' := [(6, .int (nI (i + 1))), (0, .ref (ab 0)), (1, .int x1), (2, .int x2), (3, .int x3), (5, .int (nI (q - cnt (bdM mv x1 x2 x3) i)))]) hx hb d_M_body_96 hl (k := 5) rfl (nI_1 _) (by decide) rfl (fun ls hl => ?_)
                refine lv_goto (tgt := 44) hx hb d_M_body_99 (by decide) ?_
                have hp9 : (bdM mv x1 x2 x3) i = false := by first | (simp [bdM, thS, c_60]; done) | (simp [bdM, thS, c_71]; done) | (simp [bdM, bI_0.mp c_82]; done)
                rw [cnt_f (p := (bdM mv x1 x2 x3)) hp9] at hl hc
                have hn : fstN (fun i => (bdM mv x1 x2 x3) i && decide (cnt (bdM mv x1 x2 x3) i = q)) (i + 1) = none := fstN_none hf (by simp [hp9])
                exact ih_44 (i + 1) (by omega) (by omega) hn hc _ _ hP hS ls (lv_sub hl [1, 2, 3, 4, 5, 0] rfl)
              · refine lv_aload_n hx hb d_M_body_74 rfl (lv_at hl 0 rfl) ?_
                refine lv_iload hx hb d_M_body_75 (lv_at hl 5 rfl) ?_
                refine lv_iload_n hx hb d_M_body_77 rfl (lv_at hl 2 rfl) ?_
                refine lv_iload_n hx hb d_M_body_78 rfl (lv_at hl 3 rfl) ?_
                refine cR (W.runV (As := [.int (nI i), .int x2, .int x3]) (rest := []) ⟨hx, hb, hml, hown, hts⟩ (c_M_hasBody hP (hM6 hM) hV hi2 x2 x3) (cwV 3 hts (wB_goodV (fun _ h => h) ml_M_160 im_M_hasBody se_M_hasBody ini_M co_M_hasBody) rfl rfl rfl (by decide +kernel) ⟨Nat.le_of_ble_eq_true rfl, Nat.le_of_ble_eq_true rfl⟩) (pV hK hP (ci := 6) (q0 := 0) rfl rfl _) rfl rfl hl.1 rfl (lv_room (Nat.le_of_ble_eq_true rfl)) d_M_body_79 ⟨Nat.zero_le _, Nat.zero_le _⟩) ?_
                refine lv_if_eq (tgt := 96) hx hb d_M_body_82 (by decide) (fun c_82 => ?_) (fun c_82 => ?_)
                · refine lv_iinc (v := (nI (i + 1))) (lv' := [(6, .int (nI (i + 1))), (0, .ref (ab 0)), (1, .int x1), (2, .int x2), (3, .int x3), (5, .int (nI (q - cnt (bdM mv x1 x2 x3) i)))]) hx hb d_M_body_96 hl (k := 5) rfl (nI_1 _) (by decide) rfl (fun ls hl => ?_)
                  refine lv_goto (tgt := 44) hx hb d_M_body_99 (by decide) ?_
                  have hp9 : (bdM mv x1 x2 x3) i = false := by first | (simp [bdM, thS, c_60]; done) | (simp [bdM, thS, c_71]; done) | (simp [bdM, bI_0.mp c_82]; done)
                  rw [cnt_f (p := (bdM mv x1 x2 x3)) hp9] at hl hc
                  have hn : fstN (fun i => (bdM mv x1 x2 x3) i && decide (cnt (bdM mv x1 x2 x3) i = q)) (i + 1) = none := fstN_none hf (by simp [hp9])
                  exact ih_44 (i + 1) (by omega) (by omega) hn hc _ _ hP hS ls (lv_sub hl [1, 2, 3, 4, 5, 0] rfl)
                · have hp9 : (bdM mv x1 x2 x3) i = true := by simp [bdM, thS, c_60, bI_n0.mp c_82]; simpa using c_71
                  refine lv_iload hx hb d_M_body_85 (lv_at hl 4 rfl) ?_
                  refine lv_if_ne (tgt := 93) hx hb d_M_body_87 (by decide) (fun c_87 => ?_) (fun c_87 => ?_)
                  · have hq9 : 0 < q - cnt (bdM mv x1 x2 x3) i := Nat.pos_of_ne_zero (fun h => c_87 (by rw [h]; rfl))
                    refine lv_iinc (v := (nI (q - cnt (bdM mv x1 x2 x3) i - 1))) (lv' := [(5, .int (nI (q - cnt (bdM mv x1 x2 x3) i - 1))), (0, .ref (ab 0)), (1, .int x1), (2, .int x2), (3, .int x3), (6, .int (nI i))]) hx hb d_M_body_93 hl (k := 4) rfl (by exact sb_m1 hq9) (by decide) rfl (fun ls hl => ?_)
                    refine lv_iinc (v := (nI (i + 1))) (lv' := [(6, .int (nI (i + 1))), (5, .int (nI (q - cnt (bdM mv x1 x2 x3) i - 1))), (0, .ref (ab 0)), (1, .int x1), (2, .int x2), (3, .int x3)]) hx hb d_M_body_96 hl (k := 5) rfl (nI_1 _) (by decide) rfl (fun ls hl => ?_)
                    refine lv_goto (tgt := 44) hx hb d_M_body_99 (by decide) ?_
                    have hn : fstN (fun i => (bdM mv x1 x2 x3) i && decide (cnt (bdM mv x1 x2 x3) i = q)) (i + 1) = none := fstN_none hf (by simp [hp9]; omega)
                    rw [show q - cnt (bdM mv x1 x2 x3) i - 1 = q - cnt (bdM mv x1 x2 x3) (i + 1) by rw [← cnt_t (p := (bdM mv x1 x2 x3)) hp9]; omega] at hl
                    have hc : cnt (bdM mv x1 x2 x3) (i + 1) ≤ q := by rw [← cnt_t (p := (bdM mv x1 x2 x3)) hp9]; omega
                    exact ih_44 (i + 1) (by omega) (by omega) hn hc _ _ hP hS ls (lv_sub hl [2, 3, 4, 5, 1, 0] rfl)
                  · have hq9 : q - cnt (bdM mv x1 x2 x3) i = 0 := (nI_eq (by omega) (by decide)).mp (show nI _ = nI 0 from c_87)
                    refine lv_iload hx hb d_M_body_90 (lv_at hl 5 rfl) ?_
                    have er : ((some (.int (if (haB (mk 0) x1 && ipB x2.toInt64 x3.toInt64 && !decide (x4 < 0)) = true then oI (kth (bdM mv x1 x2 x3) x4.toNatClampNeg (mn 2)) else 0))) : Option Value) = some (.int (nI i)) := by rw [if_pos hR, ec, kth, fstN_some hf (by simp [hp9]; omega) _ hi2]; rfl
                    have hPe : va_P (dC, dI) classes (wM ab cI cZ (va_up mk 6 (nI (kTell (haB (mk 0) x1 && ipB x2.toInt64 x3.toInt64 && !decide (x4 < 0))))) mv) H := by exact hP
                    exact W.iret (v := (nI i)) hx hb hr (fun t ht hW => ⟨by rw [er], by rw [ht]; exact hPe, hS.F ht⟩) hS.2.2 d_M_body_92
      exact loop_44 (mn 2 + 1) 0 (by omega) (by omega) rfl (Nat.zero_le _) _ _ hP hS ls (lv_sub hl [2, 3, 4, 5, 1, 0] rfl)
    · have hR : (haB (mk 0) x1 && ipB x2.toInt64 x3.toInt64 && !decide (x4 < 0)) = false := bI_0.mp c_32
      refine lv_iconst (v := 0) hx hb d_M_body_35 (by decide) ?_
      have er : ((some (.int (if (haB (mk 0) x1 && ipB x2.toInt64 x3.toInt64 && !decide (x4 < 0)) = true then oI (kth (bdM mv x1 x2 x3) x4.toNatClampNeg (mn 2)) else 0))) : Option Value) = some (.int 0) := by first | (rw [if_neg (by rw [hR]; decide)]; done) | (rw [if_pos hR]; rfl)
      have hPe : va_P (dC, dI) classes (wM ab cI cZ (va_up mk 6 (nI (kTell (haB (mk 0) x1 && ipB x2.toInt64 x3.toInt64 && !decide (x4 < 0))))) mv) H := by exact hP
      exact W.iret (v := 0) hx hb hr (fun t ht hW => ⟨by rw [er], by rw [ht]; exact hPe, hS.F ht⟩) hS.2.2 d_M_body_36
  refine lv_aload_n hx hb d_M_body_0 rfl (lv_at hl 0 rfl) ?_
  refine lv_aload_n hx hb d_M_body_1 rfl (lv_at hl 0 rfl) ?_
  refine lv_iload_n hx hb d_M_body_2 rfl (lv_at hl 1 rfl) ?_
  refine cR (W.runV (As := [.int x1]) (rest := [.ref (ab 0)]) ⟨hx, hb, hml, hown, hts⟩ (c_M_isStorey hP x1) (cwV 1 hts (wB_goodV (fun _ h => h) ml_M_106 im_M_isStorey se_M_isStorey ini_M co_M_isStorey) rfl rfl rfl (by decide +kernel) ⟨Nat.le_of_ble_eq_true rfl, Nat.le_of_ble_eq_true rfl⟩) (pV hK hP (ci := 6) (q0 := 0) rfl rfl _) rfl rfl hl.1 rfl (lv_room (Nat.le_of_ble_eq_true rfl)) d_M_body_3 ⟨Nat.zero_le _, Nat.zero_le _⟩) ?_
  refine lv_if_eq (tgt := 28) hx hb d_M_body_6 (by decide) (fun c_6 => ?_) (fun c_6 => ?_)
  · refine lv_iconst (v := 0) hx hb d_M_body_28 (by decide) ?_
    have em : bI (haB (mk 0) x1 && ipB x2.toInt64 x3.toInt64 && !decide (x4 < 0)) = 0 := by first | (simp [bI, bI_0.mp c_6]; done) | (simp [bI, bI_n0.mp c_6, bI_0.mp c_16]; done) | (simp [bI, bI_n0.mp c_6, bI_n0.mp c_16, c_21]; done)
    exact W.eq (g2 := F0 m 29 ls [.int (bI (haB (mk 0) x1 && ipB x2.toInt64 x3.toInt64 && !decide (x4 < 0))), .ref (ab 0)]) (by rw [em]) (mg_29 ls (lv_sub hl [0, 1, 2, 3, 4] rfl))
  · refine lv_iload_n hx hb d_M_body_9 rfl (lv_at hl 2 rfl) ?_
    refine lv_i2l (v := x2.toInt64) hx hb d_M_body_10 rfl ?_
    refine lv_iload_n hx hb d_M_body_11 rfl (lv_at hl 3 rfl) ?_
    refine lv_i2l (v := x3.toInt64) hx hb d_M_body_12 rfl ?_
    refine cR (W.runS (As := [.long (x2.toInt64), .long (x3.toInt64)]) (rest := [.ref (ab 0)]) ⟨hx, hb, hml, hown, hts⟩ (c_M_isPlace (x2.toInt64) (x3.toInt64)) (cwS 2 hts (wB_goodS (fun _ h => h) ml_M_116 st_M_isPlace ini_M co_M_isPlace) rfl rfl rfl (by decide +kernel) ⟨Nat.le_of_ble_eq_true rfl, Nat.le_of_ble_eq_true rfl⟩) (pS hK _) rfl rfl hl.1 rfl (lv_room (Nat.le_of_ble_eq_true rfl)) d_M_body_13 ⟨Nat.zero_le _, Nat.zero_le _⟩) ?_
    refine lv_if_eq (tgt := 28) hx hb d_M_body_16 (by decide) (fun c_16 => ?_) (fun c_16 => ?_)
    · refine lv_iconst (v := 0) hx hb d_M_body_28 (by decide) ?_
      have em : bI (haB (mk 0) x1 && ipB x2.toInt64 x3.toInt64 && !decide (x4 < 0)) = 0 := by first | (simp [bI, bI_0.mp c_6]; done) | (simp [bI, bI_n0.mp c_6, bI_0.mp c_16]; done) | (simp [bI, bI_n0.mp c_6, bI_n0.mp c_16, c_21]; done)
      exact W.eq (g2 := F0 m 29 ls [.int (bI (haB (mk 0) x1 && ipB x2.toInt64 x3.toInt64 && !decide (x4 < 0))), .ref (ab 0)]) (by rw [em]) (mg_29 ls (lv_sub hl [0, 1, 2, 3, 4] rfl))
    · refine lv_iload hx hb d_M_body_19 (lv_at hl 4 rfl) ?_
      refine lv_if_lt (tgt := 28) hx hb d_M_body_21 (by decide) (fun c_21 => ?_) (fun c_21 => ?_)
      · refine lv_iconst (v := 0) hx hb d_M_body_28 (by decide) ?_
        have em : bI (haB (mk 0) x1 && ipB x2.toInt64 x3.toInt64 && !decide (x4 < 0)) = 0 := by first | (simp [bI, bI_0.mp c_6]; done) | (simp [bI, bI_n0.mp c_6, bI_0.mp c_16]; done) | (simp [bI, bI_n0.mp c_6, bI_n0.mp c_16, c_21]; done)
        exact W.eq (g2 := F0 m 29 ls [.int (bI (haB (mk 0) x1 && ipB x2.toInt64 x3.toInt64 && !decide (x4 < 0))), .ref (ab 0)]) (by rw [em]) (mg_29 ls (lv_sub hl [0, 1, 2, 3, 4] rfl))
      · refine lv_iconst (v := 1) hx hb d_M_body_24 (by decide) ?_
        refine lv_goto (tgt := 29) hx hb d_M_body_25 (by decide) ?_
        have em : bI (haB (mk 0) x1 && ipB x2.toInt64 x3.toInt64 && !decide (x4 < 0)) = 1 := by first | (simp [bI, bI_0.mp c_6]; done) | (simp [bI, bI_n0.mp c_6, bI_0.mp c_16]; done) | (simp [bI, bI_n0.mp c_6, bI_n0.mp c_16, c_21]; done)
        exact W.eq (g2 := F0 m 29 ls [.int (bI (haB (mk 0) x1 && ipB x2.toInt64 x3.toInt64 && !decide (x4 < 0))), .ref (ab 0)]) (by rw [em]) (mg_29 ls (lv_sub hl [0, 1, 2, 3, 4] rfl))
end
