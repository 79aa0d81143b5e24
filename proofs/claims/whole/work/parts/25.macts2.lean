section
variable {l : Launch} {dC : Nat → ClassId} {dI : Nat → Nat → Nat} {H : Heap} {ab : Nat → Nat} {cI cZ cJ : ClassId} {mk : Nat → Int32} {mv : Ar} {mn : Nat → Nat}
set_option maxRecDepth 100000 in
set_option maxHeartbeats 4000000 in
theorem c_M_opening (hP : va_P (dC, dI) classes (wM ab cI cZ mk mv) H) (hdD : dD noT ab 14) (hM : okM mk mn) (x y z : Int32) (hO : (kAct (roB mk mv x y z) (frB mv mn x y z (mn 3)) (mn 4)) = 0 → okD ((lgV mv (mn 4) 8 x y z 0 0 0) 12) (mn 4) (mn, (lgV mv (mn 4) 8 x y z 0 0 0))) : Met l y_M_opening (wB y_M_opening b_M_opening 7 (some .int)) ({ frames := 4, cells := 0, slots := 0, locals := 107 } : Room) (rP [.ref (ab 0), .int x, .int y, .int z] H (kK dC dI cI cZ cJ)) (qW (some (.int (maR (kAct (roB mk mv x y z) (frB mv mn x y z (mn 3)) (mn 4)) mv mn 8 x y z 0 0 0))) (aN ab 14) (fun H1 => va_P (dC, dI) classes (wM ab cI cZ (maK (kAct (roB mk mv x y z) (frB mv mn x y z (mn 3)) (mn 4)) mk mv mn 8 x y z 0 0 0) (maV (kAct (roB mk mv x y z) (frB mv mn x y z (mn 3)) (mn 4)) mv mn 8 x y z 0 0 0)) H1)) 0 0 (aN ab 14) := by
  refine Met.ofW (cc := b_M_opening) (maxL := 7) (ret := (some .int)) (by decide) rfl ?_
  intro p e s m args below meth c s₁ B hml hv
  obtain ⟨rfl, rfl, hK⟩ := hv
  have hx := B.exec
  have hb := B.bytes
  have hr := B.returns
  have hts0 := atoms_spec (ws := (wB y_M_opening b_M_opening 7 (some .int))) B.pre
  have hts : ∀ w9 ∈ BG, w9.before [.ref (ab 0), .int x, .int y, .int z].toArray s = true := fun w9 hw9 => hts0 w9 (List.mem_cons_of_mem _ hw9)
  have hown : s.vm.findClass R_M = some m.cls := findClass_of_methodNamed B.named
  have hlocks := B.notSynchronized
  have hK : va_K (dC, dI) classes [(cI, .int), (cZ, .boolean), (cJ, .long)] s := hK
  have hD : va_D (aN ab 14) (wM ab cI cZ mk mv) := wM_D (dD_aN hdD)
  have hS : va_S (aN ab 14) s.heap s.heap [] := va_S.rf
  have hl := lv_entry ([.ref (ab 0), .int x, .int y, .int z]) (n := 7) (Nat.le_of_ble_eq_true rfl)
  rw [lg_entry_eq]
  generalize (lg_sl ([.ref (ab 0), .int x, .int y, .int z]) ++ List.replicate (7 - (lg_sl ([.ref (ab 0), .int x, .int y, .int z])).length) Slot.unset).toArray = ls at hl ⊢
  have hl : lv_has ls 7 [(0, .ref (ab 0)), (1, .int x), (2, .int y), (3, .int z)] := hl
  obtain ⟨eK, b0, b1, b2, b3, b4, b5⟩ := id hM
  have mg_53 : ∀ (ls : Array Slot), lv_has ls 7 [(4, .int (bI (roB mk mv x y z))), (0, .ref (ab 0)), (1, .int x), (2, .int y), (3, .int z)] → W p l e (headSpec (wB y_M_opening b_M_opening 7 (some .int)) ({ frames := 4, cells := 0, slots := 0, locals := 107 } : Room)).room s m [.ref (ab 0), .int x, .int y, .int z].toArray below meth c s.heap [] 0 0 (MQ below (qW (some (.int (maR (kAct (roB mk mv x y z) (frB mv mn x y z (mn 3)) (mn 4)) mv mn 8 x y z 0 0 0))) (aN ab 14) (fun H1 => va_P (dC, dI) classes (wM ab cI cZ (maK (kAct (roB mk mv x y z) (frB mv mn x y z (mn 3)) (mn 4)) mk mv mn 8 x y z 0 0 0) (maV (kAct (roB mk mv x y z) (frB mv mn x y z (mn 3)) (mn 4)) mv mn 8 x y z 0 0 0)) H1)) [.ref (ab 0), .int x, .int y, .int z].toArray s 0 0 (aN ab 14)) (F0 m 53 ls [.int (bI (decide (mn 3 < 60)))]) := by
    intro ls hl
    refine lv_istore (lv' := [(5, .int (bI (decide (mn 3 < 60)))), (4, .int (bI (roB mk mv x y z))), (0, .ref (ab 0)), (1, .int x), (2, .int y), (3, .int z)]) hx hb d_M_opening_53 hl (by decide) rfl (fun ls hl => ?_)
    refine lv_iconst (v := 0) hx hb d_M_opening_55 (by decide) ?_
    refine lv_istore (lv' := [(6, .int 0), (5, .int (bI (decide (mn 3 < 60)))), (4, .int (bI (roB mk mv x y z))), (0, .ref (ab 0)), (1, .int x), (2, .int y), (3, .int z)]) hx hb d_M_opening_56 hl (by decide) rfl (fun ls hl => ?_)
    have loop_58 : ∀ (k9 i : Nat), mn 3 + 1 ≤ i + k9 → i ≤ mn 3 → ∀ (ls : Array Slot), lv_has ls 7 [(4, .int (bI (roB mk mv x y z))), (0, .ref (ab 0)), (1, .int x), (2, .int y), (3, .int z), (5, .int (bI (frB mv mn x y z i))), (6, .int (nI i))] → W p l e (headSpec (wB y_M_opening b_M_opening 7 (some .int)) ({ frames := 4, cells := 0, slots := 0, locals := 107 } : Room)).room s m [.ref (ab 0), .int x, .int y, .int z].toArray below meth c s.heap [] 0 0 (MQ below (qW (some (.int (maR (kAct (roB mk mv x y z) (frB mv mn x y z (mn 3)) (mn 4)) mv mn 8 x y z 0 0 0))) (aN ab 14) (fun H1 => va_P (dC, dI) classes (wM ab cI cZ (maK (kAct (roB mk mv x y z) (frB mv mn x y z (mn 3)) (mn 4)) mk mv mn 8 x y z 0 0 0) (maV (kAct (roB mk mv x y z) (frB mv mn x y z (mn 3)) (mn 4)) mv mn 8 x y z 0 0 0)) H1)) [.ref (ab 0), .int x, .int y, .int z].toArray s 0 0 (aN ab 14)) (F0 m 58 ls []) := by
      intro k9
      induction k9 with
      | zero => intro i hk hi ls hl; exact absurd hk (by omega)
      | succ k9 ih =>
        intro i hk hi ls hl
        refine lv_iload hx hb d_M_opening_58 (lv_at hl 6 rfl) ?_
        refine lv_aload_n hx hb d_M_opening_60 rfl (lv_at hl 1 rfl) ?_
        refine va_get (D := (dC, dI)) (ci := 6) (v := .int (mk 3)) (C := R_M) (T := F_M) (N := 20) hx hb hts i_M hown hK hP 0 rfl rfl 16 (by decide) (hts _ fl_M_81) (fun _ h9 => h9) rfl d_M_opening_61 ?_
        refine lv_icmp_ge (tgt := 133) hx hb d_M_opening_64 (by decide) (fun c_64 => ?_) (fun c_64 => ?_)
        · have hi2 : i = mn 3 := Nat.le_antisymm hi (geC (eK 3 (by decide)) c_64 (by omega) (by omega))
          have ekk : kAct (roB mk mv x y z) (frB mv mn x y z i) (mn 4) = kAct (roB mk mv x y z) (frB mv mn x y z (mn 3)) (mn 4) := by rw [hi2]
          refine lv_aload_n hx hb d_M_opening_133 rfl (lv_at hl 1 rfl) ?_
          refine lv_iload hx hb d_M_opening_134 (lv_at hl 0 rfl) ?_
          refine lv_iload hx hb d_M_opening_136 (lv_at hl 5 rfl) ?_
          refine cW (W.runV (As := [.int (bI (roB mk mv x y z)), .int (bI (frB mv mn x y z i))]) (rest := []) ⟨hx, hb, hml, hown, hts⟩ (c_M_goes hP hdD _ _ (eK 4 (by decide)) b4) (cwV 2 hts (wB_goodV (fun _ h => h) ml_M_98 im_M_goes se_M_goes ini_M co_M_goes) rfl rfl rfl (by decide +kernel) ⟨Nat.le_of_ble_eq_true rfl, Nat.le_of_ble_eq_true rfl⟩) (pV hK hP (ci := 6) (q0 := 0) rfl rfl _) rfl rfl hl.1 rfl (lv_room (Nat.le_of_ble_eq_true rfl)) d_M_opening_138 ⟨Nat.zero_le _, Nat.zero_le _⟩) hS (fun _ h => h) (fun H locs hP hS _ _ => ?_)
          have hP : va_P (dC, dI) classes (wM ab cI cZ (va_up mk 6 (nI (kAct (roB mk mv x y z) (frB mv mn x y z i) (mn 4)))) mv) H := hP
          have hD : va_D (aN ab 14) (wM ab cI cZ (va_up mk 6 (nI (kAct (roB mk mv x y z) (frB mv mn x y z i) (mn 4)))) mv) := wM_D (dD_aN hdD)
          have h9 := hP
          rw [ekk] at h9
          have hP := h9
          rw [ekk]
          have hD : va_D (aN ab 14) (wM ab cI cZ (va_up mk 6 (nI (kAct (roB mk mv x y z) (frB mv mn x y z (mn 3)) (mn 4)))) mv) := wM_D (dD_aN hdD)
          refine lv_if_eq (tgt := 159) hx hb d_M_opening_141 (by decide) (fun c_141 => ?_) (fun c_141 => ?_)
          · have hk0 : ¬ (kAct (roB mk mv x y z) (frB mv mn x y z (mn 3)) (mn 4)) = 0 := by simpa using bI_0.mp c_141
            refine lv_iconst (v := 0) hx hb d_M_opening_159 (by decide) ?_
            have er : ((some (.int (maR (kAct (roB mk mv x y z) (frB mv mn x y z (mn 3)) (mn 4)) mv mn 8 x y z 0 0 0))) : Option Value) = some (.int 0) := by first | (rw [maR, if_neg hk0]; done) | (rw [maR, if_pos hk0])
            have hPe : va_P (dC, dI) classes (wM ab cI cZ (maK (kAct (roB mk mv x y z) (frB mv mn x y z (mn 3)) (mn 4)) mk mv mn 8 x y z 0 0 0) (maV (kAct (roB mk mv x y z) (frB mv mn x y z (mn 3)) (mn 4)) mv mn 8 x y z 0 0 0)) H := by first | (rw [maK, maV, if_neg hk0, if_neg hk0]; exact hP) | (rw [maK, maV, if_pos hk0, if_pos hk0]; exact hP)
            exact W.iret (v := 0) hx hb hr (fun t ht hW => ⟨by rw [er], by rw [ht]; exact hPe, hS.F ht⟩) hS.2.2 d_M_opening_160
          · have hk0 : (kAct (roB mk mv x y z) (frB mv mn x y z (mn 3)) (mn 4)) = 0 := by simpa using bI_n0.mp c_141
            refine lv_aload_n hx hb d_M_opening_144 rfl (lv_at hl 1 rfl) ?_
            refine lv_bipush (v := 8) hx hb d_M_opening_145 (by decide) ?_
            refine lv_iload_n hx hb d_M_opening_147 rfl (lv_at hl 2 rfl) ?_
            refine lv_iload_n hx hb d_M_opening_148 rfl (lv_at hl 3 rfl) ?_
            refine lv_iload_n hx hb d_M_opening_149 rfl (lv_at hl 4 rfl) ?_
            refine lv_iconst (v := 0) hx hb d_M_opening_150 (by decide) ?_
            refine lv_iconst (v := 0) hx hb d_M_opening_151 (by decide) ?_
            refine lv_iconst (v := 0) hx hb d_M_opening_152 (by decide) ?_
            refine cW (W.runV (As := [.int 8, .int x, .int y, .int z, .int 0, .int 0, .int 0]) (rest := []) ⟨hx, hb, hml, hown, hts⟩ (c_M_act hP hdD (mn := mn) (d := mn 4) (fun i hi => (va6 (by omega)).trans (eK i (by omega))) ((va6 (by decide)).trans (eK 4 (by decide))) (kAct_lt hk0) _ _ _ _ _ _ _ (hO hk0)) (cwV 7 hts (wB_goodV (fun _ h => h) ml_M_102 im_M_act se_M_act ini_M co_M_act) rfl rfl rfl (by decide +kernel) ⟨Nat.le_of_ble_eq_true rfl, Nat.le_of_ble_eq_true rfl⟩) (pV hK hP (ci := 6) (q0 := 0) rfl rfl _) rfl rfl hl.1 rfl (lv_room (Nat.le_of_ble_eq_true rfl)) d_M_opening_153 ⟨Nat.zero_le _, Nat.zero_le _⟩) hS (fun _ h => h) (fun H locs hP hS _ _ => ?_)
            have hP : va_P (dC, dI) classes (wM ab cI cZ (acK (va_up mk 6 (nI (kAct (roB mk mv x y z) (frB mv mn x y z (mn 3)) (mn 4)))) mv mn (mn 4) 8 x y z 0 0 0) (acV mv mn (mn 4) 8 x y z 0 0 0)) H := hP
            have hD : va_D (aN ab 14) (wM ab cI cZ (acK (va_up mk 6 (nI (kAct (roB mk mv x y z) (frB mv mn x y z (mn 3)) (mn 4)))) mv mn (mn 4) 8 x y z 0 0 0) (acV mv mn (mn 4) 8 x y z 0 0 0)) := wM_D (dD_aN hdD)
            refine lv_goto (tgt := 160) hx hb d_M_opening_156 (by decide) ?_
            have er : ((some (.int (maR (kAct (roB mk mv x y z) (frB mv mn x y z (mn 3)) (mn 4)) mv mn 8 x y z 0 0 0))) : Option Value) = some (.int (acR mv mn (mn 4) 8 x y z 0 0 0)) := by first | (rw [maR, if_neg hk0]; done) | (rw [maR, if_pos hk0])
            have hPe : va_P (dC, dI) classes (wM ab cI cZ (maK (kAct (roB mk mv x y z) (frB mv mn x y z (mn 3)) (mn 4)) mk mv mn 8 x y z 0 0 0) (maV (kAct (roB mk mv x y z) (frB mv mn x y z (mn 3)) (mn 4)) mv mn 8 x y z 0 0 0)) H := by first | (rw [maK, maV, if_neg hk0, if_neg hk0]; exact hP) | (rw [maK, maV, if_pos hk0, if_pos hk0]; exact hP)
            exact W.iret (v := (acR mv mn (mn 4) 8 x y z 0 0 0)) hx hb hr (fun t ht hW => ⟨by rw [er], by rw [ht]; exact hPe, hS.F ht⟩) hS.2.2 d_M_opening_160
        · have hi2 : i < mn 3 := ltC (eK 3 (by decide)) c_64 (by omega) (by omega)
          refine lv_iload hx hb d_M_opening_67 (lv_at hl 0 rfl) ?_
          refine lv_if_eq (tgt := 133) hx hb d_M_opening_69 (by decide) (fun c_69 => ?_) (fun c_69 => ?_)
          · have ekk : kAct (roB mk mv x y z) (frB mv mn x y z i) (mn 4) = kAct (roB mk mv x y z) (frB mv mn x y z (mn 3)) (mn 4) := by rw [bI_0.mp c_69]; rfl
            refine lv_aload_n hx hb d_M_opening_133 rfl (lv_at hl 1 rfl) ?_
            refine lv_iload hx hb d_M_opening_134 (lv_at hl 0 rfl) ?_
            refine lv_iload hx hb d_M_opening_136 (lv_at hl 5 rfl) ?_
            refine cW (W.runV (As := [.int (bI (roB mk mv x y z)), .int (bI (frB mv mn x y z i))]) (rest := []) ⟨hx, hb, hml, hown, hts⟩ (c_M_goes hP hdD _ _ (eK 4 (by decide)) b4) (cwV 2 hts (wB_goodV (fun _ h => h) ml_M_98 im_M_goes se_M_goes ini_M co_M_goes) rfl rfl rfl (by decide +kernel) ⟨Nat.le_of_ble_eq_true rfl, Nat.le_of_ble_eq_true rfl⟩) (pV hK hP (ci := 6) (q0 := 0) rfl rfl _) rfl rfl hl.1 rfl (lv_room (Nat.le_of_ble_eq_true rfl)) d_M_opening_138 ⟨Nat.zero_le _, Nat.zero_le _⟩) hS (fun _ h => h) (fun H locs hP hS _ _ => ?_)
            have hP : va_P (dC, dI) classes (wM ab cI cZ (va_up mk 6 (nI (kAct (roB mk mv x y z) (frB mv mn x y z i) (mn 4)))) mv) H := hP
            have hD : va_D (aN ab 14) (wM ab cI cZ (va_up mk 6 (nI (kAct (roB mk mv x y z) (frB mv mn x y z i) (mn 4)))) mv) := wM_D (dD_aN hdD)
            have h9 := hP
            rw [ekk] at h9
            have hP := h9
            rw [ekk]
            have hD : va_D (aN ab 14) (wM ab cI cZ (va_up mk 6 (nI (kAct (roB mk mv x y z) (frB mv mn x y z (mn 3)) (mn 4)))) mv) := wM_D (dD_aN hdD)
            refine lv_if_eq (tgt := 159) hx hb d_M_opening_141 (by decide) (fun c_141 => ?_) (fun c_141 => ?_)
            · have hk0 : ¬ (kAct (roB mk mv x y z) (frB mv mn x y z (mn 3)) (mn 4)) = 0 := by simpa using bI_0.mp c_141
              refine lv_iconst (v := 0) hx hb d_M_opening_159 (by decide) ?_
              have er : ((some (.int (maR (kAct (roB mk mv x y z) (frB mv mn x y z (mn 3)) (mn 4)) mv mn 8 x y z 0 0 0))) : Option Value) = some (.int 0) := by first | (rw [maR, if_neg hk0]; done) | (rw [maR, if_pos hk0])
              have hPe : va_P (dC, dI) classes (wM ab cI cZ (maK (kAct (roB mk mv x y z) (frB mv mn x y z (mn 3)) (mn 4)) mk mv mn 8 x y z 0 0 0) (maV (kAct (roB mk mv x y z) (frB mv mn x y z (mn 3)) (mn 4)) mv mn 8 x y z 0 0 0)) H := by first | (rw [maK, maV, if_neg hk0, if_neg hk0]; exact hP) | (rw [maK, maV, if_pos hk0, if_pos hk0]; exact hP)
              exact W.iret (v := 0) hx hb hr (fun t ht hW => ⟨by rw [er], by rw [ht]; exact hPe, hS.F ht⟩) hS.2.2 d_M_opening_160
            · have hk0 : (kAct (roB mk mv x y z) (frB mv mn x y z (mn 3)) (mn 4)) = 0 := by simpa using bI_n0.mp c_141
              refine lv_aload_n hx hb d_M_opening_144 rfl (lv_at hl 1 rfl) ?_
              refine lv_bipush (v := 8) hx hb d_M_opening_145 (by decide) ?_
              refine lv_iload_n hx hb d_M_opening_147 rfl (lv_at hl 2 rfl) ?_
              refine lv_iload_n hx hb d_M_opening_148 rfl (lv_at hl 3 rfl) ?_
              refine lv_iload_n hx hb d_M_opening_149 rfl (lv_at hl 4 rfl) ?_
              refine lv_iconst (v := 0) hx hb d_M_opening_150 (by decide) ?_
              refine lv_iconst (v := 0) hx hb d_M_opening_151 (by decide) ?_
              refine lv_iconst (v := 0) hx hb d_M_opening_152 (by decide) ?_
              refine cW (W.runV (As := [.int 8, .int x, .int y, .int z, .int 0, .int 0, .int 0]) (rest := []) ⟨hx, hb, hml, hown, hts⟩ (c_M_act hP hdD (mn := mn) (d := mn 4) (fun i hi => (va6 (by omega)).trans (eK i (by omega))) ((va6 (by decide)).trans (eK 4 (by decide))) (kAct_lt hk0) _ _ _ _ _ _ _ (hO hk0)) (cwV 7 hts (wB_goodV (fun _ h => h) ml_M_102 im_M_act se_M_act ini_M co_M_act) rfl rfl rfl (by decide +kernel) ⟨Nat.le_of_ble_eq_true rfl, Nat.le_of_ble_eq_true rfl⟩) (pV hK hP (ci := 6) (q0 := 0) rfl rfl _) rfl rfl hl.1 rfl (lv_room (Nat.le_of_ble_eq_true rfl)) d_M_opening_153 ⟨Nat.zero_le _, Nat.zero_le _⟩) hS (fun _ h => h) (fun H locs hP hS _ _ => ?_)
              have hP : va_P (dC, dI) classes (wM ab cI cZ (acK (va_up mk 6 (nI (kAct (roB mk mv x y z) (frB mv mn x y z (mn 3)) (mn 4)))) mv mn (mn 4) 8 x y z 0 0 0) (acV mv mn (mn 4) 8 x y z 0 0 0)) H := hP
              have hD : va_D (aN ab 14) (wM ab cI cZ (acK (va_up mk 6 (nI (kAct (roB mk mv x y z) (frB mv mn x y z (mn 3)) (mn 4)))) mv mn (mn 4) 8 x y z 0 0 0) (acV mv mn (mn 4) 8 x y z 0 0 0)) := wM_D (dD_aN hdD)
              refine lv_goto (tgt := 160) hx hb d_M_opening_156 (by decide) ?_
              have er : ((some (.int (maR (kAct (roB mk mv x y z) (frB mv mn x y z (mn 3)) (mn 4)) mv mn 8 x y z 0 0 0))) : Option Value) = some (.int (acR mv mn (mn 4) 8 x y z 0 0 0)) := by first | (rw [maR, if_neg hk0]; done) | (rw [maR, if_pos hk0])
              have hPe : va_P (dC, dI) classes (wM ab cI cZ (maK (kAct (roB mk mv x y z) (frB mv mn x y z (mn 3)) (mn 4)) mk mv mn 8 x y z 0 0 0) (maV (kAct (roB mk mv x y z) (frB mv mn x y z (mn 3)) (mn 4)) mv mn 8 x y z 0 0 0)) H := by first | (rw [maK, maV, if_neg hk0, if_neg hk0]; exact hP) | (rw [maK, maV, if_pos hk0, if_pos hk0]; exact hP)
              exact W.iret (v := (acR mv mn (mn 4) 8 x y z 0 0 0)) hx hb hr (fun t ht hW => ⟨by rw [er], by rw [ht]; exact hPe, hS.F ht⟩) hS.2.2 d_M_opening_160
          · refine lv_iload hx hb d_M_opening_72 (lv_at hl 5 rfl) ?_
            refine lv_if_eq (tgt := 124) hx hb d_M_opening_74 (by decide) (fun c_74 => ?_) (fun c_74 => ?_)
            · refine lv_iconst (v := 0) hx hb d_M_opening_124 (by decide) ?_
              refine lv_istore (lv' := [(5, .int 0), (4, .int (bI (roB mk mv x y z))), (0, .ref (ab 0)), (1, .int x), (2, .int y), (3, .int z), (6, .int (nI i))]) hx hb d_M_opening_125 hl (by decide) rfl (fun ls hl => ?_)
              refine lv_iinc (v := (nI (i + 1))) (lv' := [(6, .int (nI (i + 1))), (5, .int 0), (4, .int (bI (roB mk mv x y z))), (0, .ref (ab 0)), (1, .int x), (2, .int y), (3, .int z)]) hx hb d_M_opening_127 hl (k := 6) rfl (nI_1 _) (by decide) rfl (fun ls hl => ?_)
              refine lv_goto (tgt := 58) hx hb d_M_opening_130 (by decide) ?_
              have ef : bI (frB mv mn x y z (i + 1)) = 0 := by first | (simp [bI, frB, bI_0.mp c_74]; done) | (simp only [bI, frB, bI_n0.mp c_74, Bool.not_true, Bool.not_false, Bool.and_true, Bool.true_and, Bool.false_and, Bool.and_false, Bool.or_true, Bool.true_or, Bool.or_false, Bool.false_or, if_true, if_false, Bool.false_eq_true, Bool.true_eq_false]; done)
              have hl : lv_has ls 7 [(4, .int (bI (roB mk mv x y z))), (0, .ref (ab 0)), (1, .int x), (2, .int y), (3, .int z), (5, .int (bI (frB mv mn x y z (i + 1)))), (6, .int (nI (i + 1)))] := by rw [ef]; exact lv_sub hl [2, 3, 4, 5, 6, 1, 0] rfl
              exact ih (i + 1) (by omega) (by omega) ls (lv_sub hl [0, 1, 2, 3, 4, 5, 6] rfl)
            · refine lv_aload_n hx hb d_M_opening_77 rfl (lv_at hl 1 rfl) ?_
              refine va_get (D := (dC, dI)) (ci := 6) (v := .ref (ab 11)) (C := R_M) (T := F_M) (N := 20) hx hb hts i_M hown hK hP 0 rfl rfl 17 (by decide) (hts _ fl_M_41) (fun _ h9 => h9) rfl d_M_opening_78 ?_
              refine lv_iload hx hb d_M_opening_81 (lv_at hl 6 rfl) ?_
              refine va_iald hx hb hK hP 11 0 rfl rfl (vp_in_nI (by omega) (by omega)) d_M_opening_83 ?_
              rw [nI_clamp (show i < 2 ^ 31 by omega)]
              refine lv_iload_n hx hb d_M_opening_84 rfl (lv_at hl 2 rfl) ?_
              refine lv_icmp_ne (tgt := 120) hx hb d_M_opening_85 (by decide) (fun c_85 => ?_) (fun c_85 => ?_)
              · refine lv_iconst (v := 1) hx hb d_M_opening_120 (by decide) ?_
                refine lv_goto (tgt := 125) hx hb d_M_opening_121 (by decide) ?_
                refine lv_istore (lv' := [(5, .int 1), (4, .int (bI (roB mk mv x y z))), (0, .ref (ab 0)), (1, .int x), (2, .int y), (3, .int z), (6, .int (nI i))]) hx hb d_M_opening_125 hl (by decide) rfl (fun ls hl => ?_)
                refine lv_iinc (v := (nI (i + 1))) (lv' := [(6, .int (nI (i + 1))), (5, .int 1), (4, .int (bI (roB mk mv x y z))), (0, .ref (ab 0)), (1, .int x), (2, .int y), (3, .int z)]) hx hb d_M_opening_127 hl (k := 6) rfl (nI_1 _) (by decide) rfl (fun ls hl => ?_)
                refine lv_goto (tgt := 58) hx hb d_M_opening_130 (by decide) ?_
                have ef : bI (frB mv mn x y z (i + 1)) = 1 := by first | (simp [bI, frB, bI_0.mp c_74]; done) | (simp only [bI, frB, bI_n0.mp c_74, decide_eq_false c_85, Bool.not_true, Bool.not_false, Bool.and_true, Bool.true_and, Bool.false_and, Bool.and_false, Bool.or_true, Bool.true_or, Bool.or_false, Bool.false_or, if_true, if_false, Bool.false_eq_true, Bool.true_eq_false]; done)
                have hl : lv_has ls 7 [(4, .int (bI (roB mk mv x y z))), (0, .ref (ab 0)), (1, .int x), (2, .int y), (3, .int z), (5, .int (bI (frB mv mn x y z (i + 1)))), (6, .int (nI (i + 1)))] := by rw [ef]; exact lv_sub hl [2, 3, 4, 5, 6, 1, 0] rfl
                exact ih (i + 1) (by omega) (by omega) ls (lv_sub hl [0, 1, 2, 3, 4, 5, 6] rfl)
              · refine lv_aload_n hx hb d_M_opening_88 rfl (lv_at hl 1 rfl) ?_
                refine va_get (D := (dC, dI)) (ci := 6) (v := .ref (ab 12)) (C := R_M) (T := F_M) (N := 20) hx hb hts i_M hown hK hP 0 rfl rfl 18 (by decide) (hts _ fl_M_44) (fun _ h9 => h9) rfl d_M_opening_89 ?_
                refine lv_iload hx hb d_M_opening_92 (lv_at hl 6 rfl) ?_
                refine va_iald hx hb hK hP 12 0 rfl rfl (vp_in_nI (by omega) (by omega)) d_M_opening_94 ?_
                rw [nI_clamp (show i < 2 ^ 31 by omega)]
                refine lv_aload_n hx hb d_M_opening_95 rfl (lv_at hl 1 rfl) ?_
                refine va_get (D := (dC, dI)) (ci := 6) (v := .ref (ab 13)) (C := R_M) (T := F_M) (N := 20) hx hb hts i_M hown hK hP 0 rfl rfl 19 (by decide) (hts _ fl_M_47) (fun _ h9 => h9) rfl d_M_opening_96 ?_
                refine lv_iload hx hb d_M_opening_99 (lv_at hl 6 rfl) ?_
                refine va_iald hx hb hK hP 13 0 rfl rfl (vp_in_nI (by omega) (by omega)) d_M_opening_101 ?_
                rw [nI_clamp (show i < 2 ^ 31 by omega)]
                refine lv_iadd hx hb d_M_opening_102 ?_
                refine lv_iload_n hx hb d_M_opening_103 rfl (lv_at hl 3 rfl) ?_
                refine lv_icmp_le (tgt := 120) hx hb d_M_opening_104 (by decide) (fun c_104 => ?_) (fun c_104 => ?_)
                · refine lv_iconst (v := 1) hx hb d_M_opening_120 (by decide) ?_
                  refine lv_goto (tgt := 125) hx hb d_M_opening_121 (by decide) ?_
                  refine lv_istore (lv' := [(5, .int 1), (4, .int (bI (roB mk mv x y z))), (0, .ref (ab 0)), (1, .int x), (2, .int y), (3, .int z), (6, .int (nI i))]) hx hb d_M_opening_125 hl (by decide) rfl (fun ls hl => ?_)
                  refine lv_iinc (v := (nI (i + 1))) (lv' := [(6, .int (nI (i + 1))), (5, .int 1), (4, .int (bI (roB mk mv x y z))), (0, .ref (ab 0)), (1, .int x), (2, .int y), (3, .int z)]) hx hb d_M_opening_127 hl (k := 6) rfl (nI_1 _) (by decide) rfl (fun ls hl => ?_)
                  refine lv_goto (tgt := 58) hx hb d_M_opening_130 (by decide) ?_
                  have ef : bI (frB mv mn x y z (i + 1)) = 1 := by first | (simp [bI, frB, bI_0.mp c_74]; done) | (simp only [bI, frB, bI_n0.mp c_74, decide_eq_true c_85, decide_eq_true c_104, Bool.not_true, Bool.not_false, Bool.and_true, Bool.true_and, Bool.false_and, Bool.and_false, Bool.or_true, Bool.true_or, Bool.or_false, Bool.false_or, if_true, if_false, Bool.false_eq_true, Bool.true_eq_false]; done)
                  have hl : lv_has ls 7 [(4, .int (bI (roB mk mv x y z))), (0, .ref (ab 0)), (1, .int x), (2, .int y), (3, .int z), (5, .int (bI (frB mv mn x y z (i + 1)))), (6, .int (nI (i + 1)))] := by rw [ef]; exact lv_sub hl [2, 3, 4, 5, 6, 1, 0] rfl
                  exact ih (i + 1) (by omega) (by omega) ls (lv_sub hl [0, 1, 2, 3, 4, 5, 6] rfl)
                · refine lv_iload_n hx hb d_M_opening_107 rfl (lv_at hl 3 rfl) ?_
                  refine lv_iload_n hx hb d_M_opening_108 rfl (lv_at hl 4 rfl) ?_
                  refine lv_iadd hx hb d_M_opening_109 ?_
                  refine lv_aload_n hx hb d_M_opening_110 rfl (lv_at hl 1 rfl) ?_
                  refine va_get (D := (dC, dI)) (ci := 6) (v := .ref (ab 12)) (C := R_M) (T := F_M) (N := 20) hx hb hts i_M hown hK hP 0 rfl rfl 18 (by decide) (hts _ fl_M_44) (fun _ h9 => h9) rfl d_M_opening_111 ?_
                  refine lv_iload hx hb d_M_opening_114 (lv_at hl 6 rfl) ?_
                  refine va_iald hx hb hK hP 12 0 rfl rfl (vp_in_nI (by omega) (by omega)) d_M_opening_116 ?_
                  rw [nI_clamp (show i < 2 ^ 31 by omega)]
                  refine lv_icmp_gt (tgt := 124) hx hb d_M_opening_117 (by decide) (fun c_117 => ?_) (fun c_117 => ?_)
                  · refine lv_iconst (v := 0) hx hb d_M_opening_124 (by decide) ?_
                    refine lv_istore (lv' := [(5, .int 0), (4, .int (bI (roB mk mv x y z))), (0, .ref (ab 0)), (1, .int x), (2, .int y), (3, .int z), (6, .int (nI i))]) hx hb d_M_opening_125 hl (by decide) rfl (fun ls hl => ?_)
                    refine lv_iinc (v := (nI (i + 1))) (lv' := [(6, .int (nI (i + 1))), (5, .int 0), (4, .int (bI (roB mk mv x y z))), (0, .ref (ab 0)), (1, .int x), (2, .int y), (3, .int z)]) hx hb d_M_opening_127 hl (k := 6) rfl (nI_1 _) (by decide) rfl (fun ls hl => ?_)
                    refine lv_goto (tgt := 58) hx hb d_M_opening_130 (by decide) ?_
                    have ef : bI (frB mv mn x y z (i + 1)) = 0 := by first | (simp [bI, frB, bI_0.mp c_74]; done) | (simp only [bI, frB, bI_n0.mp c_74, decide_eq_true c_85, decide_eq_false c_104, decide_eq_true c_117, Bool.not_true, Bool.not_false, Bool.and_true, Bool.true_and, Bool.false_and, Bool.and_false, Bool.or_true, Bool.true_or, Bool.or_false, Bool.false_or, if_true, if_false, Bool.false_eq_true, Bool.true_eq_false]; done)
                    have hl : lv_has ls 7 [(4, .int (bI (roB mk mv x y z))), (0, .ref (ab 0)), (1, .int x), (2, .int y), (3, .int z), (5, .int (bI (frB mv mn x y z (i + 1)))), (6, .int (nI (i + 1)))] := by rw [ef]; exact lv_sub hl [2, 3, 4, 5, 6, 1, 0] rfl
                    exact ih (i + 1) (by omega) (by omega) ls (lv_sub hl [0, 1, 2, 3, 4, 5, 6] rfl)
                  · refine lv_iconst (v := 1) hx hb d_M_opening_120 (by decide) ?_
                    refine lv_goto (tgt := 125) hx hb d_M_opening_121 (by decide) ?_
                    refine lv_istore (lv' := [(5, .int 1), (4, .int (bI (roB mk mv x y z))), (0, .ref (ab 0)), (1, .int x), (2, .int y), (3, .int z), (6, .int (nI i))]) hx hb d_M_opening_125 hl (by decide) rfl (fun ls hl => ?_)
                    refine lv_iinc (v := (nI (i + 1))) (lv' := [(6, .int (nI (i + 1))), (5, .int 1), (4, .int (bI (roB mk mv x y z))), (0, .ref (ab 0)), (1, .int x), (2, .int y), (3, .int z)]) hx hb d_M_opening_127 hl (k := 6) rfl (nI_1 _) (by decide) rfl (fun ls hl => ?_)
                    refine lv_goto (tgt := 58) hx hb d_M_opening_130 (by decide) ?_
                    have ef : bI (frB mv mn x y z (i + 1)) = 1 := by first | (simp [bI, frB, bI_0.mp c_74]; done) | (simp only [bI, frB, bI_n0.mp c_74, decide_eq_true c_85, decide_eq_false c_104, decide_eq_false c_117, Bool.not_true, Bool.not_false, Bool.and_true, Bool.true_and, Bool.false_and, Bool.and_false, Bool.or_true, Bool.true_or, Bool.or_false, Bool.false_or, if_true, if_false, Bool.false_eq_true, Bool.true_eq_false]; done)
                    have hl : lv_has ls 7 [(4, .int (bI (roB mk mv x y z))), (0, .ref (ab 0)), (1, .int x), (2, .int y), (3, .int z), (5, .int (bI (frB mv mn x y z (i + 1)))), (6, .int (nI (i + 1)))] := by rw [ef]; exact lv_sub hl [2, 3, 4, 5, 6, 1, 0] rfl
                    exact ih (i + 1) (by omega) (by omega) ls (lv_sub hl [0, 1, 2, 3, 4, 5, 6] rfl)
    exact loop_58 (mn 3 + 1) 0 (by omega) (by omega) ls (lv_sub hl [2, 3, 4, 5, 6, 1, 0] rfl)
  have mg_37 : ∀ (ls : Array Slot), lv_has ls 7 [(0, .ref (ab 0)), (1, .int x), (2, .int y), (3, .int z)] → W p l e (headSpec (wB y_M_opening b_M_opening 7 (some .int)) ({ frames := 4, cells := 0, slots := 0, locals := 107 } : Room)).room s m [.ref (ab 0), .int x, .int y, .int z].toArray below meth c s.heap [] 0 0 (MQ below (qW (some (.int (maR (kAct (roB mk mv x y z) (frB mv mn x y z (mn 3)) (mn 4)) mv mn 8 x y z 0 0 0))) (aN ab 14) (fun H1 => va_P (dC, dI) classes (wM ab cI cZ (maK (kAct (roB mk mv x y z) (frB mv mn x y z (mn 3)) (mn 4)) mk mv mn 8 x y z 0 0 0) (maV (kAct (roB mk mv x y z) (frB mv mn x y z (mn 3)) (mn 4)) mv mn 8 x y z 0 0 0)) H1)) [.ref (ab 0), .int x, .int y, .int z].toArray s 0 0 (aN ab 14)) (F0 m 37 ls [.int (bI (roB mk mv x y z))]) := by
    intro ls hl
    refine lv_istore (lv' := [(4, .int (bI (roB mk mv x y z))), (0, .ref (ab 0)), (1, .int x), (2, .int y), (3, .int z)]) hx hb d_M_opening_37 hl (by decide) rfl (fun ls hl => ?_)
    refine lv_aload_n hx hb d_M_opening_39 rfl (lv_at hl 1 rfl) ?_
    refine va_get (D := (dC, dI)) (ci := 6) (v := .int (mk 3)) (C := R_M) (T := F_M) (N := 20) hx hb hts i_M hown hK hP 0 rfl rfl 16 (by decide) (hts _ fl_M_81) (fun _ h9 => h9) rfl d_M_opening_40 ?_
    refine lv_bipush (v := 60) hx hb d_M_opening_43 (by decide) ?_
    refine lv_icmp_ge (tgt := 52) hx hb d_M_opening_45 (by decide) (fun c_45 => ?_) (fun c_45 => ?_)
    · have hs : ¬ mn 3 < 60 := fun h => nI_ge h (by decide) (show nI 60 ≤ nI (mn 3) from by rw [← eK 3 (by decide)]; exact c_45)
      refine lv_iconst (v := 0) hx hb d_M_opening_52 (by decide) ?_
      have em : bI (decide (mn 3 < 60)) = 0 := by simp [bI, hs]
      exact W.eq (g2 := F0 m 53 ls [.int (bI (decide (mn 3 < 60)))]) (by rw [em]) (mg_53 ls (lv_sub hl [0, 1, 2, 3, 4] rfl))
    · have hs : mn 3 < 60 := Nat.lt_of_not_le fun h => c_45 (by rw [eK 3 (by decide)]; exact nI_le h (by omega))
      refine lv_iconst (v := 1) hx hb d_M_opening_48 (by decide) ?_
      refine lv_goto (tgt := 53) hx hb d_M_opening_49 (by decide) ?_
      have em : bI (decide (mn 3 < 60)) = 1 := by simp [bI, hs]
      exact W.eq (g2 := F0 m 53 ls [.int (bI (decide (mn 3 < 60)))]) (by rw [em]) (mg_53 ls (lv_sub hl [0, 1, 2, 3, 4] rfl))
  refine lv_aload_n hx hb d_M_opening_0 rfl (lv_at hl 0 rfl) ?_
  refine lv_iload_n hx hb d_M_opening_1 rfl (lv_at hl 1 rfl) ?_
  refine cR (W.runV (As := [.int x]) (rest := []) ⟨hx, hb, hml, hown, hts⟩ (c_M_isWall hP hM x) (cwV 1 hts (wB_goodV (fun _ h => h) ml_M_120 im_M_isWall se_M_isWall ini_M co_M_isWall) rfl rfl rfl (by decide +kernel) ⟨Nat.le_of_ble_eq_true rfl, Nat.le_of_ble_eq_true rfl⟩) (pV hK hP (ci := 6) (q0 := 0) rfl rfl _) rfl rfl hl.1 rfl (lv_room (Nat.le_of_ble_eq_true rfl)) d_M_opening_2 ⟨Nat.zero_le _, Nat.zero_le _⟩) ?_
  refine lv_if_eq (tgt := 36) hx hb d_M_opening_5 (by decide) (fun c_5 => ?_) (fun c_5 => ?_)
  · have h5 : mW mk mv x = false := bI_0.mp c_5
    refine lv_iconst (v := 0) hx hb d_M_opening_36 (by decide) ?_
    try rw [← ej] at hl
    have em : bI (roB mk mv x y z) = 0 := by first | (simp [bI, roB, h5]; done) | (rw [roB, h5, ec]; simp only [bI, Bool.not_true, Bool.not_false, Bool.and_true, Bool.true_and, Bool.false_and, Bool.and_false, Bool.or_true, Bool.true_or, Bool.or_false, Bool.false_or, if_true, if_false, Bool.false_eq_true, Bool.true_eq_false]; done)
    exact W.eq (g2 := F0 m 37 ls [.int (bI (roB mk mv x y z))]) (by rw [em]) (mg_37 ls (lv_sub hl [0, 1, 2, 3] rfl))
  · have h5 : mW mk mv x = true := bI_n0.mp c_5
    obtain ⟨j, hj, ej⟩ := mW_n hM h5
    have ec : x.toNatClampNeg = j := by rw [ej]; exact nI_clamp (by omega)
    rw [ej] at hl
    refine lv_iload_n hx hb d_M_opening_8 rfl (lv_at hl 2 rfl) ?_
    refine lv_if_lt (tgt := 36) hx hb d_M_opening_9 (by decide) (fun c_9 => ?_) (fun c_9 => ?_)
    · refine lv_iconst (v := 0) hx hb d_M_opening_36 (by decide) ?_
      try rw [← ej] at hl
      have em : bI (roB mk mv x y z) = 0 := by first | (simp [bI, roB, h5]; done) | (rw [roB, h5, ec]; simp only [bI, decide_eq_true c_9, Bool.not_true, Bool.not_false, Bool.and_true, Bool.true_and, Bool.false_and, Bool.and_false, Bool.or_true, Bool.true_or, Bool.or_false, Bool.false_or, if_true, if_false, Bool.false_eq_true, Bool.true_eq_false]; done)
      exact W.eq (g2 := F0 m 37 ls [.int (bI (roB mk mv x y z))]) (by rw [em]) (mg_37 ls (lv_sub hl [0, 1, 2, 3] rfl))
    · refine lv_iload_n hx hb d_M_opening_12 rfl (lv_at hl 3 rfl) ?_
      refine lv_iconst (v := 1) hx hb d_M_opening_13 (by decide) ?_
      refine lv_icmp_lt (tgt := 36) hx hb d_M_opening_14 (by decide) (fun c_14 => ?_) (fun c_14 => ?_)
      · refine lv_iconst (v := 0) hx hb d_M_opening_36 (by decide) ?_
        try rw [← ej] at hl
        have em : bI (roB mk mv x y z) = 0 := by first | (simp [bI, roB, h5]; done) | (rw [roB, h5, ec]; simp only [bI, decide_eq_false c_9, decide_eq_true c_14, Bool.not_true, Bool.not_false, Bool.and_true, Bool.true_and, Bool.false_and, Bool.and_false, Bool.or_true, Bool.true_or, Bool.or_false, Bool.false_or, if_true, if_false, Bool.false_eq_true, Bool.true_eq_false]; done)
        exact W.eq (g2 := F0 m 37 ls [.int (bI (roB mk mv x y z))]) (by rw [em]) (mg_37 ls (lv_sub hl [0, 1, 2, 3] rfl))
      · refine lv_iload_n hx hb d_M_opening_17 rfl (lv_at hl 2 rfl) ?_
        refine lv_i2l (v := y.toInt64) hx hb d_M_opening_18 rfl ?_
        refine lv_iload_n hx hb d_M_opening_19 rfl (lv_at hl 3 rfl) ?_
        refine lv_i2l (v := z.toInt64) hx hb d_M_opening_20 rfl ?_
        refine lv_ladd hx hb d_M_opening_21 ?_
        refine lv_aload_n hx hb d_M_opening_22 rfl (lv_at hl 0 rfl) ?_
        refine lv_iload_n hx hb d_M_opening_23 rfl (lv_at hl 1 rfl) ?_
        refine cR (W.runV (As := [.int (nI j)]) (rest := [.long ((y.toInt64) + (z.toInt64))]) ⟨hx, hb, hml, hown, hts⟩ (c_M_length hP (show j < 40 by omega)) (cwV 1 hts (wB_goodV (fun _ h => h) ml_M_123 im_M_length se_M_length ini_M co_M_length) rfl rfl rfl (by decide +kernel) ⟨Nat.le_of_ble_eq_true rfl, Nat.le_of_ble_eq_true rfl⟩) (pV hK hP (ci := 6) (q0 := 0) rfl rfl _) rfl rfl hl.1 rfl (lv_room (Nat.le_of_ble_eq_true rfl)) d_M_opening_24 ⟨Nat.zero_le _, Nat.zero_le _⟩) ?_
        refine lv_i2l (v := (leM mv j).toInt64) hx hb d_M_opening_27 rfl ?_
        refine W.lcmp hx hb d_M_opening_28 ?_
        refine lv_if_gt (tgt := 36) hx hb d_M_opening_29 (by decide) (fun c_29 => ?_) (fun c_29 => ?_)
        · refine lv_iconst (v := 0) hx hb d_M_opening_36 (by decide) ?_
          try rw [← ej] at hl
          have em : bI (roB mk mv x y z) = 0 := by first | (simp [bI, roB, h5]; done) | (rw [roB, h5, ec]; simp only [bI, decide_eq_false c_9, decide_eq_false c_14, decide_eq_true c_29, Bool.not_true, Bool.not_false, Bool.and_true, Bool.true_and, Bool.false_and, Bool.and_false, Bool.or_true, Bool.true_or, Bool.or_false, Bool.false_or, if_true, if_false, Bool.false_eq_true, Bool.true_eq_false]; done)
          exact W.eq (g2 := F0 m 37 ls [.int (bI (roB mk mv x y z))]) (by rw [em]) (mg_37 ls (lv_sub hl [0, 1, 2, 3] rfl))
        · refine lv_iconst (v := 1) hx hb d_M_opening_32 (by decide) ?_
          refine lv_goto (tgt := 37) hx hb d_M_opening_33 (by decide) ?_
          try rw [← ej] at hl
          have em : bI (roB mk mv x y z) = 1 := by first | (simp [bI, roB, h5]; done) | (rw [roB, h5, ec]; simp only [bI, decide_eq_false c_9, decide_eq_false c_14, decide_eq_false c_29, Bool.not_true, Bool.not_false, Bool.and_true, Bool.true_and, Bool.false_and, Bool.and_false, Bool.or_true, Bool.true_or, Bool.or_false, Bool.false_or, if_true, if_false, Bool.false_eq_true, Bool.true_eq_false]; done)
          exact W.eq (g2 := F0 m 37 ls [.int (bI (roB mk mv x y z))]) (by rw [em]) (mg_37 ls (lv_sub hl [0, 1, 2, 3] rfl))
set_option maxRecDepth 100000 in
set_option maxHeartbeats 4000000 in
theorem c_M_copy (hP : va_P (dC, dI) classes (wM ab cI cZ mk mv) H) (hdD : dD noT ab 14) (hM : okM mk mn) (x y : Int32) (hO : (kAct (rcB mk x y) (decide (mn 2 + cwN mk mv mn x y (mn 2) ≤ 40) && decide (mn 3 + coN mk mv mn x y (mn 2) ≤ 60)) (mn 4)) = 0 → okD ((lgV mv (mn 4) 9 x y 0 0 0 0) 12) (mn 4) (mn, (lgV mv (mn 4) 9 x y 0 0 0 0))) : Met l y_M_copy (wB y_M_copy b_M_copy 7 (some .int)) ({ frames := 4, cells := 0, slots := 0, locals := 107 } : Room) (rP [.ref (ab 0), .int x, .int y] H (kK dC dI cI cZ cJ)) (qW (some (.int (maR (kAct (rcB mk x y) (decide (mn 2 + cwN mk mv mn x y (mn 2) ≤ 40) && decide (mn 3 + coN mk mv mn x y (mn 2) ≤ 60)) (mn 4)) mv mn 9 x y 0 0 0 0))) (aN ab 14) (fun H1 => va_P (dC, dI) classes (wM ab cI cZ (maK (kAct (rcB mk x y) (decide (mn 2 + cwN mk mv mn x y (mn 2) ≤ 40) && decide (mn 3 + coN mk mv mn x y (mn 2) ≤ 60)) (mn 4)) mk mv mn 9 x y 0 0 0 0) (maV (kAct (rcB mk x y) (decide (mn 2 + cwN mk mv mn x y (mn 2) ≤ 40) && decide (mn 3 + coN mk mv mn x y (mn 2) ≤ 60)) (mn 4)) mv mn 9 x y 0 0 0 0)) H1)) 0 0 (aN ab 14) := by
  refine Met.ofW (cc := b_M_copy) (maxL := 7) (ret := (some .int)) (by decide) rfl ?_
  intro p e s m args below meth c s₁ B hml hv
  obtain ⟨rfl, rfl, hK⟩ := hv
  have hx := B.exec
  have hb := B.bytes
  have hr := B.returns
  have hts0 := atoms_spec (ws := (wB y_M_copy b_M_copy 7 (some .int))) B.pre
  have hts : ∀ w9 ∈ BG, w9.before [.ref (ab 0), .int x, .int y].toArray s = true := fun w9 hw9 => hts0 w9 (List.mem_cons_of_mem _ hw9)
  have hown : s.vm.findClass R_M = some m.cls := findClass_of_methodNamed B.named
  have hlocks := B.notSynchronized
  have hK : va_K (dC, dI) classes [(cI, .int), (cZ, .boolean), (cJ, .long)] s := hK
  have hD : va_D (aN ab 14) (wM ab cI cZ mk mv) := wM_D (dD_aN hdD)
  have hS : va_S (aN ab 14) s.heap s.heap [] := va_S.rf
  have hl := lv_entry ([.ref (ab 0), .int x, .int y]) (n := 7) (Nat.le_of_ble_eq_true rfl)
  rw [lg_entry_eq]
  generalize (lg_sl ([.ref (ab 0), .int x, .int y]) ++ List.replicate (7 - (lg_sl ([.ref (ab 0), .int x, .int y])).length) Slot.unset).toArray = ls at hl ⊢
  have hl : lv_has ls 7 [(0, .ref (ab 0)), (1, .int x), (2, .int y)] := hl
  obtain ⟨eK, b0, b1, b2, b3, b4, b5⟩ := id hM
  have qw : cwN mk mv mn x y (mn 2) ≤ mn 2 := cnt_le _ _
  have qo : coN mk mv mn x y (mn 2) ≤ mn 2 * 60 := suN_le (fun i => Nat.le_trans (cnt_le _ _) b3) _
  have mg_121 : ∀ (ls : Array Slot), lv_has ls 7 [(0, .ref (ab 0)), (1, .int x), (2, .int y)] → W p l e (headSpec (wB y_M_copy b_M_copy 7 (some .int)) ({ frames := 4, cells := 0, slots := 0, locals := 107 } : Room)).room s m [.ref (ab 0), .int x, .int y].toArray below meth c s.heap [] 0 0 (MQ below (qW (some (.int (maR (kAct (rcB mk x y) (decide (mn 2 + cwN mk mv mn x y (mn 2) ≤ 40) && decide (mn 3 + coN mk mv mn x y (mn 2) ≤ 60)) (mn 4)) mv mn 9 x y 0 0 0 0))) (aN ab 14) (fun H1 => va_P (dC, dI) classes (wM ab cI cZ (maK (kAct (rcB mk x y) (decide (mn 2 + cwN mk mv mn x y (mn 2) ≤ 40) && decide (mn 3 + coN mk mv mn x y (mn 2) ≤ 60)) (mn 4)) mk mv mn 9 x y 0 0 0 0) (maV (kAct (rcB mk x y) (decide (mn 2 + cwN mk mv mn x y (mn 2) ≤ 40) && decide (mn 3 + coN mk mv mn x y (mn 2) ≤ 60)) (mn 4)) mv mn 9 x y 0 0 0 0)) H1)) [.ref (ab 0), .int x, .int y].toArray s 0 0 (aN ab 14)) (F0 m 121 ls [.int (bI (decide (mn 2 + cwN mk mv mn x y (mn 2) ≤ 40) && decide (mn 3 + coN mk mv mn x y (mn 2) ≤ 60))), .int (bI (rcB mk x y)), .ref (ab 0)]) := by
    intro ls hl
    refine cW (W.runV (As := [.int (bI (rcB mk x y)), .int (bI (decide (mn 2 + cwN mk mv mn x y (mn 2) ≤ 40) && decide (mn 3 + coN mk mv mn x y (mn 2) ≤ 60)))]) (rest := []) ⟨hx, hb, hml, hown, hts⟩ (c_M_goes hP hdD _ _ (eK 4 (by decide)) b4) (cwV 2 hts (wB_goodV (fun _ h => h) ml_M_98 im_M_goes se_M_goes ini_M co_M_goes) rfl rfl rfl (by decide +kernel) ⟨Nat.le_of_ble_eq_true rfl, Nat.le_of_ble_eq_true rfl⟩) (pV hK hP (ci := 6) (q0 := 0) rfl rfl _) rfl rfl hl.1 rfl (lv_room (Nat.le_of_ble_eq_true rfl)) d_M_copy_121 ⟨Nat.zero_le _, Nat.zero_le _⟩) hS (fun _ h => h) (fun H locs hP hS _ _ => ?_)
    have hP : va_P (dC, dI) classes (wM ab cI cZ (va_up mk 6 (nI (kAct (rcB mk x y) (decide (mn 2 + cwN mk mv mn x y (mn 2) ≤ 40) && decide (mn 3 + coN mk mv mn x y (mn 2) ≤ 60)) (mn 4)))) mv) H := hP
    have hD : va_D (aN ab 14) (wM ab cI cZ (va_up mk 6 (nI (kAct (rcB mk x y) (decide (mn 2 + cwN mk mv mn x y (mn 2) ≤ 40) && decide (mn 3 + coN mk mv mn x y (mn 2) ≤ 60)) (mn 4)))) mv) := wM_D (dD_aN hdD)
    refine lv_if_eq (tgt := 142) hx hb d_M_copy_124 (by decide) (fun c_124 => ?_) (fun c_124 => ?_)
    · have hk0 : ¬ (kAct (rcB mk x y) (decide (mn 2 + cwN mk mv mn x y (mn 2) ≤ 40) && decide (mn 3 + coN mk mv mn x y (mn 2) ≤ 60)) (mn 4)) = 0 := by simpa using bI_0.mp c_124
      refine lv_iconst (v := 0) hx hb d_M_copy_142 (by decide) ?_
      have er : ((some (.int (maR (kAct (rcB mk x y) (decide (mn 2 + cwN mk mv mn x y (mn 2) ≤ 40) && decide (mn 3 + coN mk mv mn x y (mn 2) ≤ 60)) (mn 4)) mv mn 9 x y 0 0 0 0))) : Option Value) = some (.int 0) := by first | (rw [maR, if_neg hk0]; done) | (rw [maR, if_pos hk0])
      have hPe : va_P (dC, dI) classes (wM ab cI cZ (maK (kAct (rcB mk x y) (decide (mn 2 + cwN mk mv mn x y (mn 2) ≤ 40) && decide (mn 3 + coN mk mv mn x y (mn 2) ≤ 60)) (mn 4)) mk mv mn 9 x y 0 0 0 0) (maV (kAct (rcB mk x y) (decide (mn 2 + cwN mk mv mn x y (mn 2) ≤ 40) && decide (mn 3 + coN mk mv mn x y (mn 2) ≤ 60)) (mn 4)) mv mn 9 x y 0 0 0 0)) H := by first | (rw [maK, maV, if_neg hk0, if_neg hk0]; exact hP) | (rw [maK, maV, if_pos hk0, if_pos hk0]; exact hP)
      exact W.iret (v := 0) hx hb hr (fun t ht hW => ⟨by rw [er], by rw [ht]; exact hPe, hS.F ht⟩) hS.2.2 d_M_copy_143
    · have hk0 : (kAct (rcB mk x y) (decide (mn 2 + cwN mk mv mn x y (mn 2) ≤ 40) && decide (mn 3 + coN mk mv mn x y (mn 2) ≤ 60)) (mn 4)) = 0 := by simpa using bI_n0.mp c_124
      refine lv_aload_n hx hb d_M_copy_127 rfl (lv_at hl 0 rfl) ?_
      refine lv_bipush (v := 9) hx hb d_M_copy_128 (by decide) ?_
      refine lv_iload_n hx hb d_M_copy_130 rfl (lv_at hl 1 rfl) ?_
      refine lv_iload_n hx hb d_M_copy_131 rfl (lv_at hl 2 rfl) ?_
      refine lv_iconst (v := 0) hx hb d_M_copy_132 (by decide) ?_
      refine lv_iconst (v := 0) hx hb d_M_copy_133 (by decide) ?_
      refine lv_iconst (v := 0) hx hb d_M_copy_134 (by decide) ?_
      refine lv_iconst (v := 0) hx hb d_M_copy_135 (by decide) ?_
      refine cW (W.runV (As := [.int 9, .int x, .int y, .int 0, .int 0, .int 0, .int 0]) (rest := []) ⟨hx, hb, hml, hown, hts⟩ (c_M_act hP hdD (mn := mn) (d := mn 4) (fun i hi => (va6 (by omega)).trans (eK i (by omega))) ((va6 (by decide)).trans (eK 4 (by decide))) (kAct_lt hk0) _ _ _ _ _ _ _ (hO hk0)) (cwV 7 hts (wB_goodV (fun _ h => h) ml_M_102 im_M_act se_M_act ini_M co_M_act) rfl rfl rfl (by decide +kernel) ⟨Nat.le_of_ble_eq_true rfl, Nat.le_of_ble_eq_true rfl⟩) (pV hK hP (ci := 6) (q0 := 0) rfl rfl _) rfl rfl hl.1 rfl (lv_room (Nat.le_of_ble_eq_true rfl)) d_M_copy_136 ⟨Nat.zero_le _, Nat.zero_le _⟩) hS (fun _ h => h) (fun H locs hP hS _ _ => ?_)
      have hP : va_P (dC, dI) classes (wM ab cI cZ (acK (va_up mk 6 (nI (kAct (rcB mk x y) (decide (mn 2 + cwN mk mv mn x y (mn 2) ≤ 40) && decide (mn 3 + coN mk mv mn x y (mn 2) ≤ 60)) (mn 4)))) mv mn (mn 4) 9 x y 0 0 0 0) (acV mv mn (mn 4) 9 x y 0 0 0 0)) H := hP
      have hD : va_D (aN ab 14) (wM ab cI cZ (acK (va_up mk 6 (nI (kAct (rcB mk x y) (decide (mn 2 + cwN mk mv mn x y (mn 2) ≤ 40) && decide (mn 3 + coN mk mv mn x y (mn 2) ≤ 60)) (mn 4)))) mv mn (mn 4) 9 x y 0 0 0 0) (acV mv mn (mn 4) 9 x y 0 0 0 0)) := wM_D (dD_aN hdD)
      refine lv_goto (tgt := 143) hx hb d_M_copy_139 (by decide) ?_
      have er : ((some (.int (maR (kAct (rcB mk x y) (decide (mn 2 + cwN mk mv mn x y (mn 2) ≤ 40) && decide (mn 3 + coN mk mv mn x y (mn 2) ≤ 60)) (mn 4)) mv mn 9 x y 0 0 0 0))) : Option Value) = some (.int (acR mv mn (mn 4) 9 x y 0 0 0 0)) := by first | (rw [maR, if_neg hk0]; done) | (rw [maR, if_pos hk0])
      have hPe : va_P (dC, dI) classes (wM ab cI cZ (maK (kAct (rcB mk x y) (decide (mn 2 + cwN mk mv mn x y (mn 2) ≤ 40) && decide (mn 3 + coN mk mv mn x y (mn 2) ≤ 60)) (mn 4)) mk mv mn 9 x y 0 0 0 0) (maV (kAct (rcB mk x y) (decide (mn 2 + cwN mk mv mn x y (mn 2) ≤ 40) && decide (mn 3 + coN mk mv mn x y (mn 2) ≤ 60)) (mn 4)) mv mn 9 x y 0 0 0 0)) H := by first | (rw [maK, maV, if_neg hk0, if_neg hk0]; exact hP) | (rw [maK, maV, if_pos hk0, if_pos hk0]; exact hP)
      exact W.iret (v := (acR mv mn (mn 4) 9 x y 0 0 0 0)) hx hb hr (fun t ht hW => ⟨by rw [er], by rw [ht]; exact hPe, hS.F ht⟩) hS.2.2 d_M_copy_143
  have mg_26 : ∀ (ls : Array Slot), lv_has ls 7 [(0, .ref (ab 0)), (1, .int x), (2, .int y)] → W p l e (headSpec (wB y_M_copy b_M_copy 7 (some .int)) ({ frames := 4, cells := 0, slots := 0, locals := 107 } : Room)).room s m [.ref (ab 0), .int x, .int y].toArray below meth c s.heap [] 0 0 (MQ below (qW (some (.int (maR (kAct (rcB mk x y) (decide (mn 2 + cwN mk mv mn x y (mn 2) ≤ 40) && decide (mn 3 + coN mk mv mn x y (mn 2) ≤ 60)) (mn 4)) mv mn 9 x y 0 0 0 0))) (aN ab 14) (fun H1 => va_P (dC, dI) classes (wM ab cI cZ (maK (kAct (rcB mk x y) (decide (mn 2 + cwN mk mv mn x y (mn 2) ≤ 40) && decide (mn 3 + coN mk mv mn x y (mn 2) ≤ 60)) (mn 4)) mk mv mn 9 x y 0 0 0 0) (maV (kAct (rcB mk x y) (decide (mn 2 + cwN mk mv mn x y (mn 2) ≤ 40) && decide (mn 3 + coN mk mv mn x y (mn 2) ≤ 60)) (mn 4)) mv mn 9 x y 0 0 0 0)) H1)) [.ref (ab 0), .int x, .int y].toArray s 0 0 (aN ab 14)) (F0 m 26 ls [.int (bI (rcB mk x y))]) := by
    intro ls hl
    refine lv_istore_n (lv' := [(3, .int (bI (rcB mk x y))), (0, .ref (ab 0)), (1, .int x), (2, .int y)]) hx hb d_M_copy_26 rfl hl (by decide) rfl (fun ls hl => ?_)
    refine lv_iconst (v := 0) hx hb d_M_copy_27 (by decide) ?_
    refine lv_istore (lv' := [(4, .int 0), (3, .int (bI (rcB mk x y))), (0, .ref (ab 0)), (1, .int x), (2, .int y)]) hx hb d_M_copy_28 hl (by decide) rfl (fun ls hl => ?_)
    refine lv_iconst (v := 0) hx hb d_M_copy_30 (by decide) ?_
    refine lv_istore (lv' := [(5, .int 0), (4, .int 0), (3, .int (bI (rcB mk x y))), (0, .ref (ab 0)), (1, .int x), (2, .int y)]) hx hb d_M_copy_31 hl (by decide) rfl (fun ls hl => ?_)
    refine lv_iconst (v := 0) hx hb d_M_copy_33 (by decide) ?_
    refine lv_istore (lv' := [(6, .int 0), (5, .int 0), (4, .int 0), (3, .int (bI (rcB mk x y))), (0, .ref (ab 0)), (1, .int x), (2, .int y)]) hx hb d_M_copy_34 hl (by decide) rfl (fun ls hl => ?_)
    have loop_36 : ∀ (k9 i : Nat), mn 2 + 1 ≤ i + k9 → i ≤ mn 2 → ∀ (ls : Array Slot), lv_has ls 7 [(3, .int (bI (rcB mk x y))), (0, .ref (ab 0)), (1, .int x), (2, .int y), (4, .int (nI (cnt (fun i => rcB mk x y && thS mv x i) i))), (5, .int (nI (suN (fun i => rcB mk x y && thS mv x i) (fun i => cnt (fun k => decide (mv 9 k = nI i)) (mn 3)) i))), (6, .int (nI i))] → W p l e (headSpec (wB y_M_copy b_M_copy 7 (some .int)) ({ frames := 4, cells := 0, slots := 0, locals := 107 } : Room)).room s m [.ref (ab 0), .int x, .int y].toArray below meth c s.heap [] 0 0 (MQ below (qW (some (.int (maR (kAct (rcB mk x y) (decide (mn 2 + cwN mk mv mn x y (mn 2) ≤ 40) && decide (mn 3 + coN mk mv mn x y (mn 2) ≤ 60)) (mn 4)) mv mn 9 x y 0 0 0 0))) (aN ab 14) (fun H1 => va_P (dC, dI) classes (wM ab cI cZ (maK (kAct (rcB mk x y) (decide (mn 2 + cwN mk mv mn x y (mn 2) ≤ 40) && decide (mn 3 + coN mk mv mn x y (mn 2) ≤ 60)) (mn 4)) mk mv mn 9 x y 0 0 0 0) (maV (kAct (rcB mk x y) (decide (mn 2 + cwN mk mv mn x y (mn 2) ≤ 40) && decide (mn 3 + coN mk mv mn x y (mn 2) ≤ 60)) (mn 4)) mv mn 9 x y 0 0 0 0)) H1)) [.ref (ab 0), .int x, .int y].toArray s 0 0 (aN ab 14)) (F0 m 36 ls []) := by
      intro k9
      induction k9 with
      | zero => intro i hk hi ls hl; exact absurd hk (by omega)
      | succ k9 ih =>
        intro i hk hi ls hl
        refine lv_iload hx hb d_M_copy_36 (lv_at hl 6 rfl) ?_
        refine lv_aload_n hx hb d_M_copy_38 rfl (lv_at hl 1 rfl) ?_
        refine va_get (D := (dC, dI)) (ci := 6) (v := .int (mk 2)) (C := R_M) (T := F_M) (N := 20) hx hb hts i_M hown hK hP 0 rfl rfl 8 (by decide) (hts _ fl_M_60) (fun _ h9 => h9) rfl d_M_copy_39 ?_
        refine lv_icmp_ge (tgt := 90) hx hb d_M_copy_42 (by decide) (fun c_42 => ?_) (fun c_42 => ?_)
        · have hi2 : i = mn 2 := Nat.le_antisymm hi (geC (eK 2 (by decide)) c_42 (by omega) (by omega))
          rw [show cnt (fun i => rcB mk x y && thS mv x i) i = cwN mk mv mn x y (mn 2) by rw [hi2]; rfl, show suN (fun i => rcB mk x y && thS mv x i) (fun i => cnt (fun k => decide (mv 9 k = nI i)) (mn 3)) i = coN mk mv mn x y (mn 2) by rw [hi2]; rfl] at hl
          refine lv_aload_n hx hb d_M_copy_90 rfl (lv_at hl 1 rfl) ?_
          refine lv_iload_n hx hb d_M_copy_91 rfl (lv_at hl 0 rfl) ?_
          refine lv_aload_n hx hb d_M_copy_92 rfl (lv_at hl 1 rfl) ?_
          refine va_get (D := (dC, dI)) (ci := 6) (v := .int (nI (mn 2))) (C := R_M) (T := F_M) (N := 20) hx hb hts i_M hown hK hP 0 rfl rfl 8 (by decide) (hts _ fl_M_60) (fun _ h9 => h9) (by rw [← (eK 2 (by decide))]; rfl) d_M_copy_93 ?_
          refine lv_iload hx hb d_M_copy_96 (lv_at hl 4 rfl) ?_
          refine lv_iadd hx hb d_M_copy_98 ?_
          refine lv_bipush (v := 40) hx hb d_M_copy_99 (by decide) ?_
          refine lv_icmp_gt (tgt := 120) hx hb d_M_copy_101 (by decide) (fun c_101 => ?_) (fun c_101 => ?_)
          · have s1 : ¬ mn 2 + cwN mk mv mn x y (mn 2) ≤ 40 := fun h => by rw [nI_add] at c_101; exact nI_nlt h (by decide) c_101
            refine lv_iconst (v := 0) hx hb d_M_copy_120 (by decide) ?_
            have em : bI (decide (mn 2 + cwN mk mv mn x y (mn 2) ≤ 40) && decide (mn 3 + coN mk mv mn x y (mn 2) ≤ 60)) = 0 := by first | (rw [decide_eq_false s1]; rfl) | (rw [decide_eq_true s1, decide_eq_false s2]; rfl) | (rw [decide_eq_true s1, decide_eq_true s2]; rfl)
            exact W.eq (g2 := F0 m 121 ls [.int (bI (decide (mn 2 + cwN mk mv mn x y (mn 2) ≤ 40) && decide (mn 3 + coN mk mv mn x y (mn 2) ≤ 60))), .int (bI (rcB mk x y)), .ref (ab 0)]) (by rw [em]) (mg_121 ls (lv_sub hl [1, 2, 3] rfl))
          · have s1 : mn 2 + cwN mk mv mn x y (mn 2) ≤ 40 := Nat.le_of_not_lt fun h => c_101 (by rw [nI_add]; exact nI_lt h (by omega))
            refine lv_aload_n hx hb d_M_copy_104 rfl (lv_at hl 1 rfl) ?_
            refine va_get (D := (dC, dI)) (ci := 6) (v := .int (nI (mn 3))) (C := R_M) (T := F_M) (N := 20) hx hb hts i_M hown hK hP 0 rfl rfl 16 (by decide) (hts _ fl_M_81) (fun _ h9 => h9) (by rw [← (eK 3 (by decide))]; rfl) d_M_copy_105 ?_
            refine lv_iload hx hb d_M_copy_108 (lv_at hl 5 rfl) ?_
            refine lv_iadd hx hb d_M_copy_110 ?_
            refine lv_bipush (v := 60) hx hb d_M_copy_111 (by decide) ?_
            refine lv_icmp_gt (tgt := 120) hx hb d_M_copy_113 (by decide) (fun c_113 => ?_) (fun c_113 => ?_)
            · have s2 : ¬ mn 3 + coN mk mv mn x y (mn 2) ≤ 60 := fun h => by rw [nI_add] at c_113; exact nI_nlt h (by decide) c_113
              refine lv_iconst (v := 0) hx hb d_M_copy_120 (by decide) ?_
              have em : bI (decide (mn 2 + cwN mk mv mn x y (mn 2) ≤ 40) && decide (mn 3 + coN mk mv mn x y (mn 2) ≤ 60)) = 0 := by first | (rw [decide_eq_false s1]; rfl) | (rw [decide_eq_true s1, decide_eq_false s2]; rfl) | (rw [decide_eq_true s1, decide_eq_true s2]; rfl)
              exact W.eq (g2 := F0 m 121 ls [.int (bI (decide (mn 2 + cwN mk mv mn x y (mn 2) ≤ 40) && decide (mn 3 + coN mk mv mn x y (mn 2) ≤ 60))), .int (bI (rcB mk x y)), .ref (ab 0)]) (by rw [em]) (mg_121 ls (lv_sub hl [1, 2, 3] rfl))
            · have s2 : mn 3 + coN mk mv mn x y (mn 2) ≤ 60 := Nat.le_of_not_lt fun h => c_113 (by rw [nI_add]; exact nI_lt h (by omega))
              refine lv_iconst (v := 1) hx hb d_M_copy_116 (by decide) ?_
              refine lv_goto (tgt := 121) hx hb d_M_copy_117 (by decide) ?_
              have em : bI (decide (mn 2 + cwN mk mv mn x y (mn 2) ≤ 40) && decide (mn 3 + coN mk mv mn x y (mn 2) ≤ 60)) = 1 := by first | (rw [decide_eq_false s1]; rfl) | (rw [decide_eq_true s1, decide_eq_false s2]; rfl) | (rw [decide_eq_true s1, decide_eq_true s2]; rfl)
              exact W.eq (g2 := F0 m 121 ls [.int (bI (decide (mn 2 + cwN mk mv mn x y (mn 2) ≤ 40) && decide (mn 3 + coN mk mv mn x y (mn 2) ≤ 60))), .int (bI (rcB mk x y)), .ref (ab 0)]) (by rw [em]) (mg_121 ls (lv_sub hl [1, 2, 3] rfl))
        · have hi2 : i < mn 2 := ltC (eK 2 (by decide)) c_42 (by omega) (by omega)
          refine lv_iload_n hx hb d_M_copy_45 rfl (lv_at hl 0 rfl) ?_
          refine lv_if_eq (tgt := 84) hx hb d_M_copy_46 (by decide) (fun c_46 => ?_) (fun c_46 => ?_)
          · refine lv_iinc (v := (nI (i + 1))) (lv' := [(6, .int (nI (i + 1))), (3, .int (bI (rcB mk x y))), (0, .ref (ab 0)), (1, .int x), (2, .int y), (4, .int (nI (cnt (fun i => rcB mk x y && thS mv x i) i))), (5, .int (nI (suN (fun i => rcB mk x y && thS mv x i) (fun i => cnt (fun k => decide (mv 9 k = nI i)) (mn 3)) i)))]) hx hb d_M_copy_84 hl (k := 6) rfl (nI_1 _) (by decide) rfl (fun ls hl => ?_)
            refine lv_goto (tgt := 36) hx hb d_M_copy_87 (by decide) ?_
            have hp9 : (rcB mk x y && thS mv x i) = false := by first | (simp [bI_0.mp c_46]; done) | (simp [thS, c_56]; done) | (simp [thS, c_67]; done)
            rw [cnt_f (p := (fun i => rcB mk x y && thS mv x i)) hp9, suN_f (p := (fun i => rcB mk x y && thS mv x i)) (f := (fun i => cnt (fun k => decide (mv 9 k = nI i)) (mn 3))) hp9] at hl
            exact ih (i + 1) (by omega) (by omega) ls (lv_sub hl [1, 2, 3, 4, 5, 6, 0] rfl)
          · refine lv_aload_n hx hb d_M_copy_49 rfl (lv_at hl 1 rfl) ?_
            refine va_get (D := (dC, dI)) (ci := 6) (v := .ref (ab 10)) (C := R_M) (T := F_M) (N := 20) hx hb hts i_M hown hK hP 0 rfl rfl 15 (by decide) (hts _ fl_M_37) (fun _ h9 => h9) rfl d_M_copy_50 ?_
            refine lv_iload hx hb d_M_copy_53 (lv_at hl 6 rfl) ?_
            refine va_zald hx hb hK hP 10 1 rfl rfl (vp_in_nI (by omega) (by omega)) d_M_copy_55 ?_
            rw [nI_clamp (show i < 2 ^ 31 by omega)]
            refine lv_if_eq (tgt := 84) hx hb d_M_copy_56 (by decide) (fun c_56 => ?_) (fun c_56 => ?_)
            · refine lv_iinc (v := (nI (i + 1))) (lv' := [(6, .int (nI (i + 1))), (3, .int (bI (rcB mk x y))), (0, .ref (ab 0)), (1, .int x), (2, .int y), (4, .int (nI (cnt (fun i => rcB mk x y && thS mv x i) i))), (5, .int (nI (suN (fun i => rcB mk x y && thS mv x i) (fun i => cnt (fun k => decide (mv 9 k = nI i)) (mn 3)) i)))]) hx hb d_M_copy_84 hl (k := 6) rfl (nI_1 _) (by decide) rfl (fun ls hl => ?_)
              refine lv_goto (tgt := 36) hx hb d_M_copy_87 (by decide) ?_
              have hp9 : (rcB mk x y && thS mv x i) = false := by first | (simp [bI_0.mp c_46]; done) | (simp [thS, c_56]; done) | (simp [thS, c_67]; done)
              rw [cnt_f (p := (fun i => rcB mk x y && thS mv x i)) hp9, suN_f (p := (fun i => rcB mk x y && thS mv x i)) (f := (fun i => cnt (fun k => decide (mv 9 k = nI i)) (mn 3))) hp9] at hl
              exact ih (i + 1) (by omega) (by omega) ls (lv_sub hl [1, 2, 3, 4, 5, 6, 0] rfl)
            · refine lv_aload_n hx hb d_M_copy_59 rfl (lv_at hl 1 rfl) ?_
              refine va_get (D := (dC, dI)) (ci := 6) (v := .ref (ab 4)) (C := R_M) (T := F_M) (N := 20) hx hb hts i_M hown hK hP 0 rfl rfl 9 (by decide) (hts _ fl_M_19) (fun _ h9 => h9) rfl d_M_copy_60 ?_
              refine lv_iload hx hb d_M_copy_63 (lv_at hl 6 rfl) ?_
              refine va_iald hx hb hK hP 4 0 rfl rfl (vp_in_nI (by omega) (by omega)) d_M_copy_65 ?_
              rw [nI_clamp (show i < 2 ^ 31 by omega)]
              refine lv_iload_n hx hb d_M_copy_66 rfl (lv_at hl 2 rfl) ?_
              refine lv_icmp_ne (tgt := 84) hx hb d_M_copy_67 (by decide) (fun c_67 => ?_) (fun c_67 => ?_)
              · refine lv_iinc (v := (nI (i + 1))) (lv' := [(6, .int (nI (i + 1))), (3, .int (bI (rcB mk x y))), (0, .ref (ab 0)), (1, .int x), (2, .int y), (4, .int (nI (cnt (fun i => rcB mk x y && thS mv x i) i))), (5, .int (nI (suN (fun i => rcB mk x y && thS mv x i) (fun i => cnt (fun k => decide (mv 9 k = nI i)) (mn 3)) i)))]) hx hb d_M_copy_84 hl (k := 6) rfl (nI_1 _) (by decide) rfl (fun ls hl => ?_)
                refine lv_goto (tgt := 36) hx hb d_M_copy_87 (by decide) ?_
                have hp9 : (rcB mk x y && thS mv x i) = false := by first | (simp [bI_0.mp c_46]; done) | (simp [thS, c_56]; done) | (simp [thS, c_67]; done)
                rw [cnt_f (p := (fun i => rcB mk x y && thS mv x i)) hp9, suN_f (p := (fun i => rcB mk x y && thS mv x i)) (f := (fun i => cnt (fun k => decide (mv 9 k = nI i)) (mn 3))) hp9] at hl
                exact ih (i + 1) (by omega) (by omega) ls (lv_sub hl [1, 2, 3, 4, 5, 6, 0] rfl)
              · refine lv_iinc (v := (nI ((cnt (fun i => rcB mk x y && thS mv x i) i) + 1))) (lv' := [(4, .int (nI ((cnt (fun i => rcB mk x y && thS mv x i) i) + 1))), (3, .int (bI (rcB mk x y))), (0, .ref (ab 0)), (1, .int x), (2, .int y), (5, .int (nI (suN (fun i => rcB mk x y && thS mv x i) (fun i => cnt (fun k => decide (mv 9 k = nI i)) (mn 3)) i))), (6, .int (nI i))]) hx hb d_M_copy_70 hl (k := 4) rfl (nI_1 _) (by decide) rfl (fun ls hl => ?_)
                refine lv_iload hx hb d_M_copy_73 (lv_at hl 5 rfl) ?_
                refine lv_aload_n hx hb d_M_copy_75 rfl (lv_at hl 2 rfl) ?_
                refine lv_iload hx hb d_M_copy_76 (lv_at hl 6 rfl) ?_
                refine cR (W.runV (As := [.int (nI i)]) (rest := [.int (nI (suN (fun i => rcB mk x y && thS mv x i) (fun i => cnt (fun k => decide (mv 9 k = nI i)) (mn 3)) i))]) ⟨hx, hb, hml, hown, hts⟩ (c_M_cuts hP hM (nI i)) (cwV 1 hts (wB_goodV (fun _ h => h) ml_M_126 im_M_cuts se_M_cuts ini_M co_M_cuts) rfl rfl rfl (by decide +kernel) ⟨Nat.le_of_ble_eq_true rfl, Nat.le_of_ble_eq_true rfl⟩) (pV hK hP (ci := 6) (q0 := 0) rfl rfl _) rfl rfl hl.1 rfl (lv_room (Nat.le_of_ble_eq_true rfl)) d_M_copy_78 ⟨Nat.zero_le _, Nat.zero_le _⟩) ?_
                refine lv_iadd hx hb d_M_copy_81 ?_
                refine lv_istore (lv' := [(5, .int ((nI (suN (fun i => rcB mk x y && thS mv x i) (fun i => cnt (fun k => decide (mv 9 k = nI i)) (mn 3)) i)) + (nI (cnt (fun k => decide (mv 9 k = nI i)) (mn 3))))), (4, .int (nI ((cnt (fun i => rcB mk x y && thS mv x i) i) + 1))), (3, .int (bI (rcB mk x y))), (0, .ref (ab 0)), (1, .int x), (2, .int y), (6, .int (nI i))]) hx hb d_M_copy_82 hl (by decide) rfl (fun ls hl => ?_)
                refine lv_iinc (v := (nI (i + 1))) (lv' := [(6, .int (nI (i + 1))), (5, .int ((nI (suN (fun i => rcB mk x y && thS mv x i) (fun i => cnt (fun k => decide (mv 9 k = nI i)) (mn 3)) i)) + (nI (cnt (fun k => decide (mv 9 k = nI i)) (mn 3))))), (4, .int (nI ((cnt (fun i => rcB mk x y && thS mv x i) i) + 1))), (3, .int (bI (rcB mk x y))), (0, .ref (ab 0)), (1, .int x), (2, .int y)]) hx hb d_M_copy_84 hl (k := 6) rfl (nI_1 _) (by decide) rfl (fun ls hl => ?_)
                refine lv_goto (tgt := 36) hx hb d_M_copy_87 (by decide) ?_
                have c_67 : mv 2 i = x := by simpa using c_67
                have hp9 : (rcB mk x y && thS mv x i) = true := by simp [bI_n0.mp c_46, thS, c_56, c_67]
                rw [nI_add, show cnt (fun i => rcB mk x y && thS mv x i) i + 1 = cnt (fun i => rcB mk x y && thS mv x i) (i + 1) from cnt_t (p := (fun i => rcB mk x y && thS mv x i)) hp9, show suN (fun i => rcB mk x y && thS mv x i) (fun i => cnt (fun k => decide (mv 9 k = nI i)) (mn 3)) i + (fun i => cnt (fun k => decide (mv 9 k = nI i)) (mn 3)) i = suN (fun i => rcB mk x y && thS mv x i) (fun i => cnt (fun k => decide (mv 9 k = nI i)) (mn 3)) (i + 1) from suN_t (p := (fun i => rcB mk x y && thS mv x i)) (f := (fun i => cnt (fun k => decide (mv 9 k = nI i)) (mn 3))) hp9] at hl
                exact ih (i + 1) (by omega) (by omega) ls (lv_sub hl [3, 4, 5, 6, 2, 1, 0] rfl)
    exact loop_36 (mn 2 + 1) 0 (by omega) (by omega) ls (lv_sub hl [3, 4, 5, 6, 2, 1, 0] rfl)
  refine lv_aload_n hx hb d_M_copy_0 rfl (lv_at hl 0 rfl) ?_
  refine lv_iload_n hx hb d_M_copy_1 rfl (lv_at hl 1 rfl) ?_
  refine cR (W.runV (As := [.int x]) (rest := []) ⟨hx, hb, hml, hown, hts⟩ (c_M_isStorey hP x) (cwV 1 hts (wB_goodV (fun _ h => h) ml_M_106 im_M_isStorey se_M_isStorey ini_M co_M_isStorey) rfl rfl rfl (by decide +kernel) ⟨Nat.le_of_ble_eq_true rfl, Nat.le_of_ble_eq_true rfl⟩) (pV hK hP (ci := 6) (q0 := 0) rfl rfl _) rfl rfl hl.1 rfl (lv_room (Nat.le_of_ble_eq_true rfl)) d_M_copy_2 ⟨Nat.zero_le _, Nat.zero_le _⟩) ?_
  refine lv_if_eq (tgt := 25) hx hb d_M_copy_5 (by decide) (fun c_5 => ?_) (fun c_5 => ?_)
  · refine lv_iconst (v := 0) hx hb d_M_copy_25 (by decide) ?_
    have em : bI (rcB mk x y) = 0 := by first | (simp [bI, rcB, bI_0.mp c_5]; done) | (simp [bI, rcB, bI_n0.mp c_5, bI_0.mp c_13]; done) | (simp [bI, rcB, bI_n0.mp c_5, bI_n0.mp c_13, c_18]; done)
    exact W.eq (g2 := F0 m 26 ls [.int (bI (rcB mk x y))]) (by rw [em]) (mg_26 ls (lv_sub hl [0, 1, 2] rfl))
  · refine lv_aload_n hx hb d_M_copy_8 rfl (lv_at hl 0 rfl) ?_
    refine lv_iload_n hx hb d_M_copy_9 rfl (lv_at hl 2 rfl) ?_
    refine cR (W.runV (As := [.int y]) (rest := []) ⟨hx, hb, hml, hown, hts⟩ (c_M_isStorey hP y) (cwV 1 hts (wB_goodV (fun _ h => h) ml_M_106 im_M_isStorey se_M_isStorey ini_M co_M_isStorey) rfl rfl rfl (by decide +kernel) ⟨Nat.le_of_ble_eq_true rfl, Nat.le_of_ble_eq_true rfl⟩) (pV hK hP (ci := 6) (q0 := 0) rfl rfl _) rfl rfl hl.1 rfl (lv_room (Nat.le_of_ble_eq_true rfl)) d_M_copy_10 ⟨Nat.zero_le _, Nat.zero_le _⟩) ?_
    refine lv_if_eq (tgt := 25) hx hb d_M_copy_13 (by decide) (fun c_13 => ?_) (fun c_13 => ?_)
    · refine lv_iconst (v := 0) hx hb d_M_copy_25 (by decide) ?_
      have em : bI (rcB mk x y) = 0 := by first | (simp [bI, rcB, bI_0.mp c_5]; done) | (simp [bI, rcB, bI_n0.mp c_5, bI_0.mp c_13]; done) | (simp [bI, rcB, bI_n0.mp c_5, bI_n0.mp c_13, c_18]; done)
      exact W.eq (g2 := F0 m 26 ls [.int (bI (rcB mk x y))]) (by rw [em]) (mg_26 ls (lv_sub hl [0, 1, 2] rfl))
    · refine lv_iload_n hx hb d_M_copy_16 rfl (lv_at hl 1 rfl) ?_
      refine lv_iload_n hx hb d_M_copy_17 rfl (lv_at hl 2 rfl) ?_
      refine lv_icmp_eq (tgt := 25) hx hb d_M_copy_18 (by decide) (fun c_18 => ?_) (fun c_18 => ?_)
      · refine lv_iconst (v := 0) hx hb d_M_copy_25 (by decide) ?_
        have em : bI (rcB mk x y) = 0 := by first | (simp [bI, rcB, bI_0.mp c_5]; done) | (simp [bI, rcB, bI_n0.mp c_5, bI_0.mp c_13]; done) | (simp [bI, rcB, bI_n0.mp c_5, bI_n0.mp c_13, c_18]; done)
        exact W.eq (g2 := F0 m 26 ls [.int (bI (rcB mk x y))]) (by rw [em]) (mg_26 ls (lv_sub hl [0, 1, 2] rfl))
      · refine lv_iconst (v := 1) hx hb d_M_copy_21 (by decide) ?_
        refine lv_goto (tgt := 26) hx hb d_M_copy_22 (by decide) ?_
        have em : bI (rcB mk x y) = 1 := by first | (simp [bI, rcB, bI_0.mp c_5]; done) | (simp [bI, rcB, bI_n0.mp c_5, bI_0.mp c_13]; done) | (simp [bI, rcB, bI_n0.mp c_5, bI_n0.mp c_13, c_18]; done)
        exact W.eq (g2 := F0 m 26 ls [.int (bI (rcB mk x y))]) (by rw [em]) (mg_26 ls (lv_sub hl [0, 1, 2] rfl))
set_option maxRecDepth 100000 in
set_option maxHeartbeats 4000000 in
theorem c_M_undo_0 (hP : va_P (dC, dI) classes (wM ab cI cZ mk mv) H) (hdD : dD noT ab 14) (e4 : mk 4 = 0) : Met l y_M_undo (wB y_M_undo b_M_undo 2 (some .boolean)) ({ frames := 3, cells := 0, slots := 0, locals := 79 } : Room) (rP [.ref (ab 0)] H (kK dC dI cI cZ cJ)) (qW (some (.int 0)) (aN ab 14) (fun H1 => va_P (dC, dI) classes (wM ab cI cZ (va_up mk 6 0) mv) H1)) 0 0 (aN ab 14) := by
  refine Met.ofW (cc := b_M_undo) (maxL := 2) (ret := (some .boolean)) (by decide) rfl ?_
  intro p e s m args below meth c s₁ B hml hv
  obtain ⟨rfl, rfl, hK⟩ := hv
  have hx := B.exec
  have hb := B.bytes
  have hr := B.returns
  have hts0 := atoms_spec (ws := (wB y_M_undo b_M_undo 2 (some .boolean))) B.pre
  have hts : ∀ w9 ∈ BG, w9.before [.ref (ab 0)].toArray s = true := fun w9 hw9 => hts0 w9 (List.mem_cons_of_mem _ hw9)
  have hown : s.vm.findClass R_M = some m.cls := findClass_of_methodNamed B.named
  have hlocks := B.notSynchronized
  have hK : va_K (dC, dI) classes [(cI, .int), (cZ, .boolean), (cJ, .long)] s := hK
  have hD : va_D (aN ab 14) (wM ab cI cZ mk mv) := wM_D (dD_aN hdD)
  have hS : va_S (aN ab 14) s.heap s.heap [] := va_S.rf
  have hl := lv_entry ([.ref (ab 0)]) (n := 2) (Nat.le_of_ble_eq_true rfl)
  rw [lg_entry_eq]
  generalize (lg_sl ([.ref (ab 0)]) ++ List.replicate (2 - (lg_sl ([.ref (ab 0)])).length) Slot.unset).toArray = ls at hl ⊢
  have hl : lv_has ls 2 [(0, .ref (ab 0))] := hl
  refine lv_aload_n hx hb d_M_undo_0 rfl (lv_at hl 0 rfl) ?_
  refine lv_iconst (v := 0) hx hb d_M_undo_1 (by decide) ?_
  refine va_put (D := (dC, dI)) (ci := 6) (v := .int 0) (ty := .int) (C := R_M) (T := F_M) (N := 20) hx hb hts i_M ty_M tok_M n_M hown hK hP hD hS 0 rfl rfl 0 (by decide) (hts _ fl_M_50) (fun _ h9 => h9) rfl (by decide +kernel) rfl rfl (Nat.le_of_ble_eq_true rfl) d_M_undo_2 (fun H locs hP hD hS => ?_)
  have hP : va_P (dC, dI) classes (wM ab cI cZ (va_up mk 6 0) mv) H := hP
  have hD : va_D (aN ab 14) (wM ab cI cZ (va_up mk 6 0) mv) := hD
  refine lv_aload_n hx hb d_M_undo_5 rfl (lv_at hl 0 rfl) ?_
  refine va_get (D := (dC, dI)) (ci := 6) (v := .int 0) (C := R_M) (T := F_M) (N := 20) hx hb hts i_M hown hK hP 0 rfl rfl 2 (by decide) (hts _ fl_M_71) (fun _ h9 => h9) (by rw [← e4]; rfl) d_M_undo_6 ?_
  refine lv_if_ne (tgt := 14) hx hb d_M_undo_9 (by decide) (fun c_9 => ?_) (fun c_9 => ?_)
  · exact absurd c_9 (by decide)
  · refine lv_iconst (v := 0) hx hb d_M_undo_12 (by decide) ?_
    have er : ((some (.int 0)) : Option Value) = some (.int 0) := by rfl
    have hPe : va_P (dC, dI) classes (wM ab cI cZ (va_up mk 6 0) mv) H := by exact hP
    exact W.zret (v := 0) hx hb hr rfl (fun t ht hW => ⟨by rw [er], by rw [ht]; exact hPe, hS.F ht⟩) hS.2.2 d_M_undo_13
set_option maxRecDepth 100000 in
set_option maxHeartbeats 4000000 in
theorem c_M_undo_1 (hP : va_P (dC, dI) classes (wM ab cI cZ mk mv) H) (hdD : dD noT ab 14) {d u : Nat} (e4 : mk 4 = nI (d + 1)) (e5 : mk 5 = nI u) (hd : d < 200) (hlg : ∀ k, k ≤ d → (rpF (mv 12) k (fun _ => 0, mv)).2 12 = mv 12) (hO : ∀ k, k < d → okD (mv 12) k (rpF (mv 12) k (fun _ => 0, mv))) : Met l y_M_undo (wB y_M_undo b_M_undo 2 (some .boolean)) ({ frames := 3, cells := 0, slots := 0, locals := 79 } : Room) (rP [.ref (ab 0)] H (kK dC dI cI cZ cJ)) (qW (some (.int 1)) (aN ab 14) (fun H1 => va_P (dC, dI) classes (wM ab cI cZ (mkOf (va_up (va_up (va_up mk 6 0) 4 (nI d)) 5 (nI (u + 1))) (rpF (mv 12) d (fun _ => 0, mv)).1) (rpF (mv 12) d (fun _ => 0, mv)).2) H1)) 0 0 (aN ab 14) := by
  refine Met.ofW (cc := b_M_undo) (maxL := 2) (ret := (some .boolean)) (by decide) rfl ?_
  intro p e s m args below meth c s₁ B hml hv
  obtain ⟨rfl, rfl, hK⟩ := hv
  have hx := B.exec
  have hb := B.bytes
  have hr := B.returns
  have hts0 := atoms_spec (ws := (wB y_M_undo b_M_undo 2 (some .boolean))) B.pre
  have hts : ∀ w9 ∈ BG, w9.before [.ref (ab 0)].toArray s = true := fun w9 hw9 => hts0 w9 (List.mem_cons_of_mem _ hw9)
  have hown : s.vm.findClass R_M = some m.cls := findClass_of_methodNamed B.named
  have hlocks := B.notSynchronized
  have hK : va_K (dC, dI) classes [(cI, .int), (cZ, .boolean), (cJ, .long)] s := hK
  have hD : va_D (aN ab 14) (wM ab cI cZ mk mv) := wM_D (dD_aN hdD)
  have hS : va_S (aN ab 14) s.heap s.heap [] := va_S.rf
  have hl := lv_entry ([.ref (ab 0)]) (n := 2) (Nat.le_of_ble_eq_true rfl)
  rw [lg_entry_eq]
  generalize (lg_sl ([.ref (ab 0)]) ++ List.replicate (2 - (lg_sl ([.ref (ab 0)])).length) Slot.unset).toArray = ls at hl ⊢
  have hl : lv_has ls 2 [(0, .ref (ab 0))] := hl
  refine lv_aload_n hx hb d_M_undo_0 rfl (lv_at hl 0 rfl) ?_
  refine lv_iconst (v := 0) hx hb d_M_undo_1 (by decide) ?_
  refine va_put (D := (dC, dI)) (ci := 6) (v := .int 0) (ty := .int) (C := R_M) (T := F_M) (N := 20) hx hb hts i_M ty_M tok_M n_M hown hK hP hD hS 0 rfl rfl 0 (by decide) (hts _ fl_M_50) (fun _ h9 => h9) rfl (by decide +kernel) rfl rfl (Nat.le_of_ble_eq_true rfl) d_M_undo_2 (fun H locs hP hD hS => ?_)
  have hP : va_P (dC, dI) classes (wM ab cI cZ (va_up mk 6 0) mv) H := hP
  have hD : va_D (aN ab 14) (wM ab cI cZ (va_up mk 6 0) mv) := hD
  refine lv_aload_n hx hb d_M_undo_5 rfl (lv_at hl 0 rfl) ?_
  refine va_get (D := (dC, dI)) (ci := 6) (v := .int (nI (d + 1))) (C := R_M) (T := F_M) (N := 20) hx hb hts i_M hown hK hP 0 rfl rfl 2 (by decide) (hts _ fl_M_71) (fun _ h9 => h9) (by rw [← e4]; rfl) d_M_undo_6 ?_
  refine lv_if_ne (tgt := 14) hx hb d_M_undo_9 (by decide) (fun c_9 => ?_) (fun c_9 => ?_)
  · refine lv_aload_n hx hb d_M_undo_14 rfl (lv_at hl 0 rfl) ?_
    refine lv_dup hx hb d_M_undo_15 rfl ?_
    refine va_get (D := (dC, dI)) (ci := 6) (v := .int (nI (d + 1))) (C := R_M) (T := F_M) (N := 20) hx hb hts i_M hown hK hP 0 rfl rfl 2 (by decide) (hts _ fl_M_71) (fun _ h9 => h9) (by rw [← e4]; rfl) d_M_undo_16 ?_
    refine lv_iconst (v := 1) hx hb d_M_undo_19 (by decide) ?_
    refine lv_isub hx hb d_M_undo_20 ?_
    rw [nI_pred]
    refine va_put (D := (dC, dI)) (ci := 6) (v := .int (nI d)) (ty := .int) (C := R_M) (T := F_M) (N := 20) hx hb hts i_M ty_M tok_M n_M hown hK hP hD hS 0 rfl rfl 2 (by decide) (hts _ fl_M_71) (fun _ h9 => h9) rfl (by decide +kernel) rfl rfl (Nat.le_of_ble_eq_true rfl) d_M_undo_21 (fun H locs hP hD hS => ?_)
    have hP : va_P (dC, dI) classes (wM ab cI cZ (va_up (va_up mk 6 0) 4 (nI d)) mv) H := hP
    have hD : va_D (aN ab 14) (wM ab cI cZ (va_up (va_up mk 6 0) 4 (nI d)) mv) := hD
    refine lv_aload_n hx hb d_M_undo_24 rfl (lv_at hl 0 rfl) ?_
    refine lv_dup hx hb d_M_undo_25 rfl ?_
    refine va_get (D := (dC, dI)) (ci := 6) (v := .int (nI u)) (C := R_M) (T := F_M) (N := 20) hx hb hts i_M hown hK hP 0 rfl rfl 3 (by decide) (hts _ fl_M_74) (fun _ h9 => h9) (by rw [← e5]; rfl) d_M_undo_26 ?_
    refine lv_iconst (v := 1) hx hb d_M_undo_29 (by decide) ?_
    refine lv_iadd hx hb d_M_undo_30 ?_
    rw [nI_1]
    refine va_put (D := (dC, dI)) (ci := 6) (v := .int (nI (u + 1))) (ty := .int) (C := R_M) (T := F_M) (N := 20) hx hb hts i_M ty_M tok_M n_M hown hK hP hD hS 0 rfl rfl 3 (by decide) (hts _ fl_M_74) (fun _ h9 => h9) rfl (by decide +kernel) rfl rfl (Nat.le_of_ble_eq_true rfl) d_M_undo_31 (fun H locs hP hD hS => ?_)
    have hP : va_P (dC, dI) classes (wM ab cI cZ (va_up (va_up (va_up mk 6 0) 4 (nI d)) 5 (nI (u + 1))) mv) H := hP
    have hD : va_D (aN ab 14) (wM ab cI cZ (va_up (va_up (va_up mk 6 0) 4 (nI d)) 5 (nI (u + 1))) mv) := hD
    refine lv_aload_n hx hb d_M_undo_34 rfl (lv_at hl 0 rfl) ?_
    refine lv_iconst (v := 0) hx hb d_M_undo_35 (by decide) ?_
    refine va_put (D := (dC, dI)) (ci := 6) (v := .int 0) (ty := .int) (C := R_M) (T := F_M) (N := 20) hx hb hts i_M ty_M tok_M n_M hown hK hP hD hS 0 rfl rfl 4 (by decide) (hts _ fl_M_54) (fun _ h9 => h9) rfl (by decide +kernel) rfl rfl (Nat.le_of_ble_eq_true rfl) d_M_undo_36 (fun H locs hP hD hS => ?_)
    have hP : va_P (dC, dI) classes (wM ab cI cZ (va_up (va_up (va_up (va_up mk 6 0) 4 (nI d)) 5 (nI (u + 1))) 0 0) mv) H := hP
    have hD : va_D (aN ab 14) (wM ab cI cZ (va_up (va_up (va_up (va_up mk 6 0) 4 (nI d)) 5 (nI (u + 1))) 0 0) mv) := hD
    refine lv_aload_n hx hb d_M_undo_39 rfl (lv_at hl 0 rfl) ?_
    refine lv_iconst (v := 0) hx hb d_M_undo_40 (by decide) ?_
    refine va_put (D := (dC, dI)) (ci := 6) (v := .int 0) (ty := .int) (C := R_M) (T := F_M) (N := 20) hx hb hts i_M ty_M tok_M n_M hown hK hP hD hS 0 rfl rfl 6 (by decide) (hts _ fl_M_57) (fun _ h9 => h9) rfl (by decide +kernel) rfl rfl (Nat.le_of_ble_eq_true rfl) d_M_undo_41 (fun H locs hP hD hS => ?_)
    have hP : va_P (dC, dI) classes (wM ab cI cZ (va_up (va_up (va_up (va_up (va_up mk 6 0) 4 (nI d)) 5 (nI (u + 1))) 0 0) 1 0) mv) H := hP
    have hD : va_D (aN ab 14) (wM ab cI cZ (va_up (va_up (va_up (va_up (va_up mk 6 0) 4 (nI d)) 5 (nI (u + 1))) 0 0) 1 0) mv) := hD
    refine lv_aload_n hx hb d_M_undo_44 rfl (lv_at hl 0 rfl) ?_
    refine lv_iconst (v := 0) hx hb d_M_undo_45 (by decide) ?_
    refine va_put (D := (dC, dI)) (ci := 6) (v := .int 0) (ty := .int) (C := R_M) (T := F_M) (N := 20) hx hb hts i_M ty_M tok_M n_M hown hK hP hD hS 0 rfl rfl 8 (by decide) (hts _ fl_M_60) (fun _ h9 => h9) rfl (by decide +kernel) rfl rfl (Nat.le_of_ble_eq_true rfl) d_M_undo_46 (fun H locs hP hD hS => ?_)
    have hP : va_P (dC, dI) classes (wM ab cI cZ (va_up (va_up (va_up (va_up (va_up (va_up mk 6 0) 4 (nI d)) 5 (nI (u + 1))) 0 0) 1 0) 2 0) mv) H := hP
    have hD : va_D (aN ab 14) (wM ab cI cZ (va_up (va_up (va_up (va_up (va_up (va_up mk 6 0) 4 (nI d)) 5 (nI (u + 1))) 0 0) 1 0) 2 0) mv) := hD
    refine lv_aload_n hx hb d_M_undo_49 rfl (lv_at hl 0 rfl) ?_
    refine lv_iconst (v := 0) hx hb d_M_undo_50 (by decide) ?_
    refine va_put (D := (dC, dI)) (ci := 6) (v := .int 0) (ty := .int) (C := R_M) (T := F_M) (N := 20) hx hb hts i_M ty_M tok_M n_M hown hK hP hD hS 0 rfl rfl 16 (by decide) (hts _ fl_M_81) (fun _ h9 => h9) rfl (by decide +kernel) rfl rfl (Nat.le_of_ble_eq_true rfl) d_M_undo_51 (fun H locs hP hD hS => ?_)
    have hP : va_P (dC, dI) classes (wM ab cI cZ (va_up (va_up (va_up (va_up (va_up (va_up (va_up mk 6 0) 4 (nI d)) 5 (nI (u + 1))) 0 0) 1 0) 2 0) 3 0) mv) H := hP
    have hD : va_D (aN ab 14) (wM ab cI cZ (va_up (va_up (va_up (va_up (va_up (va_up (va_up mk 6 0) 4 (nI d)) 5 (nI (u + 1))) 0 0) 1 0) 2 0) 3 0) mv) := hD
    refine lv_iconst (v := 0) hx hb d_M_undo_54 (by decide) ?_
    refine lv_istore_n (lv' := [(1, .int 0), (0, .ref (ab 0))]) hx hb d_M_undo_55 rfl hl (by decide) rfl (fun ls hl => ?_)
    have loop_56 : ∀ (k9 k : Nat), d + 1 ≤ k + k9 → k ≤ d → ∀ (H : Heap) (locs : List Loc), va_P (dC, dI) classes (wM ab cI cZ (mkOf (va_up (va_up (va_up mk 6 0) 4 (nI d)) 5 (nI (u + 1))) (rpF (mv 12) k (fun _ => 0, mv)).1) (rpF (mv 12) k (fun _ => 0, mv)).2) H → va_S (aN ab 14) s.heap H locs → ∀ (ls : Array Slot), lv_has ls 2 [(0, .ref (ab 0)), (1, .int (nI k))] → W p l e (headSpec (wB y_M_undo b_M_undo 2 (some .boolean)) ({ frames := 3, cells := 0, slots := 0, locals := 79 } : Room)).room s m [.ref (ab 0)].toArray below meth c H locs 0 0 (MQ below (qW (some (.int 1)) (aN ab 14) (fun H1 => va_P (dC, dI) classes (wM ab cI cZ (mkOf (va_up (va_up (va_up mk 6 0) 4 (nI d)) 5 (nI (u + 1))) (rpF (mv 12) d (fun _ => 0, mv)).1) (rpF (mv 12) d (fun _ => 0, mv)).2) H1)) [.ref (ab 0)].toArray s 0 0 (aN ab 14)) (F0 m 56 ls []) := by
      intro k9_56
      induction k9_56 with
      | zero => intro k  hk_56 hk2 H locs hP hS ls hl; exact absurd hk_56 (by omega)
      | succ k9_56 ih_56 =>
        intro k  hk_56 hk2 H locs hP hS ls hl
        have hD : va_D (aN ab 14) (wM ab cI cZ (mkOf (va_up (va_up (va_up mk 6 0) 4 (nI d)) 5 (nI (u + 1))) (rpF (mv 12) k (fun _ => 0, mv)).1) (rpF (mv 12) k (fun _ => 0, mv)).2) := wM_D (dD_aN hdD)
        refine lv_iload_n hx hb d_M_undo_56 rfl (lv_at hl 1 rfl) ?_
        refine lv_aload_n hx hb d_M_undo_57 rfl (lv_at hl 0 rfl) ?_
        refine va_get (D := (dC, dI)) (ci := 6) (v := .int ((mkOf (va_up (va_up (va_up mk 6 0) 4 (nI d)) 5 (nI (u + 1))) (rpF (mv 12) k (fun _ => 0, mv)).1) 4)) (C := R_M) (T := F_M) (N := 20) hx hb hts i_M hown hK hP 0 rfl rfl 2 (by decide) (hts _ fl_M_71) (fun _ h9 => h9) rfl d_M_undo_58 ?_
        refine lv_icmp_ge (tgt := 76) hx hb d_M_undo_61 (by decide) (fun c_61 => ?_) (fun c_61 => ?_)
        · have hk3 : k = d := Nat.le_antisymm hk2 (geC (n := d) rfl c_61 (by omega) (by omega))
          refine lv_iconst (v := 1) hx hb d_M_undo_76 (by decide) ?_
          have er : ((some (.int 1)) : Option Value) = some (.int 1) := by rfl
          have hPe : va_P (dC, dI) classes (wM ab cI cZ (mkOf (va_up (va_up (va_up mk 6 0) 4 (nI d)) 5 (nI (u + 1))) (rpF (mv 12) d (fun _ => 0, mv)).1) (rpF (mv 12) d (fun _ => 0, mv)).2) H := by have h9 := hP; rw [hk3] at h9; exact h9
          exact W.zret (v := 1) hx hb hr rfl (fun t ht hW => ⟨by rw [er], by rw [ht]; exact hPe, hS.F ht⟩) hS.2.2 d_M_undo_77
        · have hk3 : k < d := ltC (n := d) rfl c_61 (by omega) (by omega)
          refine lv_aload_n hx hb d_M_undo_64 rfl (lv_at hl 0 rfl) ?_
          refine lv_iload_n hx hb d_M_undo_65 rfl (lv_at hl 1 rfl) ?_
          refine cW (W.runV (As := [.int (nI k)]) (rest := []) ⟨hx, hb, hml, hown, hts⟩ (c_M_draw (mk := mkOf (va_up (va_up (va_up mk 6 0) 4 (nI d)) 5 (nI (u + 1))) (rpF (mv 12) k (fun _ => 0, mv)).1) (mv := (rpF (mv 12) k (fun _ => 0, mv)).2) (mn := (rpF (mv 12) k (fun _ => 0, mv)).1) hP hdD (fun i hi => by simp only [mkOf]; rw [if_pos hi]) (show k < 200 by omega) (by rw [hlg k hk2]; exact hO k hk3)) (cwV 1 hts (wB_goodV (fun _ h => h) ml_M_77 im_M_draw se_M_draw ini_M co_M_draw) rfl rfl rfl (by decide +kernel) ⟨Nat.le_of_ble_eq_true rfl, Nat.le_of_ble_eq_true rfl⟩) (pV hK hP (ci := 6) (q0 := 0) rfl rfl _) rfl rfl hl.1 rfl (lv_room (Nat.le_of_ble_eq_true rfl)) d_M_undo_66 ⟨Nat.zero_le _, Nat.zero_le _⟩) hS (fun _ h => h) (fun H locs hP hS _ _ => ?_)
          have hP : va_P (dC, dI) classes (wM ab cI cZ (mkOf (mkOf (va_up (va_up (va_up mk 6 0) 4 (nI d)) 5 (nI (u + 1))) (rpF (mv 12) k (fun _ => 0, mv)).1) (stD ((rpF (mv 12) k (fun _ => 0, mv)).2 12) k ((rpF (mv 12) k (fun _ => 0, mv)).1, (rpF (mv 12) k (fun _ => 0, mv)).2)).1) (stD ((rpF (mv 12) k (fun _ => 0, mv)).2 12) k ((rpF (mv 12) k (fun _ => 0, mv)).1, (rpF (mv 12) k (fun _ => 0, mv)).2)).2) H := hP
          have hD : va_D (aN ab 14) (wM ab cI cZ (mkOf (mkOf (va_up (va_up (va_up mk 6 0) 4 (nI d)) 5 (nI (u + 1))) (rpF (mv 12) k (fun _ => 0, mv)).1) (stD ((rpF (mv 12) k (fun _ => 0, mv)).2 12) k ((rpF (mv 12) k (fun _ => 0, mv)).1, (rpF (mv 12) k (fun _ => 0, mv)).2)).1) (stD ((rpF (mv 12) k (fun _ => 0, mv)).2 12) k ((rpF (mv 12) k (fun _ => 0, mv)).1, (rpF (mv 12) k (fun _ => 0, mv)).2)).2) := wM_D (dD_aN hdD)
          have h9 := hP
          rw [mkOf2, hlg k hk2] at h9
          have hP : va_P (dC, dI) classes (wM ab cI cZ (mkOf (va_up (va_up (va_up mk 6 0) 4 (nI d)) 5 (nI (u + 1))) (rpF (mv 12) (k + 1) (fun _ => 0, mv)).1) (rpF (mv 12) (k + 1) (fun _ => 0, mv)).2) H := h9
          refine lv_pop hx hb d_M_undo_69 rfl ?_
          refine lv_iinc (v := (nI (k + 1))) (lv' := [(1, .int (nI (k + 1))), (0, .ref (ab 0))]) hx hb d_M_undo_70 hl (k := 1) rfl (nI_1 _) (by decide) rfl (fun ls hl => ?_)
          refine lv_goto (tgt := 56) hx hb d_M_undo_73 (by decide) ?_
          exact ih_56 (k + 1) (by omega) (by omega) _ _ hP hS ls (lv_sub hl [1, 0] rfl)
    have hP : va_P (dC, dI) classes (wM ab cI cZ (mkOf (va_up (va_up (va_up mk 6 0) 4 (nI d)) 5 (nI (u + 1))) (rpF (mv 12) 0 (fun _ => 0, mv)).1) (rpF (mv 12) 0 (fun _ => 0, mv)).2) H := by rw [← wM_of (mk := (va_up (va_up (va_up (va_up (va_up (va_up (va_up mk 6 0) 4 (nI d)) 5 (nI (u + 1))) 0 0) 1 0) 2 0) 3 0)) (mk' := mkOf (va_up (va_up (va_up mk 6 0) 4 (nI d)) 5 (nI (u + 1))) (rpF (mv 12) 0 (fun _ => 0, mv)).1) (lt7 rfl rfl rfl rfl rfl rfl rfl)]; exact hP
    exact loop_56 (d + 1) 0 (by omega) (by omega) _ _ hP hS ls (lv_sub hl [1, 0] rfl)
  · exact absurd c_9 (by exact fun h => absurd ((nI_eq (a := d + 1) (b := 0) (by omega) (by decide)).mp h) (by omega))
set_option maxRecDepth 100000 in
set_option maxHeartbeats 4000000 in
theorem c_M_redo_0 (hP : va_P (dC, dI) classes (wM ab cI cZ mk mv) H) (hdD : dD noT ab 14) (e5 : mk 5 = 0) : Met l y_M_redo (wB y_M_redo b_M_redo 1 (some .boolean)) ({ frames := 3, cells := 0, slots := 0, locals := 79 } : Room) (rP [.ref (ab 0)] H (kK dC dI cI cZ cJ)) (qW (some (.int 0)) (aN ab 14) (fun H1 => va_P (dC, dI) classes (wM ab cI cZ (va_up mk 6 0) mv) H1)) 0 0 (aN ab 14) := by
  refine Met.ofW (cc := b_M_redo) (maxL := 1) (ret := (some .boolean)) (by decide) rfl ?_
  intro p e s m args below meth c s₁ B hml hv
  obtain ⟨rfl, rfl, hK⟩ := hv
  have hx := B.exec
  have hb := B.bytes
  have hr := B.returns
  have hts0 := atoms_spec (ws := (wB y_M_redo b_M_redo 1 (some .boolean))) B.pre
  have hts : ∀ w9 ∈ BG, w9.before [.ref (ab 0)].toArray s = true := fun w9 hw9 => hts0 w9 (List.mem_cons_of_mem _ hw9)
  have hown : s.vm.findClass R_M = some m.cls := findClass_of_methodNamed B.named
  have hlocks := B.notSynchronized
  have hK : va_K (dC, dI) classes [(cI, .int), (cZ, .boolean), (cJ, .long)] s := hK
  have hD : va_D (aN ab 14) (wM ab cI cZ mk mv) := wM_D (dD_aN hdD)
  have hS : va_S (aN ab 14) s.heap s.heap [] := va_S.rf
  have hl := lv_entry ([.ref (ab 0)]) (n := 1) (Nat.le_of_ble_eq_true rfl)
  rw [lg_entry_eq]
  generalize (lg_sl ([.ref (ab 0)]) ++ List.replicate (1 - (lg_sl ([.ref (ab 0)])).length) Slot.unset).toArray = ls at hl ⊢
  have hl : lv_has ls 1 [(0, .ref (ab 0))] := hl
  refine lv_aload_n hx hb d_M_redo_0 rfl (lv_at hl 0 rfl) ?_
  refine lv_iconst (v := 0) hx hb d_M_redo_1 (by decide) ?_
  refine va_put (D := (dC, dI)) (ci := 6) (v := .int 0) (ty := .int) (C := R_M) (T := F_M) (N := 20) hx hb hts i_M ty_M tok_M n_M hown hK hP hD hS 0 rfl rfl 0 (by decide) (hts _ fl_M_50) (fun _ h9 => h9) rfl (by decide +kernel) rfl rfl (Nat.le_of_ble_eq_true rfl) d_M_redo_2 (fun H locs hP hD hS => ?_)
  have hP : va_P (dC, dI) classes (wM ab cI cZ (va_up mk 6 0) mv) H := hP
  have hD : va_D (aN ab 14) (wM ab cI cZ (va_up mk 6 0) mv) := hD
  refine lv_aload_n hx hb d_M_redo_5 rfl (lv_at hl 0 rfl) ?_
  refine va_get (D := (dC, dI)) (ci := 6) (v := .int 0) (C := R_M) (T := F_M) (N := 20) hx hb hts i_M hown hK hP 0 rfl rfl 3 (by decide) (hts _ fl_M_74) (fun _ h9 => h9) (by rw [← e5]; rfl) d_M_redo_6 ?_
  refine lv_if_ne (tgt := 14) hx hb d_M_redo_9 (by decide) (fun c_9 => ?_) (fun c_9 => ?_)
  · exact absurd c_9 (by decide)
  · refine lv_iconst (v := 0) hx hb d_M_redo_12 (by decide) ?_
    have er : ((some (.int 0)) : Option Value) = some (.int 0) := by rfl
    have hPe : va_P (dC, dI) classes (wM ab cI cZ (va_up mk 6 0) mv) H := by exact hP
    exact W.zret (v := 0) hx hb hr rfl (fun t ht hW => ⟨by rw [er], by rw [ht]; exact hPe, hS.F ht⟩) hS.2.2 d_M_redo_13
set_option maxRecDepth 100000 in
set_option maxHeartbeats 4000000 in
theorem c_M_redo_1 (hP : va_P (dC, dI) classes (wM ab cI cZ mk mv) H) (hdD : dD noT ab 14) (eK : ∀ i, i < 4 → mk i = nI (mn i)) {d u : Nat} (e4 : mk 4 = nI d) (e5 : mk 5 = nI (u + 1)) (hd : d < 200) (hu : u < 200) (hO : okD (mv 12) d (mn, mv)) : Met l y_M_redo (wB y_M_redo b_M_redo 1 (some .boolean)) ({ frames := 3, cells := 0, slots := 0, locals := 79 } : Room) (rP [.ref (ab 0)] H (kK dC dI cI cZ cJ)) (qW (some (.int 1)) (aN ab 14) (fun H1 => va_P (dC, dI) classes (wM ab cI cZ (va_up (va_up (mkOf (va_up mk 6 0) (stD (mv 12) d (mn, mv)).1) 4 (nI (d + 1))) 5 (nI u)) (stD (mv 12) d (mn, mv)).2) H1)) 0 0 (aN ab 14) := by
  refine Met.ofW (cc := b_M_redo) (maxL := 1) (ret := (some .boolean)) (by decide) rfl ?_
  intro p e s m args below meth c s₁ B hml hv
  obtain ⟨rfl, rfl, hK⟩ := hv
  have hx := B.exec
  have hb := B.bytes
  have hr := B.returns
  have hts0 := atoms_spec (ws := (wB y_M_redo b_M_redo 1 (some .boolean))) B.pre
  have hts : ∀ w9 ∈ BG, w9.before [.ref (ab 0)].toArray s = true := fun w9 hw9 => hts0 w9 (List.mem_cons_of_mem _ hw9)
  have hown : s.vm.findClass R_M = some m.cls := findClass_of_methodNamed B.named
  have hlocks := B.notSynchronized
  have hK : va_K (dC, dI) classes [(cI, .int), (cZ, .boolean), (cJ, .long)] s := hK
  have hD : va_D (aN ab 14) (wM ab cI cZ mk mv) := wM_D (dD_aN hdD)
  have hS : va_S (aN ab 14) s.heap s.heap [] := va_S.rf
  have hl := lv_entry ([.ref (ab 0)]) (n := 1) (Nat.le_of_ble_eq_true rfl)
  rw [lg_entry_eq]
  generalize (lg_sl ([.ref (ab 0)]) ++ List.replicate (1 - (lg_sl ([.ref (ab 0)])).length) Slot.unset).toArray = ls at hl ⊢
  have hl : lv_has ls 1 [(0, .ref (ab 0))] := hl
  refine lv_aload_n hx hb d_M_redo_0 rfl (lv_at hl 0 rfl) ?_
  refine lv_iconst (v := 0) hx hb d_M_redo_1 (by decide) ?_
  refine va_put (D := (dC, dI)) (ci := 6) (v := .int 0) (ty := .int) (C := R_M) (T := F_M) (N := 20) hx hb hts i_M ty_M tok_M n_M hown hK hP hD hS 0 rfl rfl 0 (by decide) (hts _ fl_M_50) (fun _ h9 => h9) rfl (by decide +kernel) rfl rfl (Nat.le_of_ble_eq_true rfl) d_M_redo_2 (fun H locs hP hD hS => ?_)
  have hP : va_P (dC, dI) classes (wM ab cI cZ (va_up mk 6 0) mv) H := hP
  have hD : va_D (aN ab 14) (wM ab cI cZ (va_up mk 6 0) mv) := hD
  refine lv_aload_n hx hb d_M_redo_5 rfl (lv_at hl 0 rfl) ?_
  refine va_get (D := (dC, dI)) (ci := 6) (v := .int (nI (u + 1))) (C := R_M) (T := F_M) (N := 20) hx hb hts i_M hown hK hP 0 rfl rfl 3 (by decide) (hts _ fl_M_74) (fun _ h9 => h9) (by rw [← e5]; rfl) d_M_redo_6 ?_
  refine lv_if_ne (tgt := 14) hx hb d_M_redo_9 (by decide) (fun c_9 => ?_) (fun c_9 => ?_)
  · refine lv_aload_n hx hb d_M_redo_14 rfl (lv_at hl 0 rfl) ?_
    refine lv_aload_n hx hb d_M_redo_15 rfl (lv_at hl 0 rfl) ?_
    refine va_get (D := (dC, dI)) (ci := 6) (v := .int (nI d)) (C := R_M) (T := F_M) (N := 20) hx hb hts i_M hown hK hP 0 rfl rfl 2 (by decide) (hts _ fl_M_71) (fun _ h9 => h9) (by rw [← e4]; rfl) d_M_redo_16 ?_
    refine cW (W.runV (As := [.int (nI d)]) (rest := []) ⟨hx, hb, hml, hown, hts⟩ (c_M_draw (mk := va_up mk 6 0) (mn := mn) hP hdD (fun i hi => (va6 (by omega)).trans (eK i hi)) hd hO) (cwV 1 hts (wB_goodV (fun _ h => h) ml_M_77 im_M_draw se_M_draw ini_M co_M_draw) rfl rfl rfl (by decide +kernel) ⟨Nat.le_of_ble_eq_true rfl, Nat.le_of_ble_eq_true rfl⟩) (pV hK hP (ci := 6) (q0 := 0) rfl rfl _) rfl rfl hl.1 rfl (lv_room (Nat.le_of_ble_eq_true rfl)) d_M_redo_19 ⟨Nat.zero_le _, Nat.zero_le _⟩) hS (fun _ h => h) (fun H locs hP hS _ _ => ?_)
    have hP : va_P (dC, dI) classes (wM ab cI cZ (mkOf (va_up mk 6 0) (stD (mv 12) d (mn, mv)).1) (stD (mv 12) d (mn, mv)).2) H := hP
    have hD : va_D (aN ab 14) (wM ab cI cZ (mkOf (va_up mk 6 0) (stD (mv 12) d (mn, mv)).1) (stD (mv 12) d (mn, mv)).2) := wM_D (dD_aN hdD)
    refine lv_pop hx hb d_M_redo_22 rfl ?_
    refine lv_aload_n hx hb d_M_redo_23 rfl (lv_at hl 0 rfl) ?_
    refine lv_dup hx hb d_M_redo_24 rfl ?_
    refine va_get (D := (dC, dI)) (ci := 6) (v := .int (nI d)) (C := R_M) (T := F_M) (N := 20) hx hb hts i_M hown hK hP 0 rfl rfl 2 (by decide) (hts _ fl_M_71) (fun _ h9 => h9) (by rw [← e4]; rfl) d_M_redo_25 ?_
    refine lv_iconst (v := 1) hx hb d_M_redo_28 (by decide) ?_
    refine lv_iadd hx hb d_M_redo_29 ?_
    rw [nI_1]
    refine va_put (D := (dC, dI)) (ci := 6) (v := .int (nI (d + 1))) (ty := .int) (C := R_M) (T := F_M) (N := 20) hx hb hts i_M ty_M tok_M n_M hown hK hP hD hS 0 rfl rfl 2 (by decide) (hts _ fl_M_71) (fun _ h9 => h9) rfl (by decide +kernel) rfl rfl (Nat.le_of_ble_eq_true rfl) d_M_redo_30 (fun H locs hP hD hS => ?_)
    have hP : va_P (dC, dI) classes (wM ab cI cZ (va_up (mkOf (va_up mk 6 0) (stD (mv 12) d (mn, mv)).1) 4 (nI (d + 1))) (stD (mv 12) d (mn, mv)).2) H := hP
    have hD : va_D (aN ab 14) (wM ab cI cZ (va_up (mkOf (va_up mk 6 0) (stD (mv 12) d (mn, mv)).1) 4 (nI (d + 1))) (stD (mv 12) d (mn, mv)).2) := hD
    refine lv_aload_n hx hb d_M_redo_33 rfl (lv_at hl 0 rfl) ?_
    refine lv_dup hx hb d_M_redo_34 rfl ?_
    refine va_get (D := (dC, dI)) (ci := 6) (v := .int (nI (u + 1))) (C := R_M) (T := F_M) (N := 20) hx hb hts i_M hown hK hP 0 rfl rfl 3 (by decide) (hts _ fl_M_74) (fun _ h9 => h9) (by rw [← e5]; rfl) d_M_redo_35 ?_
    refine lv_iconst (v := 1) hx hb d_M_redo_38 (by decide) ?_
    refine lv_isub hx hb d_M_redo_39 ?_
    rw [nI_pred]
    refine va_put (D := (dC, dI)) (ci := 6) (v := .int (nI u)) (ty := .int) (C := R_M) (T := F_M) (N := 20) hx hb hts i_M ty_M tok_M n_M hown hK hP hD hS 0 rfl rfl 3 (by decide) (hts _ fl_M_74) (fun _ h9 => h9) rfl (by decide +kernel) rfl rfl (Nat.le_of_ble_eq_true rfl) d_M_redo_40 (fun H locs hP hD hS => ?_)
    have hP : va_P (dC, dI) classes (wM ab cI cZ (va_up (va_up (mkOf (va_up mk 6 0) (stD (mv 12) d (mn, mv)).1) 4 (nI (d + 1))) 5 (nI u)) (stD (mv 12) d (mn, mv)).2) H := hP
    have hD : va_D (aN ab 14) (wM ab cI cZ (va_up (va_up (mkOf (va_up mk 6 0) (stD (mv 12) d (mn, mv)).1) 4 (nI (d + 1))) 5 (nI u)) (stD (mv 12) d (mn, mv)).2) := hD
    refine lv_iconst (v := 1) hx hb d_M_redo_43 (by decide) ?_
    have er : ((some (.int 1)) : Option Value) = some (.int 1) := by rfl
    have hPe : va_P (dC, dI) classes (wM ab cI cZ (va_up (va_up (mkOf (va_up mk 6 0) (stD (mv 12) d (mn, mv)).1) 4 (nI (d + 1))) 5 (nI u)) (stD (mv 12) d (mn, mv)).2) H := by exact hP
    exact W.zret (v := 1) hx hb hr rfl (fun t ht hW => ⟨by rw [er], by rw [ht]; exact hPe, hS.F ht⟩) hS.2.2 d_M_redo_44
  · exact absurd c_9 (by exact fun h => absurd ((nI_eq (a := u + 1) (b := 0) (by omega) (by decide)).mp h) (by omega))
end
