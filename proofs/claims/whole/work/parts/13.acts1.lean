section
variable {l : Launch} {dC : Nat → ClassId} {dI : Nat → Nat → Nat} {H : Heap} {aa : Nat → Nat} {cI cZ cJ : ClassId} {kn : Nat → Int32} {vv : Nat → Nat → Int32} {nn : Nat → Nat} {AX : Nat → Prop}
set_option maxRecDepth 100000 in
set_option maxHeartbeats 4000000 in
theorem c_C_storey (hlt : l.stackTraces = false) (hP : va_P (dC, dI) classes (wC aa cI cZ kn vv) H) (hdD : dD noT aa 22) (hI : okC kn nn) (x : Int32) : vx_Met l y_C_storey (wB y_C_storey b_C_storey 3 (some .int)) ({ frames := 7, cells := 1, slots := 6, locals := 112 } : Room) (rP [.ref (aa 0), .int x] H (kT dC dI cI cZ cJ (aN aa 22))) (qT (kAct (lvB kn vv (nn 0) x) (decide (nn 0 < 6)) (nn 4)) (some (.int (nI (nn 0)))) (aN aa 22) (fun H1 => va_P (dC, dI) classes (wC aa cI cZ (pfK kn (u1 vv 0 (nn 0) x) (nn 4) 0 (nI (nn 0)) 0 0) (pfV (u1 vv 0 (nn 0) x) (nn 4) 0 (nI (nn 0)) 0 0)) H1)) (xT (kAct (lvB kn vv (nn 0) x) (decide (nn 0 < 6)) (nn 4))) 1 6 (aN aa 22) := by
  refine vx_ofW (cc := b_C_storey) (maxL := 3) (ret := (some .int)) (by decide) rfl ?_
  intro p e s m args below meth c s₁ B hml hexc hv
  obtain ⟨rfl, rfl, hK, hT⟩ := hv
  have hx := B.exec
  have hb := B.bytes
  have hr := B.returns
  have hts0 := atoms_spec (ws := (wB y_C_storey b_C_storey 3 (some .int))) B.pre
  have hts : ∀ w9 ∈ BG, w9.before [.ref (aa 0), .int x].toArray s = true := fun w9 hw9 => hts0 w9 (List.mem_cons_of_mem _ hw9)
  have hown : s.vm.findClass R_C = some m.cls := findClass_of_methodNamed B.named
  have hlocks := B.notSynchronized
  have hK : va_K (dC, dI) classes [(cI, .int), (cZ, .boolean), (cJ, .long)] s := hK
  have hD : va_D (aN aa 22) (wC aa cI cZ kn vv) := wC_D (dD_aN hdD)
  have hS : va_S (aN aa 22) s.heap s.heap [] := va_S.rf
  have hl := lv_entry ([.ref (aa 0), .int x]) (n := 3) (Nat.le_of_ble_eq_true rfl)
  rw [lg_entry_eq]
  generalize (lg_sl ([.ref (aa 0), .int x]) ++ List.replicate (3 - (lg_sl ([.ref (aa 0), .int x])).length) Slot.unset).toArray = ls at hl ⊢
  have hl : lv_has ls 3 [(0, .ref (aa 0)), (1, .int x)] := hl
  obtain ⟨eK, b0, b1, b2, b3, b4, b5⟩ := id hI
  refine lv_aload_n hx hb d_C_storey_0 rfl (lv_at hl 0 rfl) ?_
  refine va_get (D := (dC, dI)) (ci := 0) (v := .ref (aa 1)) (C := R_C) (T := F_C) (N := 5) hx hb hts i_C hown hK hP 0 rfl rfl 0 (by decide) (hts _ fl_C_10) (fun _ h9 => h9) rfl d_C_storey_1 ?_
  refine va_get (D := (dC, dI)) (ci := 3) (v := .int (nI (nn 0))) (C := R_S) (T := F_S) (N := 2) hx hb hts i_S hown hK hP 1 rfl rfl 1 (by decide) (hts _ fl_C_44) (fun _ h9 => h9) (by rw [← (eK 0 (by decide))]; rfl) d_C_storey_4 ?_
  refine lv_istore_n (lv' := [(2, .int (nI (nn 0))), (0, .ref (aa 0)), (1, .int x)]) hx hb d_C_storey_7 rfl hl (by decide) rfl (fun ls hl => ?_)
  refine lv_aload_n hx hb d_C_storey_8 rfl (lv_at hl 1 rfl) ?_
  refine lv_iload_n hx hb d_C_storey_9 rfl (lv_at hl 0 rfl) ?_
  refine lv_iload_n hx hb d_C_storey_10 rfl (lv_at hl 2 rfl) ?_
  by_cases h_11 : lvB kn vv (nn 0) x = true
  · refine cV (W.runV (As := [.int (nI (nn 0)), .int x]) (rest := []) ⟨hx, hb, hml, hown, hts⟩ (c_C_checkLevel_ok hP hI (Nat.le_refl _) x h_11) (cwV 2 hts (wB_goodV (fun _ h => h) ml_C_48 im_C_checkLevel se_C_checkLevel ini_C co_C_checkLevel) rfl rfl rfl (by decide +kernel) ⟨Nat.le_of_ble_eq_true rfl, Nat.le_of_ble_eq_true rfl⟩) (pV hK hP (ci := 0) (q0 := 0) rfl rfl _) rfl rfl hl.1 rfl (lv_room (Nat.le_of_ble_eq_true rfl)) d_C_storey_11 ⟨Nat.le_of_ble_eq_true rfl, Nat.le_of_ble_eq_true rfl⟩) ?_
    refine lv_iload_n hx hb d_C_storey_14 rfl (lv_at hl 0 rfl) ?_
    refine lv_bipush (v := 6) hx hb d_C_storey_15 (by decide) ?_
    refine lv_icmp_lt (tgt := 30) hx hb d_C_storey_17 (by decide) (fun c_17 => ?_) (fun c_17 => ?_)
    · have hs17 : nn 0 < 6 := (nI_ltI (by omega) (by decide)).mp c_17
      refine lv_aload_n hx hb d_C_storey_30 rfl (lv_at hl 1 rfl) ?_
      by_cases h_31 : decide ((nn 4) < 200) = true
      · refine cV (W.runV (As := []) (rest := []) ⟨hx, hb, hml, hown, hts⟩ (c_C_checkRoomForAct_ok hP (eK 4 (by decide)) (show nn 4 < 2 ^ 31 by omega)  h_31) (cwV 0 hts (wB_goodV (fun _ h => h) ml_C_59 im_C_checkRoomForAct se_C_checkRoomForAct ini_C co_C_checkRoomForAct) rfl rfl rfl (by decide +kernel) ⟨Nat.le_of_ble_eq_true rfl, Nat.le_of_ble_eq_true rfl⟩) (pV hK hP (ci := 0) (q0 := 0) rfl rfl _) rfl rfl hl.1 rfl (lv_room (Nat.le_of_ble_eq_true rfl)) d_C_storey_31 ⟨Nat.le_of_ble_eq_true rfl, Nat.le_of_ble_eq_true rfl⟩) ?_
        have hd4 : nn 4 < 200 := by simpa using h_31
        have hroom : ¬ 200 ≤ nn 4 := by omega
        refine lv_aload_n hx hb d_C_storey_34 rfl (lv_at hl 1 rfl) ?_
        refine va_get (D := (dC, dI)) (ci := 0) (v := .ref (aa 1)) (C := R_C) (T := F_C) (N := 5) hx hb hts i_C hown hK hP 0 rfl rfl 0 (by decide) (hts _ fl_C_10) (fun _ h9 => h9) rfl d_C_storey_35 ?_
        refine va_get (D := (dC, dI)) (ci := 3) (v := .ref (aa 6)) (C := R_S) (T := F_S) (N := 2) hx hb hts i_S hown hK hP 1 rfl rfl 0 (by decide) (hts _ fl_C_62) (fun _ h9 => h9) rfl d_C_storey_38 ?_
        refine lv_iload_n hx hb d_C_storey_41 rfl (lv_at hl 0 rfl) ?_
        refine lv_iload_n hx hb d_C_storey_42 rfl (lv_at hl 2 rfl) ?_
        refine va_iast hx hb hK hP hD hS 6 0 rfl rfl (vp_in_nI (by omega) (by omega)) d_C_storey_43 (fun H locs hP hD hS => ?_)
        rw [nI_clamp (show (nn 0) < 2 ^ 31 by omega)] at hP hD
        have hP : va_P (dC, dI) classes (wC aa cI cZ kn (va_up vv 0 (upd (vv 0) (nn 0) x))) H := hP
        have hD : va_D (aN aa 22) (wC aa cI cZ kn (va_up vv 0 (upd (vv 0) (nn 0) x))) := hD
        refine lv_aload_n hx hb d_C_storey_44 rfl (lv_at hl 1 rfl) ?_
        refine lv_iconst (v := 0) hx hb d_C_storey_45 (by decide) ?_
        refine lv_iload_n hx hb d_C_storey_46 rfl (lv_at hl 0 rfl) ?_
        refine lv_iconst (v := 0) hx hb d_C_storey_47 (by decide) ?_
        refine lv_iconst (v := 0) hx hb d_C_storey_48 (by decide) ?_
        refine cW (W.runV (As := [.int 0, .int (nI (nn 0)), .int 0, .int 0]) (rest := []) ⟨hx, hb, hml, hown, hts⟩ (c_C_perform hP hdD (d := nn 4) (eK 4 (by decide)) hd4 _ _ _ _ (okA_0 (Or.inl rfl))) (cwV 4 hts (wB_goodV (fun _ h => h) ml_C_66 im_C_perform se_C_perform ini_C co_C_perform) rfl rfl rfl (by decide +kernel) ⟨Nat.le_of_ble_eq_true rfl, Nat.le_of_ble_eq_true rfl⟩) (pV hK hP (ci := 0) (q0 := 0) rfl rfl _) rfl rfl hl.1 rfl (lv_room (Nat.le_of_ble_eq_true rfl)) d_C_storey_49 ⟨Nat.zero_le _, Nat.zero_le _⟩) hS (fun _ h => h) (fun H locs hP hS _ _ => ?_)
        have hP : va_P (dC, dI) classes (wC aa cI cZ (pfK kn (va_up vv 0 (upd (vv 0) (nn 0) x)) (nn 4) 0 (nI (nn 0)) 0 0) (pfV (va_up vv 0 (upd (vv 0) (nn 0) x)) (nn 4) 0 (nI (nn 0)) 0 0)) H := hP
        have hD : va_D (aN aa 22) (wC aa cI cZ (pfK kn (va_up vv 0 (upd (vv 0) (nn 0) x)) (nn 4) 0 (nI (nn 0)) 0 0) (pfV (va_up vv 0 (upd (vv 0) (nn 0) x)) (nn 4) 0 (nI (nn 0)) 0 0)) := wC_D (dD_aN hdD)
        refine lv_iload_n hx hb d_C_storey_52 rfl (lv_at hl 0 rfl) ?_
        have ek : (kAct (lvB kn vv (nn 0) x) (decide (nn 0 < 6)) (nn 4)) = 0 := by simp [kAct, h_11, h_31, hs17, hroom]
        have er : ((some (.int (nI (nn 0)))) : Option Value) = some (.int (nI (nn 0))) := by rfl
        have hPe : va_P (dC, dI) classes (wC aa cI cZ (pfK kn (u1 vv 0 (nn 0) x) (nn 4) 0 (nI (nn 0)) 0 0) (pfV (u1 vv 0 (nn 0) x) (nn 4) 0 (nI (nn 0)) 0 0)) H := by exact hP
        refine vx_ret ?_
        refine W.widen (k := 1) (n := 6) (Nat.zero_le _) (Nat.zero_le _) ?_
        exact W.iret (v := (nI (nn 0))) hx hb hr (fun t ht hW => ⟨ek, by rw [er], by rw [ht]; exact hPe, hS.F ht⟩) hS.2.2 d_C_storey_53
      · have h_31 : decide ((nn 4) < 200) = false := by simpa using h_31
        have ek : (kAct (lvB kn vv (nn 0) x) (decide (nn 0 < 6)) (nn 4)) = 2 := by simp [kAct, h_11, h_31, hs17]; simpa using h_31
        refine cX (vx_runV (As := []) (rest := []) ⟨hx, hb, hml, hown, hts⟩ (c_C_checkRoomForAct_no hlt hP (eK 4 (by decide)) (show nn 4 < 2 ^ 31 by omega)  h_31) (cwV 0 hts (wB_goodV (fun _ h => h) ml_C_59 im_C_checkRoomForAct se_C_checkRoomForAct ini_C co_C_checkRoomForAct) rfl rfl rfl (by decide +kernel) ⟨Nat.le_of_ble_eq_true rfl, Nat.le_of_ble_eq_true rfl⟩) (pVT hK hT hS hP (ci := 0) (q0 := 0) rfl rfl _) rfl rfl hl.1 rfl (lv_room (Nat.le_of_ble_eq_true rfl)) d_C_storey_31 ⟨Nat.le_of_ble_eq_true rfl, Nat.le_of_ble_eq_true rfl⟩) (fun ce q9 H1 locs1 hz hkp hlo hce hcv hcl => ?_)
        exact vx_out (fun x h => (hexc x h).elim) hlocks hce hcv hcl (fun t ht hal => ⟨Or.inr ⟨ek, rfl⟩, by rw [ht]; exact hz, fun q hq _ => by rw [ht]; exact hkp q hq⟩) (fun z hz9 => by cases hlo z hz9) (Nat.le_of_ble_eq_true rfl) (Nat.le_of_ble_eq_true rfl)
    · have hs17 : ¬ nn 0 < 6 := fun h => c_17 ((nI_ltI (by omega) (by decide)).mpr h)
      have ek : (kAct (lvB kn vv (nn 0) x) (decide (nn 0 < 6)) (nn 4)) = 2 := by simp [kAct, h_11, hs17]
      exact thIS hx hb hlt hown hts hT hS (hl.1.trans hml.symm) (is := 54) (List.mem_of_getElem? (i := 2) rfl) d_C_storey_20 d_C_storey_23 d_C_storey_24 d_C_storey_26 d_C_storey_29 hexc (Nat.le_of_ble_eq_true rfl) (Nat.le_of_ble_eq_true rfl) (Nat.le_of_ble_eq_true rfl) (Nat.le_of_ble_eq_true rfl) hlocks (fun t hal hz hkp => ⟨Or.inr ⟨ek, rfl⟩, hz, fun q hq _ => hkp q hq⟩) (fun z hz => by cases hz) (Nat.le_of_ble_eq_true rfl) (Nat.le_of_ble_eq_true rfl)
  · have h_11 : lvB kn vv (nn 0) x = false := by simpa using h_11
    have ek : (kAct (lvB kn vv (nn 0) x) (decide (nn 0 < 6)) (nn 4)) = 1 := by simp [kAct, h_11]
    refine cX (vx_runV (As := [.int (nI (nn 0)), .int x]) (rest := []) ⟨hx, hb, hml, hown, hts⟩ (c_C_checkLevel_no hlt hP hI (Nat.le_refl _) x h_11) (cwV 2 hts (wB_goodV (fun _ h => h) ml_C_48 im_C_checkLevel se_C_checkLevel ini_C co_C_checkLevel) rfl rfl rfl (by decide +kernel) ⟨Nat.le_of_ble_eq_true rfl, Nat.le_of_ble_eq_true rfl⟩) (pVT hK hT hS hP (ci := 0) (q0 := 0) rfl rfl _) rfl rfl hl.1 rfl (lv_room (Nat.le_of_ble_eq_true rfl)) d_C_storey_11 ⟨Nat.le_of_ble_eq_true rfl, Nat.le_of_ble_eq_true rfl⟩) (fun ce q9 H1 locs1 hz hkp hlo hce hcv hcl => ?_)
    exact vx_out (fun x h => (hexc x h).elim) hlocks hce hcv hcl (fun t ht hal => ⟨Or.inl ⟨ek, rfl⟩, by rw [ht]; exact hz, fun q hq _ => by rw [ht]; exact hkp q hq⟩) (fun z hz9 => by cases hlo z hz9) (Nat.le_of_ble_eq_true rfl) (Nat.le_of_ble_eq_true rfl)
set_option maxRecDepth 100000 in
set_option maxHeartbeats 4000000 in
theorem c_C_level (hlt : l.stackTraces = false) (hP : va_P (dC, dI) classes (wC aa cI cZ kn vv) H) (hdD : dD noT aa 22) (hI : okC kn nn) (x y : Int32) : vx_Met l y_C_level (wB y_C_level b_C_level 3 none) ({ frames := 7, cells := 1, slots := 6, locals := 112 } : Room) (rP [.ref (aa 0), .int x, .int y] H (kT dC dI cI cZ cJ (aN aa 22))) (qT (kAct (haB (kn 0) x && lvB kn vv x.toNatClampNeg y) (true) (nn 4)) none (aN aa 22) (fun H1 => va_P (dC, dI) classes (wC aa cI cZ (pfK kn vv (nn 4) 3 x y 0) (pfV vv (nn 4) 3 x y 0)) H1)) (xT (kAct (haB (kn 0) x && lvB kn vv x.toNatClampNeg y) (true) (nn 4))) 1 6 (aN aa 22) := by
  refine vx_ofW (cc := b_C_level) (maxL := 3) (ret := none) (by decide) rfl ?_
  intro p e s m args below meth c s₁ B hml hexc hv
  obtain ⟨rfl, rfl, hK, hT⟩ := hv
  have hx := B.exec
  have hb := B.bytes
  have hr := B.returns
  have hts0 := atoms_spec (ws := (wB y_C_level b_C_level 3 none)) B.pre
  have hts : ∀ w9 ∈ BG, w9.before [.ref (aa 0), .int x, .int y].toArray s = true := fun w9 hw9 => hts0 w9 (List.mem_cons_of_mem _ hw9)
  have hown : s.vm.findClass R_C = some m.cls := findClass_of_methodNamed B.named
  have hlocks := B.notSynchronized
  have hK : va_K (dC, dI) classes [(cI, .int), (cZ, .boolean), (cJ, .long)] s := hK
  have hD : va_D (aN aa 22) (wC aa cI cZ kn vv) := wC_D (dD_aN hdD)
  have hS : va_S (aN aa 22) s.heap s.heap [] := va_S.rf
  have hl := lv_entry ([.ref (aa 0), .int x, .int y]) (n := 3) (Nat.le_of_ble_eq_true rfl)
  rw [lg_entry_eq]
  generalize (lg_sl ([.ref (aa 0), .int x, .int y]) ++ List.replicate (3 - (lg_sl ([.ref (aa 0), .int x, .int y])).length) Slot.unset).toArray = ls at hl ⊢
  have hl : lv_has ls 3 [(0, .ref (aa 0)), (1, .int x), (2, .int y)] := hl
  obtain ⟨eK, b0, b1, b2, b3, b4, b5⟩ := id hI
  refine lv_aload_n hx hb d_C_level_0 rfl (lv_at hl 0 rfl) ?_
  refine lv_iload_n hx hb d_C_level_1 rfl (lv_at hl 1 rfl) ?_
  by_cases h_2 : haB (kn 0) x = true
  · refine cV (W.runV (As := [.int x]) (rest := []) ⟨hx, hb, hml, hown, hts⟩ (c_C_checkStorey_ok hP  x h_2) (cwV 1 hts (wB_goodV (fun _ h => h) ml_C_70 im_C_checkStorey se_C_checkStorey ini_C co_C_checkStorey) rfl rfl rfl (by decide +kernel) ⟨Nat.le_of_ble_eq_true rfl, Nat.le_of_ble_eq_true rfl⟩) (pV hK hP (ci := 0) (q0 := 0) rfl rfl _) rfl rfl hl.1 rfl (lv_room (Nat.le_of_ble_eq_true rfl)) d_C_level_2 ⟨Nat.le_of_ble_eq_true rfl, Nat.le_of_ble_eq_true rfl⟩) ?_
    obtain ⟨j, hj, ej⟩ := (haB_n (eK 0 (by decide)) (by omega) h_2)
    rw [ej] at hl
    have ec : x.toNatClampNeg = j := by rw [ej]; exact nI_clamp (by omega)
    refine lv_aload_n hx hb d_C_level_5 rfl (lv_at hl 0 rfl) ?_
    refine lv_iload_n hx hb d_C_level_6 rfl (lv_at hl 1 rfl) ?_
    refine lv_iload_n hx hb d_C_level_7 rfl (lv_at hl 2 rfl) ?_
    by_cases h_8 : lvB kn vv j y = true
    · refine cV (W.runV (As := [.int (nI j), .int y]) (rest := []) ⟨hx, hb, hml, hown, hts⟩ (c_C_checkLevel_ok hP hI (Nat.le_of_lt hj) y h_8) (cwV 2 hts (wB_goodV (fun _ h => h) ml_C_48 im_C_checkLevel se_C_checkLevel ini_C co_C_checkLevel) rfl rfl rfl (by decide +kernel) ⟨Nat.le_of_ble_eq_true rfl, Nat.le_of_ble_eq_true rfl⟩) (pV hK hP (ci := 0) (q0 := 0) rfl rfl _) rfl rfl hl.1 rfl (lv_room (Nat.le_of_ble_eq_true rfl)) d_C_level_8 ⟨Nat.le_of_ble_eq_true rfl, Nat.le_of_ble_eq_true rfl⟩) ?_
      refine lv_aload_n hx hb d_C_level_11 rfl (lv_at hl 0 rfl) ?_
      by_cases h_12 : decide ((nn 4) < 200) = true
      · refine cV (W.runV (As := []) (rest := []) ⟨hx, hb, hml, hown, hts⟩ (c_C_checkRoomForAct_ok hP (eK 4 (by decide)) (show nn 4 < 2 ^ 31 by omega)  h_12) (cwV 0 hts (wB_goodV (fun _ h => h) ml_C_59 im_C_checkRoomForAct se_C_checkRoomForAct ini_C co_C_checkRoomForAct) rfl rfl rfl (by decide +kernel) ⟨Nat.le_of_ble_eq_true rfl, Nat.le_of_ble_eq_true rfl⟩) (pV hK hP (ci := 0) (q0 := 0) rfl rfl _) rfl rfl hl.1 rfl (lv_room (Nat.le_of_ble_eq_true rfl)) d_C_level_12 ⟨Nat.le_of_ble_eq_true rfl, Nat.le_of_ble_eq_true rfl⟩) ?_
        have hd4 : nn 4 < 200 := by simpa using h_12
        have hroom : ¬ 200 ≤ nn 4 := by omega
        refine lv_aload_n hx hb d_C_level_15 rfl (lv_at hl 0 rfl) ?_
        refine lv_iconst (v := 3) hx hb d_C_level_16 (by decide) ?_
        refine lv_iload_n hx hb d_C_level_17 rfl (lv_at hl 1 rfl) ?_
        refine lv_iload_n hx hb d_C_level_18 rfl (lv_at hl 2 rfl) ?_
        refine lv_iconst (v := 0) hx hb d_C_level_19 (by decide) ?_
        refine cW (W.runV (As := [.int 3, .int (nI j), .int y, .int 0]) (rest := []) ⟨hx, hb, hml, hown, hts⟩ (c_C_perform hP hdD (d := nn 4) (eK 4 (by decide)) hd4 _ _ _ _ (okA_1 (Or.inl ⟨rfl, by omega⟩))) (cwV 4 hts (wB_goodV (fun _ h => h) ml_C_66 im_C_perform se_C_perform ini_C co_C_perform) rfl rfl rfl (by decide +kernel) ⟨Nat.le_of_ble_eq_true rfl, Nat.le_of_ble_eq_true rfl⟩) (pV hK hP (ci := 0) (q0 := 0) rfl rfl _) rfl rfl hl.1 rfl (lv_room (Nat.le_of_ble_eq_true rfl)) d_C_level_20 ⟨Nat.zero_le _, Nat.zero_le _⟩) hS (fun _ h => h) (fun H locs hP hS _ _ => ?_)
        have hP : va_P (dC, dI) classes (wC aa cI cZ (pfK kn vv (nn 4) 3 (nI j) y 0) (pfV vv (nn 4) 3 (nI j) y 0)) H := hP
        have hD : va_D (aN aa 22) (wC aa cI cZ (pfK kn vv (nn 4) 3 (nI j) y 0) (pfV vv (nn 4) 3 (nI j) y 0)) := wC_D (dD_aN hdD)
        have ek : (kAct (haB (kn 0) x && lvB kn vv x.toNatClampNeg y) (true) (nn 4)) = 0 := by rw [ec]; simp [kAct, h_2, h_8, h_12, hroom]
        have er : (none : Option Value) = none := by rfl
        have hPe : va_P (dC, dI) classes (wC aa cI cZ (pfK kn vv (nn 4) 3 x y 0) (pfV vv (nn 4) 3 x y 0)) H := by rw [ej]; exact hP
        refine vx_ret ?_
        refine W.widen (k := 1) (n := 6) (Nat.zero_le _) (Nat.zero_le _) ?_
        exact W.vret hx hb hr (fun t ht hW => ⟨ek, by rw [er], by rw [ht]; exact hPe, hS.F ht⟩) hS.2.2 d_C_level_23
      · have h_12 : decide ((nn 4) < 200) = false := by simpa using h_12
        have ek : (kAct (haB (kn 0) x && lvB kn vv x.toNatClampNeg y) (true) (nn 4)) = 2 := by rw [ec]; simp [kAct, h_2, h_8, h_12]; simpa using h_12
        refine cX (vx_runV (As := []) (rest := []) ⟨hx, hb, hml, hown, hts⟩ (c_C_checkRoomForAct_no hlt hP (eK 4 (by decide)) (show nn 4 < 2 ^ 31 by omega)  h_12) (cwV 0 hts (wB_goodV (fun _ h => h) ml_C_59 im_C_checkRoomForAct se_C_checkRoomForAct ini_C co_C_checkRoomForAct) rfl rfl rfl (by decide +kernel) ⟨Nat.le_of_ble_eq_true rfl, Nat.le_of_ble_eq_true rfl⟩) (pVT hK hT hS hP (ci := 0) (q0 := 0) rfl rfl _) rfl rfl hl.1 rfl (lv_room (Nat.le_of_ble_eq_true rfl)) d_C_level_12 ⟨Nat.le_of_ble_eq_true rfl, Nat.le_of_ble_eq_true rfl⟩) (fun ce q9 H1 locs1 hz hkp hlo hce hcv hcl => ?_)
        exact vx_out (fun x h => (hexc x h).elim) hlocks hce hcv hcl (fun t ht hal => ⟨Or.inr ⟨ek, rfl⟩, by rw [ht]; exact hz, fun q hq _ => by rw [ht]; exact hkp q hq⟩) (fun z hz9 => by cases hlo z hz9) (Nat.le_of_ble_eq_true rfl) (Nat.le_of_ble_eq_true rfl)
    · have h_8 : lvB kn vv j y = false := by simpa using h_8
      have ek : (kAct (haB (kn 0) x && lvB kn vv x.toNatClampNeg y) (true) (nn 4)) = 1 := by rw [ec]; simp [kAct, h_2, h_8]
      refine cX (vx_runV (As := [.int (nI j), .int y]) (rest := []) ⟨hx, hb, hml, hown, hts⟩ (c_C_checkLevel_no hlt hP hI (Nat.le_of_lt hj) y h_8) (cwV 2 hts (wB_goodV (fun _ h => h) ml_C_48 im_C_checkLevel se_C_checkLevel ini_C co_C_checkLevel) rfl rfl rfl (by decide +kernel) ⟨Nat.le_of_ble_eq_true rfl, Nat.le_of_ble_eq_true rfl⟩) (pVT hK hT hS hP (ci := 0) (q0 := 0) rfl rfl _) rfl rfl hl.1 rfl (lv_room (Nat.le_of_ble_eq_true rfl)) d_C_level_8 ⟨Nat.le_of_ble_eq_true rfl, Nat.le_of_ble_eq_true rfl⟩) (fun ce q9 H1 locs1 hz hkp hlo hce hcv hcl => ?_)
      exact vx_out (fun x h => (hexc x h).elim) hlocks hce hcv hcl (fun t ht hal => ⟨Or.inl ⟨ek, rfl⟩, by rw [ht]; exact hz, fun q hq _ => by rw [ht]; exact hkp q hq⟩) (fun z hz9 => by cases hlo z hz9) (Nat.le_of_ble_eq_true rfl) (Nat.le_of_ble_eq_true rfl)
  · have h_2 : haB (kn 0) x = false := by simpa using h_2
    have ek : (kAct (haB (kn 0) x && lvB kn vv x.toNatClampNeg y) (true) (nn 4)) = 1 := by simp [kAct, h_2]
    refine cX (vx_runV (As := [.int x]) (rest := []) ⟨hx, hb, hml, hown, hts⟩ (c_C_checkStorey_no hlt hP  x h_2) (cwV 1 hts (wB_goodV (fun _ h => h) ml_C_70 im_C_checkStorey se_C_checkStorey ini_C co_C_checkStorey) rfl rfl rfl (by decide +kernel) ⟨Nat.le_of_ble_eq_true rfl, Nat.le_of_ble_eq_true rfl⟩) (pVT hK hT hS hP (ci := 0) (q0 := 0) rfl rfl _) rfl rfl hl.1 rfl (lv_room (Nat.le_of_ble_eq_true rfl)) d_C_level_2 ⟨Nat.le_of_ble_eq_true rfl, Nat.le_of_ble_eq_true rfl⟩) (fun ce q9 H1 locs1 hz hkp hlo hce hcv hcl => ?_)
    exact vx_out (fun x h => (hexc x h).elim) hlocks hce hcv hcl (fun t ht hal => ⟨Or.inl ⟨ek, rfl⟩, by rw [ht]; exact hz, fun q hq _ => by rw [ht]; exact hkp q hq⟩) (fun z hz9 => by cases hlo z hz9) (Nat.le_of_ble_eq_true rfl) (Nat.le_of_ble_eq_true rfl)
set_option maxRecDepth 100000 in
set_option maxHeartbeats 4000000 in
theorem c_C_type (hlt : l.stackTraces = false) (hP : va_P (dC, dI) classes (wC aa cI cZ kn vv) H) (hdD : dD noT aa 22) (hI : okC kn nn) (x : Int32) : vx_Met l y_C_type (wB y_C_type b_C_type 3 (some .int)) ({ frames := 7, cells := 1, slots := 6, locals := 110 } : Room) (rP [.ref (aa 0), .int x] H (kT dC dI cI cZ cJ (aN aa 22))) (qT (kAct (thB x) (decide (nn 1 < 8)) (nn 4)) (some (.int (nI (nn 1)))) (aN aa 22) (fun H1 => va_P (dC, dI) classes (wC aa cI cZ (pfK kn (u1 vv 1 (nn 1) x) (nn 4) 1 (nI (nn 1)) 0 0) (pfV (u1 vv 1 (nn 1) x) (nn 4) 1 (nI (nn 1)) 0 0)) H1)) (xT (kAct (thB x) (decide (nn 1 < 8)) (nn 4))) 1 6 (aN aa 22) := by
  refine vx_ofW (cc := b_C_type) (maxL := 3) (ret := (some .int)) (by decide) rfl ?_
  intro p e s m args below meth c s₁ B hml hexc hv
  obtain ⟨rfl, rfl, hK, hT⟩ := hv
  have hx := B.exec
  have hb := B.bytes
  have hr := B.returns
  have hts0 := atoms_spec (ws := (wB y_C_type b_C_type 3 (some .int))) B.pre
  have hts : ∀ w9 ∈ BG, w9.before [.ref (aa 0), .int x].toArray s = true := fun w9 hw9 => hts0 w9 (List.mem_cons_of_mem _ hw9)
  have hown : s.vm.findClass R_C = some m.cls := findClass_of_methodNamed B.named
  have hlocks := B.notSynchronized
  have hK : va_K (dC, dI) classes [(cI, .int), (cZ, .boolean), (cJ, .long)] s := hK
  have hD : va_D (aN aa 22) (wC aa cI cZ kn vv) := wC_D (dD_aN hdD)
  have hS : va_S (aN aa 22) s.heap s.heap [] := va_S.rf
  have hl := lv_entry ([.ref (aa 0), .int x]) (n := 3) (Nat.le_of_ble_eq_true rfl)
  rw [lg_entry_eq]
  generalize (lg_sl ([.ref (aa 0), .int x]) ++ List.replicate (3 - (lg_sl ([.ref (aa 0), .int x])).length) Slot.unset).toArray = ls at hl ⊢
  have hl : lv_has ls 3 [(0, .ref (aa 0)), (1, .int x)] := hl
  obtain ⟨eK, b0, b1, b2, b3, b4, b5⟩ := id hI
  refine lv_aload_n hx hb d_C_type_0 rfl (lv_at hl 0 rfl) ?_
  refine va_get (D := (dC, dI)) (ci := 0) (v := .ref (aa 2)) (C := R_C) (T := F_C) (N := 5) hx hb hts i_C hown hK hP 0 rfl rfl 1 (by decide) (hts _ fl_C_19) (fun _ h9 => h9) rfl d_C_type_1 ?_
  refine va_get (D := (dC, dI)) (ci := 4) (v := .int (nI (nn 1))) (C := R_T) (T := F_T) (N := 2) hx hb hts i_T hown hK hP 2 rfl rfl 1 (by decide) (hts _ fl_C_74) (fun _ h9 => h9) (by rw [← (eK 1 (by decide))]; rfl) d_C_type_4 ?_
  refine lv_istore_n (lv' := [(2, .int (nI (nn 1))), (0, .ref (aa 0)), (1, .int x)]) hx hb d_C_type_7 rfl hl (by decide) rfl (fun ls hl => ?_)
  refine lv_iload_n hx hb d_C_type_8 rfl (lv_at hl 2 rfl) ?_
  by_cases h_9 : thB x = true
  · refine cV (W.runS (As := [.int x]) (rest := []) ⟨hx, hb, hml, hown, hts⟩ (c_C_checkThickness_ok   x h_9) (cwS 1 hts (wB_goodS (fun _ h => h) ml_C_75 st_C_checkThickness ini_C co_C_checkThickness) rfl rfl rfl (by decide +kernel) ⟨Nat.le_of_ble_eq_true rfl, Nat.le_of_ble_eq_true rfl⟩) (pS hK _) rfl rfl hl.1 rfl (lv_room (Nat.le_of_ble_eq_true rfl)) d_C_type_9 ⟨Nat.le_of_ble_eq_true rfl, Nat.le_of_ble_eq_true rfl⟩) ?_
    refine lv_iload_n hx hb d_C_type_12 rfl (lv_at hl 0 rfl) ?_
    refine lv_bipush (v := 8) hx hb d_C_type_13 (by decide) ?_
    refine lv_icmp_lt (tgt := 28) hx hb d_C_type_15 (by decide) (fun c_15 => ?_) (fun c_15 => ?_)
    · have hs17 : nn 1 < 8 := (nI_ltI (by omega) (by decide)).mp c_15
      refine lv_aload_n hx hb d_C_type_28 rfl (lv_at hl 1 rfl) ?_
      by_cases h_29 : decide ((nn 4) < 200) = true
      · refine cV (W.runV (As := []) (rest := []) ⟨hx, hb, hml, hown, hts⟩ (c_C_checkRoomForAct_ok hP (eK 4 (by decide)) (show nn 4 < 2 ^ 31 by omega)  h_29) (cwV 0 hts (wB_goodV (fun _ h => h) ml_C_59 im_C_checkRoomForAct se_C_checkRoomForAct ini_C co_C_checkRoomForAct) rfl rfl rfl (by decide +kernel) ⟨Nat.le_of_ble_eq_true rfl, Nat.le_of_ble_eq_true rfl⟩) (pV hK hP (ci := 0) (q0 := 0) rfl rfl _) rfl rfl hl.1 rfl (lv_room (Nat.le_of_ble_eq_true rfl)) d_C_type_29 ⟨Nat.le_of_ble_eq_true rfl, Nat.le_of_ble_eq_true rfl⟩) ?_
        have hd4 : nn 4 < 200 := by simpa using h_29
        have hroom : ¬ 200 ≤ nn 4 := by omega
        refine lv_aload_n hx hb d_C_type_32 rfl (lv_at hl 1 rfl) ?_
        refine va_get (D := (dC, dI)) (ci := 0) (v := .ref (aa 2)) (C := R_C) (T := F_C) (N := 5) hx hb hts i_C hown hK hP 0 rfl rfl 1 (by decide) (hts _ fl_C_19) (fun _ h9 => h9) rfl d_C_type_33 ?_
        refine va_get (D := (dC, dI)) (ci := 4) (v := .ref (aa 7)) (C := R_T) (T := F_T) (N := 2) hx hb hts i_T hown hK hP 2 rfl rfl 0 (by decide) (hts _ fl_C_80) (fun _ h9 => h9) rfl d_C_type_36 ?_
        refine lv_iload_n hx hb d_C_type_39 rfl (lv_at hl 0 rfl) ?_
        refine lv_iload_n hx hb d_C_type_40 rfl (lv_at hl 2 rfl) ?_
        refine va_iast hx hb hK hP hD hS 7 0 rfl rfl (vp_in_nI (by omega) (by omega)) d_C_type_41 (fun H locs hP hD hS => ?_)
        rw [nI_clamp (show (nn 1) < 2 ^ 31 by omega)] at hP hD
        have hP : va_P (dC, dI) classes (wC aa cI cZ kn (va_up vv 1 (upd (vv 1) (nn 1) x))) H := hP
        have hD : va_D (aN aa 22) (wC aa cI cZ kn (va_up vv 1 (upd (vv 1) (nn 1) x))) := hD
        refine lv_aload_n hx hb d_C_type_42 rfl (lv_at hl 1 rfl) ?_
        refine lv_iconst (v := 1) hx hb d_C_type_43 (by decide) ?_
        refine lv_iload_n hx hb d_C_type_44 rfl (lv_at hl 0 rfl) ?_
        refine lv_iconst (v := 0) hx hb d_C_type_45 (by decide) ?_
        refine lv_iconst (v := 0) hx hb d_C_type_46 (by decide) ?_
        refine cW (W.runV (As := [.int 1, .int (nI (nn 1)), .int 0, .int 0]) (rest := []) ⟨hx, hb, hml, hown, hts⟩ (c_C_perform hP hdD (d := nn 4) (eK 4 (by decide)) hd4 _ _ _ _ (okA_0 (Or.inr (Or.inl rfl)))) (cwV 4 hts (wB_goodV (fun _ h => h) ml_C_66 im_C_perform se_C_perform ini_C co_C_perform) rfl rfl rfl (by decide +kernel) ⟨Nat.le_of_ble_eq_true rfl, Nat.le_of_ble_eq_true rfl⟩) (pV hK hP (ci := 0) (q0 := 0) rfl rfl _) rfl rfl hl.1 rfl (lv_room (Nat.le_of_ble_eq_true rfl)) d_C_type_47 ⟨Nat.zero_le _, Nat.zero_le _⟩) hS (fun _ h => h) (fun H locs hP hS _ _ => ?_)
        have hP : va_P (dC, dI) classes (wC aa cI cZ (pfK kn (va_up vv 1 (upd (vv 1) (nn 1) x)) (nn 4) 1 (nI (nn 1)) 0 0) (pfV (va_up vv 1 (upd (vv 1) (nn 1) x)) (nn 4) 1 (nI (nn 1)) 0 0)) H := hP
        have hD : va_D (aN aa 22) (wC aa cI cZ (pfK kn (va_up vv 1 (upd (vv 1) (nn 1) x)) (nn 4) 1 (nI (nn 1)) 0 0) (pfV (va_up vv 1 (upd (vv 1) (nn 1) x)) (nn 4) 1 (nI (nn 1)) 0 0)) := wC_D (dD_aN hdD)
        refine lv_iload_n hx hb d_C_type_50 rfl (lv_at hl 0 rfl) ?_
        have ek : (kAct (thB x) (decide (nn 1 < 8)) (nn 4)) = 0 := by simp [kAct, h_9, h_29, hs17, hroom]
        have er : ((some (.int (nI (nn 1)))) : Option Value) = some (.int (nI (nn 1))) := by rfl
        have hPe : va_P (dC, dI) classes (wC aa cI cZ (pfK kn (u1 vv 1 (nn 1) x) (nn 4) 1 (nI (nn 1)) 0 0) (pfV (u1 vv 1 (nn 1) x) (nn 4) 1 (nI (nn 1)) 0 0)) H := by exact hP
        refine vx_ret ?_
        refine W.widen (k := 1) (n := 6) (Nat.zero_le _) (Nat.zero_le _) ?_
        exact W.iret (v := (nI (nn 1))) hx hb hr (fun t ht hW => ⟨ek, by rw [er], by rw [ht]; exact hPe, hS.F ht⟩) hS.2.2 d_C_type_51
      · have h_29 : decide ((nn 4) < 200) = false := by simpa using h_29
        have ek : (kAct (thB x) (decide (nn 1 < 8)) (nn 4)) = 2 := by simp [kAct, h_9, h_29, hs17]; simpa using h_29
        refine cX (vx_runV (As := []) (rest := []) ⟨hx, hb, hml, hown, hts⟩ (c_C_checkRoomForAct_no hlt hP (eK 4 (by decide)) (show nn 4 < 2 ^ 31 by omega)  h_29) (cwV 0 hts (wB_goodV (fun _ h => h) ml_C_59 im_C_checkRoomForAct se_C_checkRoomForAct ini_C co_C_checkRoomForAct) rfl rfl rfl (by decide +kernel) ⟨Nat.le_of_ble_eq_true rfl, Nat.le_of_ble_eq_true rfl⟩) (pVT hK hT hS hP (ci := 0) (q0 := 0) rfl rfl _) rfl rfl hl.1 rfl (lv_room (Nat.le_of_ble_eq_true rfl)) d_C_type_29 ⟨Nat.le_of_ble_eq_true rfl, Nat.le_of_ble_eq_true rfl⟩) (fun ce q9 H1 locs1 hz hkp hlo hce hcv hcl => ?_)
        exact vx_out (fun x h => (hexc x h).elim) hlocks hce hcv hcl (fun t ht hal => ⟨Or.inr ⟨ek, rfl⟩, by rw [ht]; exact hz, fun q hq _ => by rw [ht]; exact hkp q hq⟩) (fun z hz9 => by cases hlo z hz9) (Nat.le_of_ble_eq_true rfl) (Nat.le_of_ble_eq_true rfl)
    · have hs17 : ¬ nn 1 < 8 := fun h => c_15 ((nI_ltI (by omega) (by decide)).mpr h)
      have ek : (kAct (thB x) (decide (nn 1 < 8)) (nn 4)) = 2 := by simp [kAct, h_9, hs17]
      exact thIS hx hb hlt hown hts hT hS (hl.1.trans hml.symm) (is := 78) (List.mem_of_getElem? (i := 6) rfl) d_C_type_18 d_C_type_21 d_C_type_22 d_C_type_24 d_C_type_27 hexc (Nat.le_of_ble_eq_true rfl) (Nat.le_of_ble_eq_true rfl) (Nat.le_of_ble_eq_true rfl) (Nat.le_of_ble_eq_true rfl) hlocks (fun t hal hz hkp => ⟨Or.inr ⟨ek, rfl⟩, hz, fun q hq _ => hkp q hq⟩) (fun z hz => by cases hz) (Nat.le_of_ble_eq_true rfl) (Nat.le_of_ble_eq_true rfl)
  · have h_9 : thB x = false := by simpa using h_9
    have ek : (kAct (thB x) (decide (nn 1 < 8)) (nn 4)) = 1 := by simp [kAct, h_9]
    refine cX (vx_runS (As := [.int x]) (rest := []) ⟨hx, hb, hml, hown, hts⟩ (c_C_checkThickness_no hlt   x h_9) (cwS 1 hts (wB_goodS (fun _ h => h) ml_C_75 st_C_checkThickness ini_C co_C_checkThickness) rfl rfl rfl (by decide +kernel) ⟨Nat.le_of_ble_eq_true rfl, Nat.le_of_ble_eq_true rfl⟩) (pST hK hT hS _) rfl rfl hl.1 rfl (lv_room (Nat.le_of_ble_eq_true rfl)) d_C_type_9 ⟨Nat.le_of_ble_eq_true rfl, Nat.le_of_ble_eq_true rfl⟩) (fun ce q9 H1 locs1 hz hkp hlo hce hcv hcl => ?_)
    exact vx_out (fun x h => (hexc x h).elim) hlocks hce hcv hcl (fun t ht hal => ⟨Or.inl ⟨ek, rfl⟩, by rw [ht]; exact hz, fun q hq _ => by rw [ht]; exact hkp q hq⟩) (fun z hz9 => by cases hlo z hz9) (Nat.le_of_ble_eq_true rfl) (Nat.le_of_ble_eq_true rfl)
set_option maxRecDepth 100000 in
set_option maxHeartbeats 4000000 in
theorem c_C_thickness (hlt : l.stackTraces = false) (hP : va_P (dC, dI) classes (wC aa cI cZ kn vv) H) (hdD : dD noT aa 22) (hI : okC kn nn) (x y : Int32) : vx_Met l y_C_thickness (wB y_C_thickness b_C_thickness 3 none) ({ frames := 7, cells := 1, slots := 6, locals := 111 } : Room) (rP [.ref (aa 0), .int x, .int y] H (kT dC dI cI cZ cJ (aN aa 22))) (qT (kAct (haB (kn 1) x && thB y) (true) (nn 4)) none (aN aa 22) (fun H1 => va_P (dC, dI) classes (wC aa cI cZ (pfK kn vv (nn 4) 4 x y 0) (pfV vv (nn 4) 4 x y 0)) H1)) (xT (kAct (haB (kn 1) x && thB y) (true) (nn 4))) 1 6 (aN aa 22) := by
  refine vx_ofW (cc := b_C_thickness) (maxL := 3) (ret := none) (by decide) rfl ?_
  intro p e s m args below meth c s₁ B hml hexc hv
  obtain ⟨rfl, rfl, hK, hT⟩ := hv
  have hx := B.exec
  have hb := B.bytes
  have hr := B.returns
  have hts0 := atoms_spec (ws := (wB y_C_thickness b_C_thickness 3 none)) B.pre
  have hts : ∀ w9 ∈ BG, w9.before [.ref (aa 0), .int x, .int y].toArray s = true := fun w9 hw9 => hts0 w9 (List.mem_cons_of_mem _ hw9)
  have hown : s.vm.findClass R_C = some m.cls := findClass_of_methodNamed B.named
  have hlocks := B.notSynchronized
  have hK : va_K (dC, dI) classes [(cI, .int), (cZ, .boolean), (cJ, .long)] s := hK
  have hD : va_D (aN aa 22) (wC aa cI cZ kn vv) := wC_D (dD_aN hdD)
  have hS : va_S (aN aa 22) s.heap s.heap [] := va_S.rf
  have hl := lv_entry ([.ref (aa 0), .int x, .int y]) (n := 3) (Nat.le_of_ble_eq_true rfl)
  rw [lg_entry_eq]
  generalize (lg_sl ([.ref (aa 0), .int x, .int y]) ++ List.replicate (3 - (lg_sl ([.ref (aa 0), .int x, .int y])).length) Slot.unset).toArray = ls at hl ⊢
  have hl : lv_has ls 3 [(0, .ref (aa 0)), (1, .int x), (2, .int y)] := hl
  obtain ⟨eK, b0, b1, b2, b3, b4, b5⟩ := id hI
  refine lv_aload_n hx hb d_C_thickness_0 rfl (lv_at hl 0 rfl) ?_
  refine lv_iload_n hx hb d_C_thickness_1 rfl (lv_at hl 1 rfl) ?_
  by_cases h_2 : haB (kn 1) x = true
  · refine cV (W.runV (As := [.int x]) (rest := []) ⟨hx, hb, hml, hown, hts⟩ (c_C_checkType_ok hP  x h_2) (cwV 1 hts (wB_goodV (fun _ h => h) ml_C_83 im_C_checkType se_C_checkType ini_C co_C_checkType) rfl rfl rfl (by decide +kernel) ⟨Nat.le_of_ble_eq_true rfl, Nat.le_of_ble_eq_true rfl⟩) (pV hK hP (ci := 0) (q0 := 0) rfl rfl _) rfl rfl hl.1 rfl (lv_room (Nat.le_of_ble_eq_true rfl)) d_C_thickness_2 ⟨Nat.le_of_ble_eq_true rfl, Nat.le_of_ble_eq_true rfl⟩) ?_
    obtain ⟨j, hj, ej⟩ := (haB_n (eK 1 (by decide)) (by omega) h_2)
    rw [ej] at hl
    refine lv_iload_n hx hb d_C_thickness_5 rfl (lv_at hl 2 rfl) ?_
    by_cases h_6 : thB y = true
    · refine cV (W.runS (As := [.int y]) (rest := []) ⟨hx, hb, hml, hown, hts⟩ (c_C_checkThickness_ok   y h_6) (cwS 1 hts (wB_goodS (fun _ h => h) ml_C_75 st_C_checkThickness ini_C co_C_checkThickness) rfl rfl rfl (by decide +kernel) ⟨Nat.le_of_ble_eq_true rfl, Nat.le_of_ble_eq_true rfl⟩) (pS hK _) rfl rfl hl.1 rfl (lv_room (Nat.le_of_ble_eq_true rfl)) d_C_thickness_6 ⟨Nat.le_of_ble_eq_true rfl, Nat.le_of_ble_eq_true rfl⟩) ?_
      refine lv_aload_n hx hb d_C_thickness_9 rfl (lv_at hl 0 rfl) ?_
      by_cases h_10 : decide ((nn 4) < 200) = true
      · refine cV (W.runV (As := []) (rest := []) ⟨hx, hb, hml, hown, hts⟩ (c_C_checkRoomForAct_ok hP (eK 4 (by decide)) (show nn 4 < 2 ^ 31 by omega)  h_10) (cwV 0 hts (wB_goodV (fun _ h => h) ml_C_59 im_C_checkRoomForAct se_C_checkRoomForAct ini_C co_C_checkRoomForAct) rfl rfl rfl (by decide +kernel) ⟨Nat.le_of_ble_eq_true rfl, Nat.le_of_ble_eq_true rfl⟩) (pV hK hP (ci := 0) (q0 := 0) rfl rfl _) rfl rfl hl.1 rfl (lv_room (Nat.le_of_ble_eq_true rfl)) d_C_thickness_10 ⟨Nat.le_of_ble_eq_true rfl, Nat.le_of_ble_eq_true rfl⟩) ?_
        have hd4 : nn 4 < 200 := by simpa using h_10
        have hroom : ¬ 200 ≤ nn 4 := by omega
        refine lv_aload_n hx hb d_C_thickness_13 rfl (lv_at hl 0 rfl) ?_
        refine lv_iconst (v := 4) hx hb d_C_thickness_14 (by decide) ?_
        refine lv_iload_n hx hb d_C_thickness_15 rfl (lv_at hl 1 rfl) ?_
        refine lv_iload_n hx hb d_C_thickness_16 rfl (lv_at hl 2 rfl) ?_
        refine lv_iconst (v := 0) hx hb d_C_thickness_17 (by decide) ?_
        refine cW (W.runV (As := [.int 4, .int (nI j), .int y, .int 0]) (rest := []) ⟨hx, hb, hml, hown, hts⟩ (c_C_perform hP hdD (d := nn 4) (eK 4 (by decide)) hd4 _ _ _ _ (okA_1 (Or.inr (Or.inl ⟨rfl, by omega⟩)))) (cwV 4 hts (wB_goodV (fun _ h => h) ml_C_66 im_C_perform se_C_perform ini_C co_C_perform) rfl rfl rfl (by decide +kernel) ⟨Nat.le_of_ble_eq_true rfl, Nat.le_of_ble_eq_true rfl⟩) (pV hK hP (ci := 0) (q0 := 0) rfl rfl _) rfl rfl hl.1 rfl (lv_room (Nat.le_of_ble_eq_true rfl)) d_C_thickness_18 ⟨Nat.zero_le _, Nat.zero_le _⟩) hS (fun _ h => h) (fun H locs hP hS _ _ => ?_)
        have hP : va_P (dC, dI) classes (wC aa cI cZ (pfK kn vv (nn 4) 4 (nI j) y 0) (pfV vv (nn 4) 4 (nI j) y 0)) H := hP
        have hD : va_D (aN aa 22) (wC aa cI cZ (pfK kn vv (nn 4) 4 (nI j) y 0) (pfV vv (nn 4) 4 (nI j) y 0)) := wC_D (dD_aN hdD)
        have ek : (kAct (haB (kn 1) x && thB y) (true) (nn 4)) = 0 := by simp [kAct, h_2, h_6, h_10, hroom]
        have er : (none : Option Value) = none := by rfl
        have hPe : va_P (dC, dI) classes (wC aa cI cZ (pfK kn vv (nn 4) 4 x y 0) (pfV vv (nn 4) 4 x y 0)) H := by rw [ej]; exact hP
        refine vx_ret ?_
        refine W.widen (k := 1) (n := 6) (Nat.zero_le _) (Nat.zero_le _) ?_
        exact W.vret hx hb hr (fun t ht hW => ⟨ek, by rw [er], by rw [ht]; exact hPe, hS.F ht⟩) hS.2.2 d_C_thickness_21
      · have h_10 : decide ((nn 4) < 200) = false := by simpa using h_10
        have ek : (kAct (haB (kn 1) x && thB y) (true) (nn 4)) = 2 := by simp [kAct, h_2, h_6, h_10]; simpa using h_10
        refine cX (vx_runV (As := []) (rest := []) ⟨hx, hb, hml, hown, hts⟩ (c_C_checkRoomForAct_no hlt hP (eK 4 (by decide)) (show nn 4 < 2 ^ 31 by omega)  h_10) (cwV 0 hts (wB_goodV (fun _ h => h) ml_C_59 im_C_checkRoomForAct se_C_checkRoomForAct ini_C co_C_checkRoomForAct) rfl rfl rfl (by decide +kernel) ⟨Nat.le_of_ble_eq_true rfl, Nat.le_of_ble_eq_true rfl⟩) (pVT hK hT hS hP (ci := 0) (q0 := 0) rfl rfl _) rfl rfl hl.1 rfl (lv_room (Nat.le_of_ble_eq_true rfl)) d_C_thickness_10 ⟨Nat.le_of_ble_eq_true rfl, Nat.le_of_ble_eq_true rfl⟩) (fun ce q9 H1 locs1 hz hkp hlo hce hcv hcl => ?_)
        exact vx_out (fun x h => (hexc x h).elim) hlocks hce hcv hcl (fun t ht hal => ⟨Or.inr ⟨ek, rfl⟩, by rw [ht]; exact hz, fun q hq _ => by rw [ht]; exact hkp q hq⟩) (fun z hz9 => by cases hlo z hz9) (Nat.le_of_ble_eq_true rfl) (Nat.le_of_ble_eq_true rfl)
    · have h_6 : thB y = false := by simpa using h_6
      have ek : (kAct (haB (kn 1) x && thB y) (true) (nn 4)) = 1 := by simp [kAct, h_2, h_6]
      refine cX (vx_runS (As := [.int y]) (rest := []) ⟨hx, hb, hml, hown, hts⟩ (c_C_checkThickness_no hlt   y h_6) (cwS 1 hts (wB_goodS (fun _ h => h) ml_C_75 st_C_checkThickness ini_C co_C_checkThickness) rfl rfl rfl (by decide +kernel) ⟨Nat.le_of_ble_eq_true rfl, Nat.le_of_ble_eq_true rfl⟩) (pST hK hT hS _) rfl rfl hl.1 rfl (lv_room (Nat.le_of_ble_eq_true rfl)) d_C_thickness_6 ⟨Nat.le_of_ble_eq_true rfl, Nat.le_of_ble_eq_true rfl⟩) (fun ce q9 H1 locs1 hz hkp hlo hce hcv hcl => ?_)
      exact vx_out (fun x h => (hexc x h).elim) hlocks hce hcv hcl (fun t ht hal => ⟨Or.inl ⟨ek, rfl⟩, by rw [ht]; exact hz, fun q hq _ => by rw [ht]; exact hkp q hq⟩) (fun z hz9 => by cases hlo z hz9) (Nat.le_of_ble_eq_true rfl) (Nat.le_of_ble_eq_true rfl)
  · have h_2 : haB (kn 1) x = false := by simpa using h_2
    have ek : (kAct (haB (kn 1) x && thB y) (true) (nn 4)) = 1 := by simp [kAct, h_2]
    refine cX (vx_runV (As := [.int x]) (rest := []) ⟨hx, hb, hml, hown, hts⟩ (c_C_checkType_no hlt hP  x h_2) (cwV 1 hts (wB_goodV (fun _ h => h) ml_C_83 im_C_checkType se_C_checkType ini_C co_C_checkType) rfl rfl rfl (by decide +kernel) ⟨Nat.le_of_ble_eq_true rfl, Nat.le_of_ble_eq_true rfl⟩) (pVT hK hT hS hP (ci := 0) (q0 := 0) rfl rfl _) rfl rfl hl.1 rfl (lv_room (Nat.le_of_ble_eq_true rfl)) d_C_thickness_2 ⟨Nat.le_of_ble_eq_true rfl, Nat.le_of_ble_eq_true rfl⟩) (fun ce q9 H1 locs1 hz hkp hlo hce hcv hcl => ?_)
    exact vx_out (fun x h => (hexc x h).elim) hlocks hce hcv hcl (fun t ht hal => ⟨Or.inl ⟨ek, rfl⟩, by rw [ht]; exact hz, fun q hq _ => by rw [ht]; exact hkp q hq⟩) (fun z hz9 => by cases hlo z hz9) (Nat.le_of_ble_eq_true rfl) (Nat.le_of_ble_eq_true rfl)
set_option maxRecDepth 100000 in
set_option maxHeartbeats 4000000 in
theorem c_C_retype (hlt : l.stackTraces = false) (hP : va_P (dC, dI) classes (wC aa cI cZ kn vv) H) (hdD : dD noT aa 22) (hI : okC kn nn) (x y : Int32) : vx_Met l y_C_retype (wB y_C_retype b_C_retype 3 none) ({ frames := 7, cells := 1, slots := 6, locals := 111 } : Room) (rP [.ref (aa 0), .int x, .int y] H (kT dC dI cI cZ cJ (aN aa 22))) (qT (kAct (tW kn vv x && haB (kn 1) y) (true) (nn 4)) none (aN aa 22) (fun H1 => va_P (dC, dI) classes (wC aa cI cZ (pfK kn vv (nn 4) 5 x y 0) (pfV vv (nn 4) 5 x y 0)) H1)) (xT (kAct (tW kn vv x && haB (kn 1) y) (true) (nn 4))) 1 6 (aN aa 22) := by
  refine vx_ofW (cc := b_C_retype) (maxL := 3) (ret := none) (by decide) rfl ?_
  intro p e s m args below meth c s₁ B hml hexc hv
  obtain ⟨rfl, rfl, hK, hT⟩ := hv
  have hx := B.exec
  have hb := B.bytes
  have hr := B.returns
  have hts0 := atoms_spec (ws := (wB y_C_retype b_C_retype 3 none)) B.pre
  have hts : ∀ w9 ∈ BG, w9.before [.ref (aa 0), .int x, .int y].toArray s = true := fun w9 hw9 => hts0 w9 (List.mem_cons_of_mem _ hw9)
  have hown : s.vm.findClass R_C = some m.cls := findClass_of_methodNamed B.named
  have hlocks := B.notSynchronized
  have hK : va_K (dC, dI) classes [(cI, .int), (cZ, .boolean), (cJ, .long)] s := hK
  have hD : va_D (aN aa 22) (wC aa cI cZ kn vv) := wC_D (dD_aN hdD)
  have hS : va_S (aN aa 22) s.heap s.heap [] := va_S.rf
  have hl := lv_entry ([.ref (aa 0), .int x, .int y]) (n := 3) (Nat.le_of_ble_eq_true rfl)
  rw [lg_entry_eq]
  generalize (lg_sl ([.ref (aa 0), .int x, .int y]) ++ List.replicate (3 - (lg_sl ([.ref (aa 0), .int x, .int y])).length) Slot.unset).toArray = ls at hl ⊢
  have hl : lv_has ls 3 [(0, .ref (aa 0)), (1, .int x), (2, .int y)] := hl
  obtain ⟨eK, b0, b1, b2, b3, b4, b5⟩ := id hI
  refine lv_aload_n hx hb d_C_retype_0 rfl (lv_at hl 0 rfl) ?_
  refine lv_iload_n hx hb d_C_retype_1 rfl (lv_at hl 1 rfl) ?_
  by_cases h_2 : tW kn vv x = true
  · refine cV (W.runV (As := [.int x]) (rest := []) ⟨hx, hb, hml, hown, hts⟩ (c_C_checkWall_ok hP hI  x h_2) (cwV 1 hts (wB_goodV (fun _ h => h) ml_C_102 im_C_checkWall se_C_checkWall ini_C co_C_checkWall) rfl rfl rfl (by decide +kernel) ⟨Nat.le_of_ble_eq_true rfl, Nat.le_of_ble_eq_true rfl⟩) (pV hK hP (ci := 0) (q0 := 0) rfl rfl _) rfl rfl hl.1 rfl (lv_room (Nat.le_of_ble_eq_true rfl)) d_C_retype_2 ⟨Nat.le_of_ble_eq_true rfl, Nat.le_of_ble_eq_true rfl⟩) ?_
    obtain ⟨j, hj, ej⟩ := (tW_n hI h_2)
    rw [ej] at hl
    refine lv_aload_n hx hb d_C_retype_5 rfl (lv_at hl 0 rfl) ?_
    refine lv_iload_n hx hb d_C_retype_6 rfl (lv_at hl 2 rfl) ?_
    by_cases h_7 : haB (kn 1) y = true
    · refine cV (W.runV (As := [.int y]) (rest := []) ⟨hx, hb, hml, hown, hts⟩ (c_C_checkType_ok hP  y h_7) (cwV 1 hts (wB_goodV (fun _ h => h) ml_C_83 im_C_checkType se_C_checkType ini_C co_C_checkType) rfl rfl rfl (by decide +kernel) ⟨Nat.le_of_ble_eq_true rfl, Nat.le_of_ble_eq_true rfl⟩) (pV hK hP (ci := 0) (q0 := 0) rfl rfl _) rfl rfl hl.1 rfl (lv_room (Nat.le_of_ble_eq_true rfl)) d_C_retype_7 ⟨Nat.le_of_ble_eq_true rfl, Nat.le_of_ble_eq_true rfl⟩) ?_
      refine lv_aload_n hx hb d_C_retype_10 rfl (lv_at hl 0 rfl) ?_
      by_cases h_11 : decide ((nn 4) < 200) = true
      · refine cV (W.runV (As := []) (rest := []) ⟨hx, hb, hml, hown, hts⟩ (c_C_checkRoomForAct_ok hP (eK 4 (by decide)) (show nn 4 < 2 ^ 31 by omega)  h_11) (cwV 0 hts (wB_goodV (fun _ h => h) ml_C_59 im_C_checkRoomForAct se_C_checkRoomForAct ini_C co_C_checkRoomForAct) rfl rfl rfl (by decide +kernel) ⟨Nat.le_of_ble_eq_true rfl, Nat.le_of_ble_eq_true rfl⟩) (pV hK hP (ci := 0) (q0 := 0) rfl rfl _) rfl rfl hl.1 rfl (lv_room (Nat.le_of_ble_eq_true rfl)) d_C_retype_11 ⟨Nat.le_of_ble_eq_true rfl, Nat.le_of_ble_eq_true rfl⟩) ?_
        have hd4 : nn 4 < 200 := by simpa using h_11
        have hroom : ¬ 200 ≤ nn 4 := by omega
        refine lv_aload_n hx hb d_C_retype_14 rfl (lv_at hl 0 rfl) ?_
        refine lv_iconst (v := 5) hx hb d_C_retype_15 (by decide) ?_
        refine lv_iload_n hx hb d_C_retype_16 rfl (lv_at hl 1 rfl) ?_
        refine lv_iload_n hx hb d_C_retype_17 rfl (lv_at hl 2 rfl) ?_
        refine lv_iconst (v := 0) hx hb d_C_retype_18 (by decide) ?_
        refine cW (W.runV (As := [.int 5, .int (nI j), .int y, .int 0]) (rest := []) ⟨hx, hb, hml, hown, hts⟩ (c_C_perform hP hdD (d := nn 4) (eK 4 (by decide)) hd4 _ _ _ _ (okA_1 (Or.inr (Or.inr (Or.inl ⟨rfl, by omega⟩))))) (cwV 4 hts (wB_goodV (fun _ h => h) ml_C_66 im_C_perform se_C_perform ini_C co_C_perform) rfl rfl rfl (by decide +kernel) ⟨Nat.le_of_ble_eq_true rfl, Nat.le_of_ble_eq_true rfl⟩) (pV hK hP (ci := 0) (q0 := 0) rfl rfl _) rfl rfl hl.1 rfl (lv_room (Nat.le_of_ble_eq_true rfl)) d_C_retype_19 ⟨Nat.zero_le _, Nat.zero_le _⟩) hS (fun _ h => h) (fun H locs hP hS _ _ => ?_)
        have hP : va_P (dC, dI) classes (wC aa cI cZ (pfK kn vv (nn 4) 5 (nI j) y 0) (pfV vv (nn 4) 5 (nI j) y 0)) H := hP
        have hD : va_D (aN aa 22) (wC aa cI cZ (pfK kn vv (nn 4) 5 (nI j) y 0) (pfV vv (nn 4) 5 (nI j) y 0)) := wC_D (dD_aN hdD)
        have ek : (kAct (tW kn vv x && haB (kn 1) y) (true) (nn 4)) = 0 := by simp [kAct, h_2, h_7, h_11, hroom]
        have er : (none : Option Value) = none := by rfl
        have hPe : va_P (dC, dI) classes (wC aa cI cZ (pfK kn vv (nn 4) 5 x y 0) (pfV vv (nn 4) 5 x y 0)) H := by rw [ej]; exact hP
        refine vx_ret ?_
        refine W.widen (k := 1) (n := 6) (Nat.zero_le _) (Nat.zero_le _) ?_
        exact W.vret hx hb hr (fun t ht hW => ⟨ek, by rw [er], by rw [ht]; exact hPe, hS.F ht⟩) hS.2.2 d_C_retype_22
      · have h_11 : decide ((nn 4) < 200) = false := by simpa using h_11
        have ek : (kAct (tW kn vv x && haB (kn 1) y) (true) (nn 4)) = 2 := by simp [kAct, h_2, h_7, h_11]; simpa using h_11
        refine cX (vx_runV (As := []) (rest := []) ⟨hx, hb, hml, hown, hts⟩ (c_C_checkRoomForAct_no hlt hP (eK 4 (by decide)) (show nn 4 < 2 ^ 31 by omega)  h_11) (cwV 0 hts (wB_goodV (fun _ h => h) ml_C_59 im_C_checkRoomForAct se_C_checkRoomForAct ini_C co_C_checkRoomForAct) rfl rfl rfl (by decide +kernel) ⟨Nat.le_of_ble_eq_true rfl, Nat.le_of_ble_eq_true rfl⟩) (pVT hK hT hS hP (ci := 0) (q0 := 0) rfl rfl _) rfl rfl hl.1 rfl (lv_room (Nat.le_of_ble_eq_true rfl)) d_C_retype_11 ⟨Nat.le_of_ble_eq_true rfl, Nat.le_of_ble_eq_true rfl⟩) (fun ce q9 H1 locs1 hz hkp hlo hce hcv hcl => ?_)
        exact vx_out (fun x h => (hexc x h).elim) hlocks hce hcv hcl (fun t ht hal => ⟨Or.inr ⟨ek, rfl⟩, by rw [ht]; exact hz, fun q hq _ => by rw [ht]; exact hkp q hq⟩) (fun z hz9 => by cases hlo z hz9) (Nat.le_of_ble_eq_true rfl) (Nat.le_of_ble_eq_true rfl)
    · have h_7 : haB (kn 1) y = false := by simpa using h_7
      have ek : (kAct (tW kn vv x && haB (kn 1) y) (true) (nn 4)) = 1 := by simp [kAct, h_2, h_7]
      refine cX (vx_runV (As := [.int y]) (rest := []) ⟨hx, hb, hml, hown, hts⟩ (c_C_checkType_no hlt hP  y h_7) (cwV 1 hts (wB_goodV (fun _ h => h) ml_C_83 im_C_checkType se_C_checkType ini_C co_C_checkType) rfl rfl rfl (by decide +kernel) ⟨Nat.le_of_ble_eq_true rfl, Nat.le_of_ble_eq_true rfl⟩) (pVT hK hT hS hP (ci := 0) (q0 := 0) rfl rfl _) rfl rfl hl.1 rfl (lv_room (Nat.le_of_ble_eq_true rfl)) d_C_retype_7 ⟨Nat.le_of_ble_eq_true rfl, Nat.le_of_ble_eq_true rfl⟩) (fun ce q9 H1 locs1 hz hkp hlo hce hcv hcl => ?_)
      exact vx_out (fun x h => (hexc x h).elim) hlocks hce hcv hcl (fun t ht hal => ⟨Or.inl ⟨ek, rfl⟩, by rw [ht]; exact hz, fun q hq _ => by rw [ht]; exact hkp q hq⟩) (fun z hz9 => by cases hlo z hz9) (Nat.le_of_ble_eq_true rfl) (Nat.le_of_ble_eq_true rfl)
  · have h_2 : tW kn vv x = false := by simpa using h_2
    have ek : (kAct (tW kn vv x && haB (kn 1) y) (true) (nn 4)) = 1 := by simp [kAct, h_2]
    refine cX (vx_runV (As := [.int x]) (rest := []) ⟨hx, hb, hml, hown, hts⟩ (c_C_checkWall_no hlt hP hI  x h_2) (cwV 1 hts (wB_goodV (fun _ h => h) ml_C_102 im_C_checkWall se_C_checkWall ini_C co_C_checkWall) rfl rfl rfl (by decide +kernel) ⟨Nat.le_of_ble_eq_true rfl, Nat.le_of_ble_eq_true rfl⟩) (pVT hK hT hS hP (ci := 0) (q0 := 0) rfl rfl _) rfl rfl hl.1 rfl (lv_room (Nat.le_of_ble_eq_true rfl)) d_C_retype_2 ⟨Nat.le_of_ble_eq_true rfl, Nat.le_of_ble_eq_true rfl⟩) (fun ce q9 H1 locs1 hz hkp hlo hce hcv hcl => ?_)
    exact vx_out (fun x h => (hexc x h).elim) hlocks hce hcv hcl (fun t ht hal => ⟨Or.inl ⟨ek, rfl⟩, by rw [ht]; exact hz, fun q hq _ => by rw [ht]; exact hkp q hq⟩) (fun z hz9 => by cases hlo z hz9) (Nat.le_of_ble_eq_true rfl) (Nat.le_of_ble_eq_true rfl)
set_option maxRecDepth 100000 in
set_option maxHeartbeats 4000000 in
theorem c_C_remove (hlt : l.stackTraces = false) (hP : va_P (dC, dI) classes (wC aa cI cZ kn vv) H) (hdD : dD noT aa 22) (hI : okC kn nn) (x : Int32) : vx_Met l y_C_remove (wB y_C_remove b_C_remove 2 none) ({ frames := 7, cells := 1, slots := 6, locals := 111 } : Room) (rP [.ref (aa 0), .int x] H (kT dC dI cI cZ cJ (aN aa 22))) (qT (kAct (tW kn vv x) (true) (nn 4)) none (aN aa 22) (fun H1 => va_P (dC, dI) classes (wC aa cI cZ (pfK kn vv (nn 4) 7 x 0 0) (pfV vv (nn 4) 7 x 0 0)) H1)) (xT (kAct (tW kn vv x) (true) (nn 4))) 1 6 (aN aa 22) := by
  refine vx_ofW (cc := b_C_remove) (maxL := 2) (ret := none) (by decide) rfl ?_
  intro p e s m args below meth c s₁ B hml hexc hv
  obtain ⟨rfl, rfl, hK, hT⟩ := hv
  have hx := B.exec
  have hb := B.bytes
  have hr := B.returns
  have hts0 := atoms_spec (ws := (wB y_C_remove b_C_remove 2 none)) B.pre
  have hts : ∀ w9 ∈ BG, w9.before [.ref (aa 0), .int x].toArray s = true := fun w9 hw9 => hts0 w9 (List.mem_cons_of_mem _ hw9)
  have hown : s.vm.findClass R_C = some m.cls := findClass_of_methodNamed B.named
  have hlocks := B.notSynchronized
  have hK : va_K (dC, dI) classes [(cI, .int), (cZ, .boolean), (cJ, .long)] s := hK
  have hD : va_D (aN aa 22) (wC aa cI cZ kn vv) := wC_D (dD_aN hdD)
  have hS : va_S (aN aa 22) s.heap s.heap [] := va_S.rf
  have hl := lv_entry ([.ref (aa 0), .int x]) (n := 2) (Nat.le_of_ble_eq_true rfl)
  rw [lg_entry_eq]
  generalize (lg_sl ([.ref (aa 0), .int x]) ++ List.replicate (2 - (lg_sl ([.ref (aa 0), .int x])).length) Slot.unset).toArray = ls at hl ⊢
  have hl : lv_has ls 2 [(0, .ref (aa 0)), (1, .int x)] := hl
  obtain ⟨eK, b0, b1, b2, b3, b4, b5⟩ := id hI
  refine lv_aload_n hx hb d_C_remove_0 rfl (lv_at hl 0 rfl) ?_
  refine lv_iload_n hx hb d_C_remove_1 rfl (lv_at hl 1 rfl) ?_
  by_cases h_2 : tW kn vv x = true
  · refine cV (W.runV (As := [.int x]) (rest := []) ⟨hx, hb, hml, hown, hts⟩ (c_C_checkWall_ok hP hI  x h_2) (cwV 1 hts (wB_goodV (fun _ h => h) ml_C_102 im_C_checkWall se_C_checkWall ini_C co_C_checkWall) rfl rfl rfl (by decide +kernel) ⟨Nat.le_of_ble_eq_true rfl, Nat.le_of_ble_eq_true rfl⟩) (pV hK hP (ci := 0) (q0 := 0) rfl rfl _) rfl rfl hl.1 rfl (lv_room (Nat.le_of_ble_eq_true rfl)) d_C_remove_2 ⟨Nat.le_of_ble_eq_true rfl, Nat.le_of_ble_eq_true rfl⟩) ?_
    obtain ⟨j, hj, ej⟩ := (tW_n hI h_2)
    rw [ej] at hl
    refine lv_aload_n hx hb d_C_remove_5 rfl (lv_at hl 0 rfl) ?_
    by_cases h_6 : decide ((nn 4) < 200) = true
    · refine cV (W.runV (As := []) (rest := []) ⟨hx, hb, hml, hown, hts⟩ (c_C_checkRoomForAct_ok hP (eK 4 (by decide)) (show nn 4 < 2 ^ 31 by omega)  h_6) (cwV 0 hts (wB_goodV (fun _ h => h) ml_C_59 im_C_checkRoomForAct se_C_checkRoomForAct ini_C co_C_checkRoomForAct) rfl rfl rfl (by decide +kernel) ⟨Nat.le_of_ble_eq_true rfl, Nat.le_of_ble_eq_true rfl⟩) (pV hK hP (ci := 0) (q0 := 0) rfl rfl _) rfl rfl hl.1 rfl (lv_room (Nat.le_of_ble_eq_true rfl)) d_C_remove_6 ⟨Nat.le_of_ble_eq_true rfl, Nat.le_of_ble_eq_true rfl⟩) ?_
      have hd4 : nn 4 < 200 := by simpa using h_6
      have hroom : ¬ 200 ≤ nn 4 := by omega
      refine lv_aload_n hx hb d_C_remove_9 rfl (lv_at hl 0 rfl) ?_
      refine lv_bipush (v := 7) hx hb d_C_remove_10 (by decide) ?_
      refine lv_iload_n hx hb d_C_remove_12 rfl (lv_at hl 1 rfl) ?_
      refine lv_iconst (v := 0) hx hb d_C_remove_13 (by decide) ?_
      refine lv_iconst (v := 0) hx hb d_C_remove_14 (by decide) ?_
      refine cW (W.runV (As := [.int 7, .int (nI j), .int 0, .int 0]) (rest := []) ⟨hx, hb, hml, hown, hts⟩ (c_C_perform hP hdD (d := nn 4) (eK 4 (by decide)) hd4 _ _ _ _ (okA_1 (Or.inr (Or.inr (Or.inr (Or.inr ⟨rfl, by omega⟩)))))) (cwV 4 hts (wB_goodV (fun _ h => h) ml_C_66 im_C_perform se_C_perform ini_C co_C_perform) rfl rfl rfl (by decide +kernel) ⟨Nat.le_of_ble_eq_true rfl, Nat.le_of_ble_eq_true rfl⟩) (pV hK hP (ci := 0) (q0 := 0) rfl rfl _) rfl rfl hl.1 rfl (lv_room (Nat.le_of_ble_eq_true rfl)) d_C_remove_15 ⟨Nat.zero_le _, Nat.zero_le _⟩) hS (fun _ h => h) (fun H locs hP hS _ _ => ?_)
      have hP : va_P (dC, dI) classes (wC aa cI cZ (pfK kn vv (nn 4) 7 (nI j) 0 0) (pfV vv (nn 4) 7 (nI j) 0 0)) H := hP
      have hD : va_D (aN aa 22) (wC aa cI cZ (pfK kn vv (nn 4) 7 (nI j) 0 0) (pfV vv (nn 4) 7 (nI j) 0 0)) := wC_D (dD_aN hdD)
      have ek : (kAct (tW kn vv x) (true) (nn 4)) = 0 := by simp [kAct, h_2, h_6, hroom]
      have er : (none : Option Value) = none := by rfl
      have hPe : va_P (dC, dI) classes (wC aa cI cZ (pfK kn vv (nn 4) 7 x 0 0) (pfV vv (nn 4) 7 x 0 0)) H := by rw [ej]; exact hP
      refine vx_ret ?_
      refine W.widen (k := 1) (n := 6) (Nat.zero_le _) (Nat.zero_le _) ?_
      exact W.vret hx hb hr (fun t ht hW => ⟨ek, by rw [er], by rw [ht]; exact hPe, hS.F ht⟩) hS.2.2 d_C_remove_18
    · have h_6 : decide ((nn 4) < 200) = false := by simpa using h_6
      have ek : (kAct (tW kn vv x) (true) (nn 4)) = 2 := by simp [kAct, h_2, h_6]; simpa using h_6
      refine cX (vx_runV (As := []) (rest := []) ⟨hx, hb, hml, hown, hts⟩ (c_C_checkRoomForAct_no hlt hP (eK 4 (by decide)) (show nn 4 < 2 ^ 31 by omega)  h_6) (cwV 0 hts (wB_goodV (fun _ h => h) ml_C_59 im_C_checkRoomForAct se_C_checkRoomForAct ini_C co_C_checkRoomForAct) rfl rfl rfl (by decide +kernel) ⟨Nat.le_of_ble_eq_true rfl, Nat.le_of_ble_eq_true rfl⟩) (pVT hK hT hS hP (ci := 0) (q0 := 0) rfl rfl _) rfl rfl hl.1 rfl (lv_room (Nat.le_of_ble_eq_true rfl)) d_C_remove_6 ⟨Nat.le_of_ble_eq_true rfl, Nat.le_of_ble_eq_true rfl⟩) (fun ce q9 H1 locs1 hz hkp hlo hce hcv hcl => ?_)
      exact vx_out (fun x h => (hexc x h).elim) hlocks hce hcv hcl (fun t ht hal => ⟨Or.inr ⟨ek, rfl⟩, by rw [ht]; exact hz, fun q hq _ => by rw [ht]; exact hkp q hq⟩) (fun z hz9 => by cases hlo z hz9) (Nat.le_of_ble_eq_true rfl) (Nat.le_of_ble_eq_true rfl)
  · have h_2 : tW kn vv x = false := by simpa using h_2
    have ek : (kAct (tW kn vv x) (true) (nn 4)) = 1 := by simp [kAct, h_2]
    refine cX (vx_runV (As := [.int x]) (rest := []) ⟨hx, hb, hml, hown, hts⟩ (c_C_checkWall_no hlt hP hI  x h_2) (cwV 1 hts (wB_goodV (fun _ h => h) ml_C_102 im_C_checkWall se_C_checkWall ini_C co_C_checkWall) rfl rfl rfl (by decide +kernel) ⟨Nat.le_of_ble_eq_true rfl, Nat.le_of_ble_eq_true rfl⟩) (pVT hK hT hS hP (ci := 0) (q0 := 0) rfl rfl _) rfl rfl hl.1 rfl (lv_room (Nat.le_of_ble_eq_true rfl)) d_C_remove_2 ⟨Nat.le_of_ble_eq_true rfl, Nat.le_of_ble_eq_true rfl⟩) (fun ce q9 H1 locs1 hz hkp hlo hce hcv hcl => ?_)
    exact vx_out (fun x h => (hexc x h).elim) hlocks hce hcv hcl (fun t ht hal => ⟨Or.inl ⟨ek, rfl⟩, by rw [ht]; exact hz, fun q hq _ => by rw [ht]; exact hkp q hq⟩) (fun z hz9 => by cases hlo z hz9) (Nat.le_of_ble_eq_true rfl) (Nat.le_of_ble_eq_true rfl)
set_option maxRecDepth 100000 in
set_option maxHeartbeats 4000000 in
theorem c_C_move (hlt : l.stackTraces = false) (hP : va_P (dC, dI) classes (wC aa cI cZ kn vv) H) (hdD : dD noT aa 22) (hI : okC kn nn) (x y z : Int32) : vx_Met l y_C_move (wB y_C_move b_C_move 4 none) ({ frames := 7, cells := 1, slots := 6, locals := 113 } : Room) (rP [.ref (aa 0), .int x, .int y, .int z] H (kT dC dI cI cZ cJ (aN aa 22))) (qT (kAct (tW kn vv x && plB ((vv 4 x.toNatClampNeg).toInt64 + y.toInt64) ((vv 5 x.toNatClampNeg).toInt64 + z.toInt64) && plB ((vv 6 x.toNatClampNeg).toInt64 + y.toInt64) ((vv 7 x.toNatClampNeg).toInt64 + z.toInt64)) (true) (nn 4)) none (aN aa 22) (fun H1 => va_P (dC, dI) classes (wC aa cI cZ (pfK kn vv (nn 4) 6 x y z) (pfV vv (nn 4) 6 x y z)) H1)) (xT (kAct (tW kn vv x && plB ((vv 4 x.toNatClampNeg).toInt64 + y.toInt64) ((vv 5 x.toNatClampNeg).toInt64 + z.toInt64) && plB ((vv 6 x.toNatClampNeg).toInt64 + y.toInt64) ((vv 7 x.toNatClampNeg).toInt64 + z.toInt64)) (true) (nn 4))) 1 6 (aN aa 22) := by
  refine vx_ofW (cc := b_C_move) (maxL := 4) (ret := none) (by decide) rfl ?_
  intro p e s m args below meth c s₁ B hml hexc hv
  obtain ⟨rfl, rfl, hK, hT⟩ := hv
  have hx := B.exec
  have hb := B.bytes
  have hr := B.returns
  have hts0 := atoms_spec (ws := (wB y_C_move b_C_move 4 none)) B.pre
  have hts : ∀ w9 ∈ BG, w9.before [.ref (aa 0), .int x, .int y, .int z].toArray s = true := fun w9 hw9 => hts0 w9 (List.mem_cons_of_mem _ hw9)
  have hown : s.vm.findClass R_C = some m.cls := findClass_of_methodNamed B.named
  have hlocks := B.notSynchronized
  have hK : va_K (dC, dI) classes [(cI, .int), (cZ, .boolean), (cJ, .long)] s := hK
  have hD : va_D (aN aa 22) (wC aa cI cZ kn vv) := wC_D (dD_aN hdD)
  have hS : va_S (aN aa 22) s.heap s.heap [] := va_S.rf
  have hl := lv_entry ([.ref (aa 0), .int x, .int y, .int z]) (n := 4) (Nat.le_of_ble_eq_true rfl)
  rw [lg_entry_eq]
  generalize (lg_sl ([.ref (aa 0), .int x, .int y, .int z]) ++ List.replicate (4 - (lg_sl ([.ref (aa 0), .int x, .int y, .int z])).length) Slot.unset).toArray = ls at hl ⊢
  have hl : lv_has ls 4 [(0, .ref (aa 0)), (1, .int x), (2, .int y), (3, .int z)] := hl
  obtain ⟨eK, b0, b1, b2, b3, b4, b5⟩ := id hI
  refine lv_aload_n hx hb d_C_move_0 rfl (lv_at hl 0 rfl) ?_
  refine lv_iload_n hx hb d_C_move_1 rfl (lv_at hl 1 rfl) ?_
  by_cases h_2 : tW kn vv x = true
  · refine cV (W.runV (As := [.int x]) (rest := []) ⟨hx, hb, hml, hown, hts⟩ (c_C_checkWall_ok hP hI  x h_2) (cwV 1 hts (wB_goodV (fun _ h => h) ml_C_102 im_C_checkWall se_C_checkWall ini_C co_C_checkWall) rfl rfl rfl (by decide +kernel) ⟨Nat.le_of_ble_eq_true rfl, Nat.le_of_ble_eq_true rfl⟩) (pV hK hP (ci := 0) (q0 := 0) rfl rfl _) rfl rfl hl.1 rfl (lv_room (Nat.le_of_ble_eq_true rfl)) d_C_move_2 ⟨Nat.le_of_ble_eq_true rfl, Nat.le_of_ble_eq_true rfl⟩) ?_
    obtain ⟨j, hj, ej⟩ := (tW_n hI h_2)
    rw [ej] at hl
    have ec : x.toNatClampNeg = j := by rw [ej]; exact nI_clamp (by omega)
    refine lv_aload_n hx hb d_C_move_5 rfl (lv_at hl 0 rfl) ?_
    refine va_get (D := (dC, dI)) (ci := 0) (v := .ref (aa 3)) (C := R_C) (T := F_C) (N := 5) hx hb hts i_C hown hK hP 0 rfl rfl 2 (by decide) (hts _ fl_C_26) (fun _ h9 => h9) rfl d_C_move_6 ?_
    refine va_get (D := (dC, dI)) (ci := 5) (v := .ref (aa 10)) (C := R_W) (T := F_W) (N := 8) hx hb hts i_W hown hK hP 3 rfl rfl 2 (by decide) (hts _ fl_C_105) (fun _ h9 => h9) rfl d_C_move_9 ?_
    refine lv_iload_n hx hb d_C_move_12 rfl (lv_at hl 1 rfl) ?_
    refine va_iald hx hb hK hP 10 0 rfl rfl (vp_in_nI (by omega) (by omega)) d_C_move_13 ?_
    rw [nI_clamp (show j < 2 ^ 31 by omega)]
    refine lv_i2l (v := ((vv 4) j).toInt64) hx hb d_C_move_14 rfl ?_
    refine lv_iload_n hx hb d_C_move_15 rfl (lv_at hl 2 rfl) ?_
    refine lv_i2l (v := y.toInt64) hx hb d_C_move_16 rfl ?_
    refine lv_ladd hx hb d_C_move_17 ?_
    refine lv_aload_n hx hb d_C_move_18 rfl (lv_at hl 0 rfl) ?_
    refine va_get (D := (dC, dI)) (ci := 0) (v := .ref (aa 3)) (C := R_C) (T := F_C) (N := 5) hx hb hts i_C hown hK hP 0 rfl rfl 2 (by decide) (hts _ fl_C_26) (fun _ h9 => h9) rfl d_C_move_19 ?_
    refine va_get (D := (dC, dI)) (ci := 5) (v := .ref (aa 11)) (C := R_W) (T := F_W) (N := 8) hx hb hts i_W hown hK hP 3 rfl rfl 3 (by decide) (hts _ fl_C_108) (fun _ h9 => h9) rfl d_C_move_22 ?_
    refine lv_iload_n hx hb d_C_move_25 rfl (lv_at hl 1 rfl) ?_
    refine va_iald hx hb hK hP 11 0 rfl rfl (vp_in_nI (by omega) (by omega)) d_C_move_26 ?_
    rw [nI_clamp (show j < 2 ^ 31 by omega)]
    refine lv_i2l (v := ((vv 5) j).toInt64) hx hb d_C_move_27 rfl ?_
    refine lv_iload_n hx hb d_C_move_28 rfl (lv_at hl 3 rfl) ?_
    refine lv_i2l (v := z.toInt64) hx hb d_C_move_29 rfl ?_
    refine lv_ladd hx hb d_C_move_30 ?_
    by_cases h_31 : plB ((((vv 4) j).toInt64) + (y.toInt64)) ((((vv 5) j).toInt64) + (z.toInt64)) = true
    · refine cV (W.runS (As := [.long ((((vv 4) j).toInt64) + (y.toInt64)), .long ((((vv 5) j).toInt64) + (z.toInt64))]) (rest := []) ⟨hx, hb, hml, hown, hts⟩ (c_C_checkPlace_ok   ((((vv 4) j).toInt64) + (y.toInt64)) ((((vv 5) j).toInt64) + (z.toInt64)) h_31) (cwS 2 hts (wB_goodS (fun _ h => h) ml_C_86 st_C_checkPlace ini_C co_C_checkPlace) rfl rfl rfl (by decide +kernel) ⟨Nat.le_of_ble_eq_true rfl, Nat.le_of_ble_eq_true rfl⟩) (pS hK _) rfl rfl hl.1 rfl (lv_room (Nat.le_of_ble_eq_true rfl)) d_C_move_31 ⟨Nat.le_of_ble_eq_true rfl, Nat.le_of_ble_eq_true rfl⟩) ?_
      refine lv_aload_n hx hb d_C_move_34 rfl (lv_at hl 0 rfl) ?_
      refine va_get (D := (dC, dI)) (ci := 0) (v := .ref (aa 3)) (C := R_C) (T := F_C) (N := 5) hx hb hts i_C hown hK hP 0 rfl rfl 2 (by decide) (hts _ fl_C_26) (fun _ h9 => h9) rfl d_C_move_35 ?_
      refine va_get (D := (dC, dI)) (ci := 5) (v := .ref (aa 12)) (C := R_W) (T := F_W) (N := 8) hx hb hts i_W hown hK hP 3 rfl rfl 4 (by decide) (hts _ fl_C_111) (fun _ h9 => h9) rfl d_C_move_38 ?_
      refine lv_iload_n hx hb d_C_move_41 rfl (lv_at hl 1 rfl) ?_
      refine va_iald hx hb hK hP 12 0 rfl rfl (vp_in_nI (by omega) (by omega)) d_C_move_42 ?_
      rw [nI_clamp (show j < 2 ^ 31 by omega)]
      refine lv_i2l (v := ((vv 6) j).toInt64) hx hb d_C_move_43 rfl ?_
      refine lv_iload_n hx hb d_C_move_44 rfl (lv_at hl 2 rfl) ?_
      refine lv_i2l (v := y.toInt64) hx hb d_C_move_45 rfl ?_
      refine lv_ladd hx hb d_C_move_46 ?_
      refine lv_aload_n hx hb d_C_move_47 rfl (lv_at hl 0 rfl) ?_
      refine va_get (D := (dC, dI)) (ci := 0) (v := .ref (aa 3)) (C := R_C) (T := F_C) (N := 5) hx hb hts i_C hown hK hP 0 rfl rfl 2 (by decide) (hts _ fl_C_26) (fun _ h9 => h9) rfl d_C_move_48 ?_
      refine va_get (D := (dC, dI)) (ci := 5) (v := .ref (aa 13)) (C := R_W) (T := F_W) (N := 8) hx hb hts i_W hown hK hP 3 rfl rfl 5 (by decide) (hts _ fl_C_114) (fun _ h9 => h9) rfl d_C_move_51 ?_
      refine lv_iload_n hx hb d_C_move_54 rfl (lv_at hl 1 rfl) ?_
      refine va_iald hx hb hK hP 13 0 rfl rfl (vp_in_nI (by omega) (by omega)) d_C_move_55 ?_
      rw [nI_clamp (show j < 2 ^ 31 by omega)]
      refine lv_i2l (v := ((vv 7) j).toInt64) hx hb d_C_move_56 rfl ?_
      refine lv_iload_n hx hb d_C_move_57 rfl (lv_at hl 3 rfl) ?_
      refine lv_i2l (v := z.toInt64) hx hb d_C_move_58 rfl ?_
      refine lv_ladd hx hb d_C_move_59 ?_
      by_cases h_60 : plB ((((vv 6) j).toInt64) + (y.toInt64)) ((((vv 7) j).toInt64) + (z.toInt64)) = true
      · refine cV (W.runS (As := [.long ((((vv 6) j).toInt64) + (y.toInt64)), .long ((((vv 7) j).toInt64) + (z.toInt64))]) (rest := []) ⟨hx, hb, hml, hown, hts⟩ (c_C_checkPlace_ok   ((((vv 6) j).toInt64) + (y.toInt64)) ((((vv 7) j).toInt64) + (z.toInt64)) h_60) (cwS 2 hts (wB_goodS (fun _ h => h) ml_C_86 st_C_checkPlace ini_C co_C_checkPlace) rfl rfl rfl (by decide +kernel) ⟨Nat.le_of_ble_eq_true rfl, Nat.le_of_ble_eq_true rfl⟩) (pS hK _) rfl rfl hl.1 rfl (lv_room (Nat.le_of_ble_eq_true rfl)) d_C_move_60 ⟨Nat.le_of_ble_eq_true rfl, Nat.le_of_ble_eq_true rfl⟩) ?_
        refine lv_aload_n hx hb d_C_move_63 rfl (lv_at hl 0 rfl) ?_
        by_cases h_64 : decide ((nn 4) < 200) = true
        · refine cV (W.runV (As := []) (rest := []) ⟨hx, hb, hml, hown, hts⟩ (c_C_checkRoomForAct_ok hP (eK 4 (by decide)) (show nn 4 < 2 ^ 31 by omega)  h_64) (cwV 0 hts (wB_goodV (fun _ h => h) ml_C_59 im_C_checkRoomForAct se_C_checkRoomForAct ini_C co_C_checkRoomForAct) rfl rfl rfl (by decide +kernel) ⟨Nat.le_of_ble_eq_true rfl, Nat.le_of_ble_eq_true rfl⟩) (pV hK hP (ci := 0) (q0 := 0) rfl rfl _) rfl rfl hl.1 rfl (lv_room (Nat.le_of_ble_eq_true rfl)) d_C_move_64 ⟨Nat.le_of_ble_eq_true rfl, Nat.le_of_ble_eq_true rfl⟩) ?_
          have hd4 : nn 4 < 200 := by simpa using h_64
          have hroom : ¬ 200 ≤ nn 4 := by omega
          refine lv_aload_n hx hb d_C_move_67 rfl (lv_at hl 0 rfl) ?_
          refine lv_bipush (v := 6) hx hb d_C_move_68 (by decide) ?_
          refine lv_iload_n hx hb d_C_move_70 rfl (lv_at hl 1 rfl) ?_
          refine lv_iload_n hx hb d_C_move_71 rfl (lv_at hl 2 rfl) ?_
          refine lv_iload_n hx hb d_C_move_72 rfl (lv_at hl 3 rfl) ?_
          refine cW (W.runV (As := [.int 6, .int (nI j), .int y, .int z]) (rest := []) ⟨hx, hb, hml, hown, hts⟩ (c_C_perform hP hdD (d := nn 4) (eK 4 (by decide)) hd4 _ _ _ _ (okA_1 (Or.inr (Or.inr (Or.inr (Or.inl ⟨rfl, by omega⟩)))))) (cwV 4 hts (wB_goodV (fun _ h => h) ml_C_66 im_C_perform se_C_perform ini_C co_C_perform) rfl rfl rfl (by decide +kernel) ⟨Nat.le_of_ble_eq_true rfl, Nat.le_of_ble_eq_true rfl⟩) (pV hK hP (ci := 0) (q0 := 0) rfl rfl _) rfl rfl hl.1 rfl (lv_room (Nat.le_of_ble_eq_true rfl)) d_C_move_73 ⟨Nat.zero_le _, Nat.zero_le _⟩) hS (fun _ h => h) (fun H locs hP hS _ _ => ?_)
          have hP : va_P (dC, dI) classes (wC aa cI cZ (pfK kn vv (nn 4) 6 (nI j) y z) (pfV vv (nn 4) 6 (nI j) y z)) H := hP
          have hD : va_D (aN aa 22) (wC aa cI cZ (pfK kn vv (nn 4) 6 (nI j) y z) (pfV vv (nn 4) 6 (nI j) y z)) := wC_D (dD_aN hdD)
          have ek : (kAct (tW kn vv x && plB ((vv 4 x.toNatClampNeg).toInt64 + y.toInt64) ((vv 5 x.toNatClampNeg).toInt64 + z.toInt64) && plB ((vv 6 x.toNatClampNeg).toInt64 + y.toInt64) ((vv 7 x.toNatClampNeg).toInt64 + z.toInt64)) (true) (nn 4)) = 0 := by rw [ec]; simp [kAct, h_2, h_31, h_60, h_64, hroom]
          have er : (none : Option Value) = none := by rfl
          have hPe : va_P (dC, dI) classes (wC aa cI cZ (pfK kn vv (nn 4) 6 x y z) (pfV vv (nn 4) 6 x y z)) H := by rw [ej]; exact hP
          refine vx_ret ?_
          refine W.widen (k := 1) (n := 6) (Nat.zero_le _) (Nat.zero_le _) ?_
          exact W.vret hx hb hr (fun t ht hW => ⟨ek, by rw [er], by rw [ht]; exact hPe, hS.F ht⟩) hS.2.2 d_C_move_76
        · have h_64 : decide ((nn 4) < 200) = false := by simpa using h_64
          have ek : (kAct (tW kn vv x && plB ((vv 4 x.toNatClampNeg).toInt64 + y.toInt64) ((vv 5 x.toNatClampNeg).toInt64 + z.toInt64) && plB ((vv 6 x.toNatClampNeg).toInt64 + y.toInt64) ((vv 7 x.toNatClampNeg).toInt64 + z.toInt64)) (true) (nn 4)) = 2 := by rw [ec]; simp [kAct, h_2, h_31, h_60, h_64]; simpa using h_64
          refine cX (vx_runV (As := []) (rest := []) ⟨hx, hb, hml, hown, hts⟩ (c_C_checkRoomForAct_no hlt hP (eK 4 (by decide)) (show nn 4 < 2 ^ 31 by omega)  h_64) (cwV 0 hts (wB_goodV (fun _ h => h) ml_C_59 im_C_checkRoomForAct se_C_checkRoomForAct ini_C co_C_checkRoomForAct) rfl rfl rfl (by decide +kernel) ⟨Nat.le_of_ble_eq_true rfl, Nat.le_of_ble_eq_true rfl⟩) (pVT hK hT hS hP (ci := 0) (q0 := 0) rfl rfl _) rfl rfl hl.1 rfl (lv_room (Nat.le_of_ble_eq_true rfl)) d_C_move_64 ⟨Nat.le_of_ble_eq_true rfl, Nat.le_of_ble_eq_true rfl⟩) (fun ce q9 H1 locs1 hz hkp hlo hce hcv hcl => ?_)
          exact vx_out (fun x h => (hexc x h).elim) hlocks hce hcv hcl (fun t ht hal => ⟨Or.inr ⟨ek, rfl⟩, by rw [ht]; exact hz, fun q hq _ => by rw [ht]; exact hkp q hq⟩) (fun z hz9 => by cases hlo z hz9) (Nat.le_of_ble_eq_true rfl) (Nat.le_of_ble_eq_true rfl)
      · have h_60 : plB ((((vv 6) j).toInt64) + (y.toInt64)) ((((vv 7) j).toInt64) + (z.toInt64)) = false := by simpa using h_60
        have ek : (kAct (tW kn vv x && plB ((vv 4 x.toNatClampNeg).toInt64 + y.toInt64) ((vv 5 x.toNatClampNeg).toInt64 + z.toInt64) && plB ((vv 6 x.toNatClampNeg).toInt64 + y.toInt64) ((vv 7 x.toNatClampNeg).toInt64 + z.toInt64)) (true) (nn 4)) = 1 := by rw [ec]; simp [kAct, h_2, h_31, h_60]
        refine cX (vx_runS (As := [.long ((((vv 6) j).toInt64) + (y.toInt64)), .long ((((vv 7) j).toInt64) + (z.toInt64))]) (rest := []) ⟨hx, hb, hml, hown, hts⟩ (c_C_checkPlace_no hlt   ((((vv 6) j).toInt64) + (y.toInt64)) ((((vv 7) j).toInt64) + (z.toInt64)) h_60) (cwS 2 hts (wB_goodS (fun _ h => h) ml_C_86 st_C_checkPlace ini_C co_C_checkPlace) rfl rfl rfl (by decide +kernel) ⟨Nat.le_of_ble_eq_true rfl, Nat.le_of_ble_eq_true rfl⟩) (pST hK hT hS _) rfl rfl hl.1 rfl (lv_room (Nat.le_of_ble_eq_true rfl)) d_C_move_60 ⟨Nat.le_of_ble_eq_true rfl, Nat.le_of_ble_eq_true rfl⟩) (fun ce q9 H1 locs1 hz hkp hlo hce hcv hcl => ?_)
        exact vx_out (fun x h => (hexc x h).elim) hlocks hce hcv hcl (fun t ht hal => ⟨Or.inl ⟨ek, rfl⟩, by rw [ht]; exact hz, fun q hq _ => by rw [ht]; exact hkp q hq⟩) (fun z hz9 => by cases hlo z hz9) (Nat.le_of_ble_eq_true rfl) (Nat.le_of_ble_eq_true rfl)
    · have h_31 : plB ((((vv 4) j).toInt64) + (y.toInt64)) ((((vv 5) j).toInt64) + (z.toInt64)) = false := by simpa using h_31
      have ek : (kAct (tW kn vv x && plB ((vv 4 x.toNatClampNeg).toInt64 + y.toInt64) ((vv 5 x.toNatClampNeg).toInt64 + z.toInt64) && plB ((vv 6 x.toNatClampNeg).toInt64 + y.toInt64) ((vv 7 x.toNatClampNeg).toInt64 + z.toInt64)) (true) (nn 4)) = 1 := by rw [ec]; simp [kAct, h_2, h_31]
      refine cX (vx_runS (As := [.long ((((vv 4) j).toInt64) + (y.toInt64)), .long ((((vv 5) j).toInt64) + (z.toInt64))]) (rest := []) ⟨hx, hb, hml, hown, hts⟩ (c_C_checkPlace_no hlt   ((((vv 4) j).toInt64) + (y.toInt64)) ((((vv 5) j).toInt64) + (z.toInt64)) h_31) (cwS 2 hts (wB_goodS (fun _ h => h) ml_C_86 st_C_checkPlace ini_C co_C_checkPlace) rfl rfl rfl (by decide +kernel) ⟨Nat.le_of_ble_eq_true rfl, Nat.le_of_ble_eq_true rfl⟩) (pST hK hT hS _) rfl rfl hl.1 rfl (lv_room (Nat.le_of_ble_eq_true rfl)) d_C_move_31 ⟨Nat.le_of_ble_eq_true rfl, Nat.le_of_ble_eq_true rfl⟩) (fun ce q9 H1 locs1 hz hkp hlo hce hcv hcl => ?_)
      exact vx_out (fun x h => (hexc x h).elim) hlocks hce hcv hcl (fun t ht hal => ⟨Or.inl ⟨ek, rfl⟩, by rw [ht]; exact hz, fun q hq _ => by rw [ht]; exact hkp q hq⟩) (fun z hz9 => by cases hlo z hz9) (Nat.le_of_ble_eq_true rfl) (Nat.le_of_ble_eq_true rfl)
  · have h_2 : tW kn vv x = false := by simpa using h_2
    have ek : (kAct (tW kn vv x && plB ((vv 4 x.toNatClampNeg).toInt64 + y.toInt64) ((vv 5 x.toNatClampNeg).toInt64 + z.toInt64) && plB ((vv 6 x.toNatClampNeg).toInt64 + y.toInt64) ((vv 7 x.toNatClampNeg).toInt64 + z.toInt64)) (true) (nn 4)) = 1 := by simp [kAct, h_2]
    refine cX (vx_runV (As := [.int x]) (rest := []) ⟨hx, hb, hml, hown, hts⟩ (c_C_checkWall_no hlt hP hI  x h_2) (cwV 1 hts (wB_goodV (fun _ h => h) ml_C_102 im_C_checkWall se_C_checkWall ini_C co_C_checkWall) rfl rfl rfl (by decide +kernel) ⟨Nat.le_of_ble_eq_true rfl, Nat.le_of_ble_eq_true rfl⟩) (pVT hK hT hS hP (ci := 0) (q0 := 0) rfl rfl _) rfl rfl hl.1 rfl (lv_room (Nat.le_of_ble_eq_true rfl)) d_C_move_2 ⟨Nat.le_of_ble_eq_true rfl, Nat.le_of_ble_eq_true rfl⟩) (fun ce q9 H1 locs1 hz hkp hlo hce hcv hcl => ?_)
    exact vx_out (fun x h => (hexc x h).elim) hlocks hce hcv hcl (fun t ht hal => ⟨Or.inl ⟨ek, rfl⟩, by rw [ht]; exact hz, fun q hq _ => by rw [ht]; exact hkp q hq⟩) (fun z hz9 => by cases hlo z hz9) (Nat.le_of_ble_eq_true rfl) (Nat.le_of_ble_eq_true rfl)
set_option maxRecDepth 100000 in
set_option maxHeartbeats 4000000 in
theorem c_C_wall (hlt : l.stackTraces = false) (hP : va_P (dC, dI) classes (wC aa cI cZ kn vv) H) (hdD : dD noT aa 22) (hI : okC kn nn) (x1 x2 x3 x4 x5 x6 : Int32) : vx_Met l y_C_wall (wB y_C_wall b_C_wall 8 (some .int)) ({ frames := 7, cells := 1, slots := 6, locals := 113 } : Room) (rP [.ref (aa 0), .int x1, .int x2, .int x3, .int x4, .int x5, .int x6] H (kT dC dI cI cZ cJ (aN aa 22))) (qT (kAct (haB (kn 0) x1 && haB (kn 1) x2 && plB x3.toInt64 x4.toInt64 && plB x5.toInt64 x6.toInt64 && (decide (x3 = x5) != decide (x4 = x6))) (decide (nn 2 < 40)) (nn 4)) (some (.int (nI (nn 2)))) (aN aa 22) (fun H1 => va_P (dC, dI) classes (wC aa cI cZ (pfK kn (nwV vv (nn 2) x1 x2 x3 x4 x5 x6) (nn 4) 2 (nI (nn 2)) 1 0) (pfV (nwV vv (nn 2) x1 x2 x3 x4 x5 x6) (nn 4) 2 (nI (nn 2)) 1 0)) H1)) (xT (kAct (haB (kn 0) x1 && haB (kn 1) x2 && plB x3.toInt64 x4.toInt64 && plB x5.toInt64 x6.toInt64 && (decide (x3 = x5) != decide (x4 = x6))) (decide (nn 2 < 40)) (nn 4))) 1 6 (aN aa 22) := by
  refine vx_ofW (cc := b_C_wall) (maxL := 8) (ret := (some .int)) (by decide) rfl ?_
  intro p e s m args below meth c s₁ B hml hexc hv
  obtain ⟨rfl, rfl, hK, hT⟩ := hv
  have hx := B.exec
  have hb := B.bytes
  have hr := B.returns
  have hts0 := atoms_spec (ws := (wB y_C_wall b_C_wall 8 (some .int))) B.pre
  have hts : ∀ w9 ∈ BG, w9.before [.ref (aa 0), .int x1, .int x2, .int x3, .int x4, .int x5, .int x6].toArray s = true := fun w9 hw9 => hts0 w9 (List.mem_cons_of_mem _ hw9)
  have hown : s.vm.findClass R_C = some m.cls := findClass_of_methodNamed B.named
  have hlocks := B.notSynchronized
  have hK : va_K (dC, dI) classes [(cI, .int), (cZ, .boolean), (cJ, .long)] s := hK
  have hD : va_D (aN aa 22) (wC aa cI cZ kn vv) := wC_D (dD_aN hdD)
  have hS : va_S (aN aa 22) s.heap s.heap [] := va_S.rf
  have hl := lv_entry ([.ref (aa 0), .int x1, .int x2, .int x3, .int x4, .int x5, .int x6]) (n := 8) (Nat.le_of_ble_eq_true rfl)
  rw [lg_entry_eq]
  generalize (lg_sl ([.ref (aa 0), .int x1, .int x2, .int x3, .int x4, .int x5, .int x6]) ++ List.replicate (8 - (lg_sl ([.ref (aa 0), .int x1, .int x2, .int x3, .int x4, .int x5, .int x6])).length) Slot.unset).toArray = ls at hl ⊢
  have hl : lv_has ls 8 [(0, .ref (aa 0)), (1, .int x1), (2, .int x2), (3, .int x3), (4, .int x4), (5, .int x5), (6, .int x6)] := hl
  obtain ⟨eK, b0, b1, b2, b3, b4, b5⟩ := id hI
  refine lv_aload_n hx hb d_C_wall_0 rfl (lv_at hl 0 rfl) ?_
  refine lv_iload_n hx hb d_C_wall_1 rfl (lv_at hl 1 rfl) ?_
  by_cases h_2 : haB (kn 0) x1 = true
  · refine cV (W.runV (As := [.int x1]) (rest := []) ⟨hx, hb, hml, hown, hts⟩ (c_C_checkStorey_ok hP  x1 h_2) (cwV 1 hts (wB_goodV (fun _ h => h) ml_C_70 im_C_checkStorey se_C_checkStorey ini_C co_C_checkStorey) rfl rfl rfl (by decide +kernel) ⟨Nat.le_of_ble_eq_true rfl, Nat.le_of_ble_eq_true rfl⟩) (pV hK hP (ci := 0) (q0 := 0) rfl rfl _) rfl rfl hl.1 rfl (lv_room (Nat.le_of_ble_eq_true rfl)) d_C_wall_2 ⟨Nat.le_of_ble_eq_true rfl, Nat.le_of_ble_eq_true rfl⟩) ?_
    refine lv_aload_n hx hb d_C_wall_5 rfl (lv_at hl 0 rfl) ?_
    refine lv_iload_n hx hb d_C_wall_6 rfl (lv_at hl 2 rfl) ?_
    by_cases h_7 : haB (kn 1) x2 = true
    · refine cV (W.runV (As := [.int x2]) (rest := []) ⟨hx, hb, hml, hown, hts⟩ (c_C_checkType_ok hP  x2 h_7) (cwV 1 hts (wB_goodV (fun _ h => h) ml_C_83 im_C_checkType se_C_checkType ini_C co_C_checkType) rfl rfl rfl (by decide +kernel) ⟨Nat.le_of_ble_eq_true rfl, Nat.le_of_ble_eq_true rfl⟩) (pV hK hP (ci := 0) (q0 := 0) rfl rfl _) rfl rfl hl.1 rfl (lv_room (Nat.le_of_ble_eq_true rfl)) d_C_wall_7 ⟨Nat.le_of_ble_eq_true rfl, Nat.le_of_ble_eq_true rfl⟩) ?_
      refine lv_iload_n hx hb d_C_wall_10 rfl (lv_at hl 3 rfl) ?_
      refine lv_i2l (v := x3.toInt64) hx hb d_C_wall_11 rfl ?_
      refine lv_iload hx hb d_C_wall_12 (lv_at hl 4 rfl) ?_
      refine lv_i2l (v := x4.toInt64) hx hb d_C_wall_14 rfl ?_
      by_cases h_15 : plB (x3.toInt64) (x4.toInt64) = true
      · refine cV (W.runS (As := [.long (x3.toInt64), .long (x4.toInt64)]) (rest := []) ⟨hx, hb, hml, hown, hts⟩ (c_C_checkPlace_ok   (x3.toInt64) (x4.toInt64) h_15) (cwS 2 hts (wB_goodS (fun _ h => h) ml_C_86 st_C_checkPlace ini_C co_C_checkPlace) rfl rfl rfl (by decide +kernel) ⟨Nat.le_of_ble_eq_true rfl, Nat.le_of_ble_eq_true rfl⟩) (pS hK _) rfl rfl hl.1 rfl (lv_room (Nat.le_of_ble_eq_true rfl)) d_C_wall_15 ⟨Nat.le_of_ble_eq_true rfl, Nat.le_of_ble_eq_true rfl⟩) ?_
        refine lv_iload hx hb d_C_wall_18 (lv_at hl 5 rfl) ?_
        refine lv_i2l (v := x5.toInt64) hx hb d_C_wall_20 rfl ?_
        refine lv_iload hx hb d_C_wall_21 (lv_at hl 6 rfl) ?_
        refine lv_i2l (v := x6.toInt64) hx hb d_C_wall_23 rfl ?_
        by_cases h_24 : plB (x5.toInt64) (x6.toInt64) = true
        · refine cV (W.runS (As := [.long (x5.toInt64), .long (x6.toInt64)]) (rest := []) ⟨hx, hb, hml, hown, hts⟩ (c_C_checkPlace_ok   (x5.toInt64) (x6.toInt64) h_24) (cwS 2 hts (wB_goodS (fun _ h => h) ml_C_86 st_C_checkPlace ini_C co_C_checkPlace) rfl rfl rfl (by decide +kernel) ⟨Nat.le_of_ble_eq_true rfl, Nat.le_of_ble_eq_true rfl⟩) (pS hK _) rfl rfl hl.1 rfl (lv_room (Nat.le_of_ble_eq_true rfl)) d_C_wall_24 ⟨Nat.le_of_ble_eq_true rfl, Nat.le_of_ble_eq_true rfl⟩) ?_
          refine lv_iload_n hx hb d_C_wall_27 rfl (lv_at hl 3 rfl) ?_
          refine lv_iload hx hb d_C_wall_28 (lv_at hl 5 rfl) ?_
          refine lv_icmp_ne (tgt := 37) hx hb d_C_wall_30 (by decide) (fun c_30 => ?_) (fun c_30 => ?_)
          · refine lv_iconst (v := 0) hx hb d_C_wall_37 (by decide) ?_
            refine lv_iload hx hb d_C_wall_38 (lv_at hl 4 rfl) ?_
            refine lv_iload hx hb d_C_wall_40 (lv_at hl 6 rfl) ?_
            refine lv_icmp_ne (tgt := 49) hx hb d_C_wall_42 (by decide) (fun c_42 => ?_) (fun c_42 => ?_)
            · refine lv_iconst (v := 0) hx hb d_C_wall_49 (by decide) ?_
              refine lv_icmp_ne (tgt := 63) hx hb d_C_wall_50 (by decide) (fun c_50 => ?_) (fun c_50 => ?_)
              · exact absurd c_50 (by decide)
              · have h_50 : (decide (x3 = x5) != decide (x4 = x6)) = false := by simp [c_30, c_42]
                have ek : (kAct (haB (kn 0) x1 && haB (kn 1) x2 && plB x3.toInt64 x4.toInt64 && plB x5.toInt64 x6.toInt64 && (decide (x3 = x5) != decide (x4 = x6))) (decide (nn 2 < 40)) (nn 4)) = 1 := by rw [kAct, h_2, h_7, h_15, h_24, h_50]; rfl
                exact thIA hx hb hlt hown hts hT hS (hl.1.trans hml.symm) (is := 92) (List.mem_of_getElem? (i := 9) rfl) d_C_wall_53 d_C_wall_56 d_C_wall_57 d_C_wall_59 d_C_wall_62 hexc (Nat.le_of_ble_eq_true rfl) (Nat.le_of_ble_eq_true rfl) (Nat.le_of_ble_eq_true rfl) (Nat.le_of_ble_eq_true rfl) hlocks (fun t hal hz hkp => ⟨Or.inl ⟨ek, rfl⟩, hz, fun q hq _ => hkp q hq⟩) (fun z hz => by cases hz) (Nat.le_of_ble_eq_true rfl) (Nat.le_of_ble_eq_true rfl)
            · refine lv_iconst (v := 1) hx hb d_C_wall_45 (by decide) ?_
              refine lv_goto (tgt := 50) hx hb d_C_wall_46 (by decide) ?_
              refine lv_icmp_ne (tgt := 63) hx hb d_C_wall_50 (by decide) (fun c_50 => ?_) (fun c_50 => ?_)
              · have h_50 : (decide (x3 = x5) != decide (x4 = x6)) = true := by simp [c_30, c_42]
                refine lv_aload_n hx hb d_C_wall_63 rfl (lv_at hl 0 rfl) ?_
                refine va_get (D := (dC, dI)) (ci := 0) (v := .ref (aa 3)) (C := R_C) (T := F_C) (N := 5) hx hb hts i_C hown hK hP 0 rfl rfl 2 (by decide) (hts _ fl_C_26) (fun _ h9 => h9) rfl d_C_wall_64 ?_
                refine va_get (D := (dC, dI)) (ci := 5) (v := .int (nI (nn 2))) (C := R_W) (T := F_W) (N := 8) hx hb hts i_W hown hK hP 3 rfl rfl 7 (by decide) (hts _ fl_C_95) (fun _ h9 => h9) (by rw [← (eK 2 (by decide))]; rfl) d_C_wall_67 ?_
                refine lv_istore (lv' := [(7, .int (nI (nn 2))), (0, .ref (aa 0)), (1, .int x1), (2, .int x2), (3, .int x3), (4, .int x4), (5, .int x5), (6, .int x6)]) hx hb d_C_wall_70 hl (by decide) rfl (fun ls hl => ?_)
                refine lv_iload hx hb d_C_wall_72 (lv_at hl 0 rfl) ?_
                refine lv_bipush (v := 40) hx hb d_C_wall_74 (by decide) ?_
                refine lv_icmp_lt (tgt := 89) hx hb d_C_wall_76 (by decide) (fun c_76 => ?_) (fun c_76 => ?_)
                · have hs17 : nn 2 < 40 := (nI_ltI (by omega) (by decide)).mp c_76
                  refine lv_aload_n hx hb d_C_wall_89 rfl (lv_at hl 1 rfl) ?_
                  by_cases h_90 : decide ((nn 4) < 200) = true
                  · refine cV (W.runV (As := []) (rest := []) ⟨hx, hb, hml, hown, hts⟩ (c_C_checkRoomForAct_ok hP (eK 4 (by decide)) (show nn 4 < 2 ^ 31 by omega)  h_90) (cwV 0 hts (wB_goodV (fun _ h => h) ml_C_59 im_C_checkRoomForAct se_C_checkRoomForAct ini_C co_C_checkRoomForAct) rfl rfl rfl (by decide +kernel) ⟨Nat.le_of_ble_eq_true rfl, Nat.le_of_ble_eq_true rfl⟩) (pV hK hP (ci := 0) (q0 := 0) rfl rfl _) rfl rfl hl.1 rfl (lv_room (Nat.le_of_ble_eq_true rfl)) d_C_wall_90 ⟨Nat.le_of_ble_eq_true rfl, Nat.le_of_ble_eq_true rfl⟩) ?_
                    have hd4 : nn 4 < 200 := by simpa using h_90
                    have hroom : ¬ 200 ≤ nn 4 := by omega
                    refine lv_aload_n hx hb d_C_wall_93 rfl (lv_at hl 1 rfl) ?_
                    refine va_get (D := (dC, dI)) (ci := 0) (v := .ref (aa 3)) (C := R_C) (T := F_C) (N := 5) hx hb hts i_C hown hK hP 0 rfl rfl 2 (by decide) (hts _ fl_C_26) (fun _ h9 => h9) rfl d_C_wall_94 ?_
                    refine lv_iload_n hx hb d_C_wall_97 rfl (lv_at hl 2 rfl) ?_
                    refine lv_iload_n hx hb d_C_wall_98 rfl (lv_at hl 3 rfl) ?_
                    refine lv_iload_n hx hb d_C_wall_99 rfl (lv_at hl 4 rfl) ?_
                    refine lv_iload hx hb d_C_wall_100 (lv_at hl 5 rfl) ?_
                    refine lv_iload hx hb d_C_wall_102 (lv_at hl 6 rfl) ?_
                    refine lv_iload hx hb d_C_wall_104 (lv_at hl 7 rfl) ?_
                    refine cW (W.runV (As := [.int x1, .int x2, .int x3, .int x4, .int x5, .int x6]) (rest := []) ⟨hx, hb, hml, hown, hts⟩ (c_W_writeNext hP hdD (eK 2 (by decide)) hs17 _ _ _ _ _ _) (cwV 6 hts (wB_goodV (fun _ h => h) ml_C_98 im_W_writeNext se_W_writeNext ini_W co_W_writeNext) rfl rfl rfl (by decide +kernel) ⟨Nat.le_of_ble_eq_true rfl, Nat.le_of_ble_eq_true rfl⟩) (pV hK hP (ci := 5) (q0 := 3) rfl rfl _) rfl rfl hl.1 rfl (lv_room (Nat.le_of_ble_eq_true rfl)) d_C_wall_106 ⟨Nat.zero_le _, Nat.zero_le _⟩) hS (fun _ h => h) (fun H locs hP hS _ _ => ?_)
                    have hP : va_P (dC, dI) classes (wC aa cI cZ kn (nwV vv (nn 2) x1 x2 x3 x4 x5 x6)) H := hP
                    have hD : va_D (aN aa 22) (wC aa cI cZ kn (nwV vv (nn 2) x1 x2 x3 x4 x5 x6)) := wC_D (dD_aN hdD)
                    refine lv_aload_n hx hb d_C_wall_109 rfl (lv_at hl 1 rfl) ?_
                    refine lv_iconst (v := 2) hx hb d_C_wall_110 (by decide) ?_
                    refine lv_iload hx hb d_C_wall_111 (lv_at hl 0 rfl) ?_
                    refine lv_iconst (v := 1) hx hb d_C_wall_113 (by decide) ?_
                    refine lv_iconst (v := 0) hx hb d_C_wall_114 (by decide) ?_
                    refine cW (W.runV (As := [.int 2, .int (nI (nn 2)), .int 1, .int 0]) (rest := []) ⟨hx, hb, hml, hown, hts⟩ (c_C_perform hP hdD (d := nn 4) (eK 4 (by decide)) hd4 _ _ _ _ (okA_0 (Or.inr (Or.inr rfl)))) (cwV 4 hts (wB_goodV (fun _ h => h) ml_C_66 im_C_perform se_C_perform ini_C co_C_perform) rfl rfl rfl (by decide +kernel) ⟨Nat.le_of_ble_eq_true rfl, Nat.le_of_ble_eq_true rfl⟩) (pV hK hP (ci := 0) (q0 := 0) rfl rfl _) rfl rfl hl.1 rfl (lv_room (Nat.le_of_ble_eq_true rfl)) d_C_wall_115 ⟨Nat.zero_le _, Nat.zero_le _⟩) hS (fun _ h => h) (fun H locs hP hS _ _ => ?_)
                    have hP : va_P (dC, dI) classes (wC aa cI cZ (pfK kn (nwV vv (nn 2) x1 x2 x3 x4 x5 x6) (nn 4) 2 (nI (nn 2)) 1 0) (pfV (nwV vv (nn 2) x1 x2 x3 x4 x5 x6) (nn 4) 2 (nI (nn 2)) 1 0)) H := hP
                    have hD : va_D (aN aa 22) (wC aa cI cZ (pfK kn (nwV vv (nn 2) x1 x2 x3 x4 x5 x6) (nn 4) 2 (nI (nn 2)) 1 0) (pfV (nwV vv (nn 2) x1 x2 x3 x4 x5 x6) (nn 4) 2 (nI (nn 2)) 1 0)) := wC_D (dD_aN hdD)
                    refine lv_iload hx hb d_C_wall_118 (lv_at hl 0 rfl) ?_
                    have ek : (kAct (haB (kn 0) x1 && haB (kn 1) x2 && plB x3.toInt64 x4.toInt64 && plB x5.toInt64 x6.toInt64 && (decide (x3 = x5) != decide (x4 = x6))) (decide (nn 2 < 40)) (nn 4)) = 0 := by rw [kAct, h_2, h_7, h_15, h_24, h_50]; simp [hs17, hroom]
                    have er : ((some (.int (nI (nn 2)))) : Option Value) = some (.int (nI (nn 2))) := by rfl
                    have hPe : va_P (dC, dI) classes (wC aa cI cZ (pfK kn (nwV vv (nn 2) x1 x2 x3 x4 x5 x6) (nn 4) 2 (nI (nn 2)) 1 0) (pfV (nwV vv (nn 2) x1 x2 x3 x4 x5 x6) (nn 4) 2 (nI (nn 2)) 1 0)) H := by exact hP
                    refine vx_ret ?_
                    refine W.widen (k := 1) (n := 6) (Nat.zero_le _) (Nat.zero_le _) ?_
                    exact W.iret (v := (nI (nn 2))) hx hb hr (fun t ht hW => ⟨ek, by rw [er], by rw [ht]; exact hPe, hS.F ht⟩) hS.2.2 d_C_wall_120
                  · have h_90 : decide ((nn 4) < 200) = false := by simpa using h_90
                    have ek : (kAct (haB (kn 0) x1 && haB (kn 1) x2 && plB x3.toInt64 x4.toInt64 && plB x5.toInt64 x6.toInt64 && (decide (x3 = x5) != decide (x4 = x6))) (decide (nn 2 < 40)) (nn 4)) = 2 := by rw [kAct, h_2, h_7, h_15, h_24, h_50]; simp [hs17]; simpa using h_90
                    refine cX (vx_runV (As := []) (rest := []) ⟨hx, hb, hml, hown, hts⟩ (c_C_checkRoomForAct_no hlt hP (eK 4 (by decide)) (show nn 4 < 2 ^ 31 by omega)  h_90) (cwV 0 hts (wB_goodV (fun _ h => h) ml_C_59 im_C_checkRoomForAct se_C_checkRoomForAct ini_C co_C_checkRoomForAct) rfl rfl rfl (by decide +kernel) ⟨Nat.le_of_ble_eq_true rfl, Nat.le_of_ble_eq_true rfl⟩) (pVT hK hT hS hP (ci := 0) (q0 := 0) rfl rfl _) rfl rfl hl.1 rfl (lv_room (Nat.le_of_ble_eq_true rfl)) d_C_wall_90 ⟨Nat.le_of_ble_eq_true rfl, Nat.le_of_ble_eq_true rfl⟩) (fun ce q9 H1 locs1 hz hkp hlo hce hcv hcl => ?_)
                    exact vx_out (fun x h => (hexc x h).elim) hlocks hce hcv hcl (fun t ht hal => ⟨Or.inr ⟨ek, rfl⟩, by rw [ht]; exact hz, fun q hq _ => by rw [ht]; exact hkp q hq⟩) (fun z hz9 => by cases hlo z hz9) (Nat.le_of_ble_eq_true rfl) (Nat.le_of_ble_eq_true rfl)
                · have hs17 : ¬ nn 2 < 40 := fun h => c_76 ((nI_ltI (by omega) (by decide)).mpr h)
                  have ek : (kAct (haB (kn 0) x1 && haB (kn 1) x2 && plB x3.toInt64 x4.toInt64 && plB x5.toInt64 x6.toInt64 && (decide (x3 = x5) != decide (x4 = x6))) (decide (nn 2 < 40)) (nn 4)) = 2 := by rw [kAct, h_2, h_7, h_15, h_24, h_50]; simp [hs17]
                  exact thIS hx hb hlt hown hts hT hS (hl.1.trans hml.symm) (is := 96) (List.mem_of_getElem? (i := 10) rfl) d_C_wall_79 d_C_wall_82 d_C_wall_83 d_C_wall_85 d_C_wall_88 hexc (Nat.le_of_ble_eq_true rfl) (Nat.le_of_ble_eq_true rfl) (Nat.le_of_ble_eq_true rfl) (Nat.le_of_ble_eq_true rfl) hlocks (fun t hal hz hkp => ⟨Or.inr ⟨ek, rfl⟩, hz, fun q hq _ => hkp q hq⟩) (fun z hz => by cases hz) (Nat.le_of_ble_eq_true rfl) (Nat.le_of_ble_eq_true rfl)
              · exact absurd c_50 (by decide)
          · refine lv_iconst (v := 1) hx hb d_C_wall_33 (by decide) ?_
            refine lv_goto (tgt := 38) hx hb d_C_wall_34 (by decide) ?_
            refine lv_iload hx hb d_C_wall_38 (lv_at hl 4 rfl) ?_
            refine lv_iload hx hb d_C_wall_40 (lv_at hl 6 rfl) ?_
            refine lv_icmp_ne (tgt := 49) hx hb d_C_wall_42 (by decide) (fun c_42 => ?_) (fun c_42 => ?_)
            · refine lv_iconst (v := 0) hx hb d_C_wall_49 (by decide) ?_
              refine lv_icmp_ne (tgt := 63) hx hb d_C_wall_50 (by decide) (fun c_50 => ?_) (fun c_50 => ?_)
              · have h_50 : (decide (x3 = x5) != decide (x4 = x6)) = true := by simp [c_30, c_42]
                refine lv_aload_n hx hb d_C_wall_63 rfl (lv_at hl 0 rfl) ?_
                refine va_get (D := (dC, dI)) (ci := 0) (v := .ref (aa 3)) (C := R_C) (T := F_C) (N := 5) hx hb hts i_C hown hK hP 0 rfl rfl 2 (by decide) (hts _ fl_C_26) (fun _ h9 => h9) rfl d_C_wall_64 ?_
                refine va_get (D := (dC, dI)) (ci := 5) (v := .int (nI (nn 2))) (C := R_W) (T := F_W) (N := 8) hx hb hts i_W hown hK hP 3 rfl rfl 7 (by decide) (hts _ fl_C_95) (fun _ h9 => h9) (by rw [← (eK 2 (by decide))]; rfl) d_C_wall_67 ?_
                refine lv_istore (lv' := [(7, .int (nI (nn 2))), (0, .ref (aa 0)), (1, .int x1), (2, .int x2), (3, .int x3), (4, .int x4), (5, .int x5), (6, .int x6)]) hx hb d_C_wall_70 hl (by decide) rfl (fun ls hl => ?_)
                refine lv_iload hx hb d_C_wall_72 (lv_at hl 0 rfl) ?_
                refine lv_bipush (v := 40) hx hb d_C_wall_74 (by decide) ?_
                refine lv_icmp_lt (tgt := 89) hx hb d_C_wall_76 (by decide) (fun c_76 => ?_) (fun c_76 => ?_)
                · have hs17 : nn 2 < 40 := (nI_ltI (by omega) (by decide)).mp c_76
                  refine lv_aload_n hx hb d_C_wall_89 rfl (lv_at hl 1 rfl) ?_
                  by_cases h_90 : decide ((nn 4) < 200) = true
                  · refine cV (W.runV (As := []) (rest := []) ⟨hx, hb, hml, hown, hts⟩ (c_C_checkRoomForAct_ok hP (eK 4 (by decide)) (show nn 4 < 2 ^ 31 by omega)  h_90) (cwV 0 hts (wB_goodV (fun _ h => h) ml_C_59 im_C_checkRoomForAct se_C_checkRoomForAct ini_C co_C_checkRoomForAct) rfl rfl rfl (by decide +kernel) ⟨Nat.le_of_ble_eq_true rfl, Nat.le_of_ble_eq_true rfl⟩) (pV hK hP (ci := 0) (q0 := 0) rfl rfl _) rfl rfl hl.1 rfl (lv_room (Nat.le_of_ble_eq_true rfl)) d_C_wall_90 ⟨Nat.le_of_ble_eq_true rfl, Nat.le_of_ble_eq_true rfl⟩) ?_
                    have hd4 : nn 4 < 200 := by simpa using h_90
                    have hroom : ¬ 200 ≤ nn 4 := by omega
                    refine lv_aload_n hx hb d_C_wall_93 rfl (lv_at hl 1 rfl) ?_
                    refine va_get (D := (dC, dI)) (ci := 0) (v := .ref (aa 3)) (C := R_C) (T := F_C) (N := 5) hx hb hts i_C hown hK hP 0 rfl rfl 2 (by decide) (hts _ fl_C_26) (fun _ h9 => h9) rfl d_C_wall_94 ?_
                    refine lv_iload_n hx hb d_C_wall_97 rfl (lv_at hl 2 rfl) ?_
                    refine lv_iload_n hx hb d_C_wall_98 rfl (lv_at hl 3 rfl) ?_
                    refine lv_iload_n hx hb d_C_wall_99 rfl (lv_at hl 4 rfl) ?_
                    refine lv_iload hx hb d_C_wall_100 (lv_at hl 5 rfl) ?_
                    refine lv_iload hx hb d_C_wall_102 (lv_at hl 6 rfl) ?_
                    refine lv_iload hx hb d_C_wall_104 (lv_at hl 7 rfl) ?_
                    refine cW (W.runV (As := [.int x1, .int x2, .int x3, .int x4, .int x5, .int x6]) (rest := []) ⟨hx, hb, hml, hown, hts⟩ (c_W_writeNext hP hdD (eK 2 (by decide)) hs17 _ _ _ _ _ _) (cwV 6 hts (wB_goodV (fun _ h => h) ml_C_98 im_W_writeNext se_W_writeNext ini_W co_W_writeNext) rfl rfl rfl (by decide +kernel) ⟨Nat.le_of_ble_eq_true rfl, Nat.le_of_ble_eq_true rfl⟩) (pV hK hP (ci := 5) (q0 := 3) rfl rfl _) rfl rfl hl.1 rfl (lv_room (Nat.le_of_ble_eq_true rfl)) d_C_wall_106 ⟨Nat.zero_le _, Nat.zero_le _⟩) hS (fun _ h => h) (fun H locs hP hS _ _ => ?_)
                    have hP : va_P (dC, dI) classes (wC aa cI cZ kn (nwV vv (nn 2) x1 x2 x3 x4 x5 x6)) H := hP
                    have hD : va_D (aN aa 22) (wC aa cI cZ kn (nwV vv (nn 2) x1 x2 x3 x4 x5 x6)) := wC_D (dD_aN hdD)
                    refine lv_aload_n hx hb d_C_wall_109 rfl (lv_at hl 1 rfl) ?_
                    refine lv_iconst (v := 2) hx hb d_C_wall_110 (by decide) ?_
                    refine lv_iload hx hb d_C_wall_111 (lv_at hl 0 rfl) ?_
                    refine lv_iconst (v := 1) hx hb d_C_wall_113 (by decide) ?_
                    refine lv_iconst (v := 0) hx hb d_C_wall_114 (by decide) ?_
                    refine cW (W.runV (As := [.int 2, .int (nI (nn 2)), .int 1, .int 0]) (rest := []) ⟨hx, hb, hml, hown, hts⟩ (c_C_perform hP hdD (d := nn 4) (eK 4 (by decide)) hd4 _ _ _ _ (okA_0 (Or.inr (Or.inr rfl)))) (cwV 4 hts (wB_goodV (fun _ h => h) ml_C_66 im_C_perform se_C_perform ini_C co_C_perform) rfl rfl rfl (by decide +kernel) ⟨Nat.le_of_ble_eq_true rfl, Nat.le_of_ble_eq_true rfl⟩) (pV hK hP (ci := 0) (q0 := 0) rfl rfl _) rfl rfl hl.1 rfl (lv_room (Nat.le_of_ble_eq_true rfl)) d_C_wall_115 ⟨Nat.zero_le _, Nat.zero_le _⟩) hS (fun _ h => h) (fun H locs hP hS _ _ => ?_)
                    have hP : va_P (dC, dI) classes (wC aa cI cZ (pfK kn (nwV vv (nn 2) x1 x2 x3 x4 x5 x6) (nn 4) 2 (nI (nn 2)) 1 0) (pfV (nwV vv (nn 2) x1 x2 x3 x4 x5 x6) (nn 4) 2 (nI (nn 2)) 1 0)) H := hP
                    have hD : va_D (aN aa 22) (wC aa cI cZ (pfK kn (nwV vv (nn 2) x1 x2 x3 x4 x5 x6) (nn 4) 2 (nI (nn 2)) 1 0) (pfV (nwV vv (nn 2) x1 x2 x3 x4 x5 x6) (nn 4) 2 (nI (nn 2)) 1 0)) := wC_D (dD_aN hdD)
                    refine lv_iload hx hb d_C_wall_118 (lv_at hl 0 rfl) ?_
                    have ek : (kAct (haB (kn 0) x1 && haB (kn 1) x2 && plB x3.toInt64 x4.toInt64 && plB x5.toInt64 x6.toInt64 && (decide (x3 = x5) != decide (x4 = x6))) (decide (nn 2 < 40)) (nn 4)) = 0 := by rw [kAct, h_2, h_7, h_15, h_24, h_50]; simp [hs17, hroom]
                    have er : ((some (.int (nI (nn 2)))) : Option Value) = some (.int (nI (nn 2))) := by rfl
                    have hPe : va_P (dC, dI) classes (wC aa cI cZ (pfK kn (nwV vv (nn 2) x1 x2 x3 x4 x5 x6) (nn 4) 2 (nI (nn 2)) 1 0) (pfV (nwV vv (nn 2) x1 x2 x3 x4 x5 x6) (nn 4) 2 (nI (nn 2)) 1 0)) H := by exact hP
                    refine vx_ret ?_
                    refine W.widen (k := 1) (n := 6) (Nat.zero_le _) (Nat.zero_le _) ?_
                    exact W.iret (v := (nI (nn 2))) hx hb hr (fun t ht hW => ⟨ek, by rw [er], by rw [ht]; exact hPe, hS.F ht⟩) hS.2.2 d_C_wall_120
                  · have h_90 : decide ((nn 4) < 200) = false := by simpa using h_90
                    have ek : (kAct (haB (kn 0) x1 && haB (kn 1) x2 && plB x3.toInt64 x4.toInt64 && plB x5.toInt64 x6.toInt64 && (decide (x3 = x5) != decide (x4 = x6))) (decide (nn 2 < 40)) (nn 4)) = 2 := by rw [kAct, h_2, h_7, h_15, h_24, h_50]; simp [hs17]; simpa using h_90
                    refine cX (vx_runV (As := []) (rest := []) ⟨hx, hb, hml, hown, hts⟩ (c_C_checkRoomForAct_no hlt hP (eK 4 (by decide)) (show nn 4 < 2 ^ 31 by omega)  h_90) (cwV 0 hts (wB_goodV (fun _ h => h) ml_C_59 im_C_checkRoomForAct se_C_checkRoomForAct ini_C co_C_checkRoomForAct) rfl rfl rfl (by decide +kernel) ⟨Nat.le_of_ble_eq_true rfl, Nat.le_of_ble_eq_true rfl⟩) (pVT hK hT hS hP (ci := 0) (q0 := 0) rfl rfl _) rfl rfl hl.1 rfl (lv_room (Nat.le_of_ble_eq_true rfl)) d_C_wall_90 ⟨Nat.le_of_ble_eq_true rfl, Nat.le_of_ble_eq_true rfl⟩) (fun ce q9 H1 locs1 hz hkp hlo hce hcv hcl => ?_)
                    exact vx_out (fun x h => (hexc x h).elim) hlocks hce hcv hcl (fun t ht hal => ⟨Or.inr ⟨ek, rfl⟩, by rw [ht]; exact hz, fun q hq _ => by rw [ht]; exact hkp q hq⟩) (fun z hz9 => by cases hlo z hz9) (Nat.le_of_ble_eq_true rfl) (Nat.le_of_ble_eq_true rfl)
                · have hs17 : ¬ nn 2 < 40 := fun h => c_76 ((nI_ltI (by omega) (by decide)).mpr h)
                  have ek : (kAct (haB (kn 0) x1 && haB (kn 1) x2 && plB x3.toInt64 x4.toInt64 && plB x5.toInt64 x6.toInt64 && (decide (x3 = x5) != decide (x4 = x6))) (decide (nn 2 < 40)) (nn 4)) = 2 := by rw [kAct, h_2, h_7, h_15, h_24, h_50]; simp [hs17]
                  exact thIS hx hb hlt hown hts hT hS (hl.1.trans hml.symm) (is := 96) (List.mem_of_getElem? (i := 10) rfl) d_C_wall_79 d_C_wall_82 d_C_wall_83 d_C_wall_85 d_C_wall_88 hexc (Nat.le_of_ble_eq_true rfl) (Nat.le_of_ble_eq_true rfl) (Nat.le_of_ble_eq_true rfl) (Nat.le_of_ble_eq_true rfl) hlocks (fun t hal hz hkp => ⟨Or.inr ⟨ek, rfl⟩, hz, fun q hq _ => hkp q hq⟩) (fun z hz => by cases hz) (Nat.le_of_ble_eq_true rfl) (Nat.le_of_ble_eq_true rfl)
              · exact absurd c_50 (by decide)
            · refine lv_iconst (v := 1) hx hb d_C_wall_45 (by decide) ?_
              refine lv_goto (tgt := 50) hx hb d_C_wall_46 (by decide) ?_
              refine lv_icmp_ne (tgt := 63) hx hb d_C_wall_50 (by decide) (fun c_50 => ?_) (fun c_50 => ?_)
              · exact absurd c_50 (by decide)
              · have h_50 : (decide (x3 = x5) != decide (x4 = x6)) = false := by simp [c_30, c_42]
                have ek : (kAct (haB (kn 0) x1 && haB (kn 1) x2 && plB x3.toInt64 x4.toInt64 && plB x5.toInt64 x6.toInt64 && (decide (x3 = x5) != decide (x4 = x6))) (decide (nn 2 < 40)) (nn 4)) = 1 := by rw [kAct, h_2, h_7, h_15, h_24, h_50]; rfl
                exact thIA hx hb hlt hown hts hT hS (hl.1.trans hml.symm) (is := 92) (List.mem_of_getElem? (i := 9) rfl) d_C_wall_53 d_C_wall_56 d_C_wall_57 d_C_wall_59 d_C_wall_62 hexc (Nat.le_of_ble_eq_true rfl) (Nat.le_of_ble_eq_true rfl) (Nat.le_of_ble_eq_true rfl) (Nat.le_of_ble_eq_true rfl) hlocks (fun t hal hz hkp => ⟨Or.inl ⟨ek, rfl⟩, hz, fun q hq _ => hkp q hq⟩) (fun z hz => by cases hz) (Nat.le_of_ble_eq_true rfl) (Nat.le_of_ble_eq_true rfl)
        · have h_24 : plB (x5.toInt64) (x6.toInt64) = false := by simpa using h_24
          have ek : (kAct (haB (kn 0) x1 && haB (kn 1) x2 && plB x3.toInt64 x4.toInt64 && plB x5.toInt64 x6.toInt64 && (decide (x3 = x5) != decide (x4 = x6))) (decide (nn 2 < 40)) (nn 4)) = 1 := by simp [kAct, h_2, h_7, h_15, h_24]
          refine cX (vx_runS (As := [.long (x5.toInt64), .long (x6.toInt64)]) (rest := []) ⟨hx, hb, hml, hown, hts⟩ (c_C_checkPlace_no hlt   (x5.toInt64) (x6.toInt64) h_24) (cwS 2 hts (wB_goodS (fun _ h => h) ml_C_86 st_C_checkPlace ini_C co_C_checkPlace) rfl rfl rfl (by decide +kernel) ⟨Nat.le_of_ble_eq_true rfl, Nat.le_of_ble_eq_true rfl⟩) (pST hK hT hS _) rfl rfl hl.1 rfl (lv_room (Nat.le_of_ble_eq_true rfl)) d_C_wall_24 ⟨Nat.le_of_ble_eq_true rfl, Nat.le_of_ble_eq_true rfl⟩) (fun ce q9 H1 locs1 hz hkp hlo hce hcv hcl => ?_)
          exact vx_out (fun x h => (hexc x h).elim) hlocks hce hcv hcl (fun t ht hal => ⟨Or.inl ⟨ek, rfl⟩, by rw [ht]; exact hz, fun q hq _ => by rw [ht]; exact hkp q hq⟩) (fun z hz9 => by cases hlo z hz9) (Nat.le_of_ble_eq_true rfl) (Nat.le_of_ble_eq_true rfl)
      · have h_15 : plB (x3.toInt64) (x4.toInt64) = false := by simpa using h_15
        have ek : (kAct (haB (kn 0) x1 && haB (kn 1) x2 && plB x3.toInt64 x4.toInt64 && plB x5.toInt64 x6.toInt64 && (decide (x3 = x5) != decide (x4 = x6))) (decide (nn 2 < 40)) (nn 4)) = 1 := by simp [kAct, h_2, h_7, h_15]
        refine cX (vx_runS (As := [.long (x3.toInt64), .long (x4.toInt64)]) (rest := []) ⟨hx, hb, hml, hown, hts⟩ (c_C_checkPlace_no hlt   (x3.toInt64) (x4.toInt64) h_15) (cwS 2 hts (wB_goodS (fun _ h => h) ml_C_86 st_C_checkPlace ini_C co_C_checkPlace) rfl rfl rfl (by decide +kernel) ⟨Nat.le_of_ble_eq_true rfl, Nat.le_of_ble_eq_true rfl⟩) (pST hK hT hS _) rfl rfl hl.1 rfl (lv_room (Nat.le_of_ble_eq_true rfl)) d_C_wall_15 ⟨Nat.le_of_ble_eq_true rfl, Nat.le_of_ble_eq_true rfl⟩) (fun ce q9 H1 locs1 hz hkp hlo hce hcv hcl => ?_)
        exact vx_out (fun x h => (hexc x h).elim) hlocks hce hcv hcl (fun t ht hal => ⟨Or.inl ⟨ek, rfl⟩, by rw [ht]; exact hz, fun q hq _ => by rw [ht]; exact hkp q hq⟩) (fun z hz9 => by cases hlo z hz9) (Nat.le_of_ble_eq_true rfl) (Nat.le_of_ble_eq_true rfl)
    · have h_7 : haB (kn 1) x2 = false := by simpa using h_7
      have ek : (kAct (haB (kn 0) x1 && haB (kn 1) x2 && plB x3.toInt64 x4.toInt64 && plB x5.toInt64 x6.toInt64 && (decide (x3 = x5) != decide (x4 = x6))) (decide (nn 2 < 40)) (nn 4)) = 1 := by simp [kAct, h_2, h_7]
      refine cX (vx_runV (As := [.int x2]) (rest := []) ⟨hx, hb, hml, hown, hts⟩ (c_C_checkType_no hlt hP  x2 h_7) (cwV 1 hts (wB_goodV (fun _ h => h) ml_C_83 im_C_checkType se_C_checkType ini_C co_C_checkType) rfl rfl rfl (by decide +kernel) ⟨Nat.le_of_ble_eq_true rfl, Nat.le_of_ble_eq_true rfl⟩) (pVT hK hT hS hP (ci := 0) (q0 := 0) rfl rfl _) rfl rfl hl.1 rfl (lv_room (Nat.le_of_ble_eq_true rfl)) d_C_wall_7 ⟨Nat.le_of_ble_eq_true rfl, Nat.le_of_ble_eq_true rfl⟩) (fun ce q9 H1 locs1 hz hkp hlo hce hcv hcl => ?_)
      exact vx_out (fun x h => (hexc x h).elim) hlocks hce hcv hcl (fun t ht hal => ⟨Or.inl ⟨ek, rfl⟩, by rw [ht]; exact hz, fun q hq _ => by rw [ht]; exact hkp q hq⟩) (fun z hz9 => by cases hlo z hz9) (Nat.le_of_ble_eq_true rfl) (Nat.le_of_ble_eq_true rfl)
  · have h_2 : haB (kn 0) x1 = false := by simpa using h_2
    have ek : (kAct (haB (kn 0) x1 && haB (kn 1) x2 && plB x3.toInt64 x4.toInt64 && plB x5.toInt64 x6.toInt64 && (decide (x3 = x5) != decide (x4 = x6))) (decide (nn 2 < 40)) (nn 4)) = 1 := by simp [kAct, h_2]
    refine cX (vx_runV (As := [.int x1]) (rest := []) ⟨hx, hb, hml, hown, hts⟩ (c_C_checkStorey_no hlt hP  x1 h_2) (cwV 1 hts (wB_goodV (fun _ h => h) ml_C_70 im_C_checkStorey se_C_checkStorey ini_C co_C_checkStorey) rfl rfl rfl (by decide +kernel) ⟨Nat.le_of_ble_eq_true rfl, Nat.le_of_ble_eq_true rfl⟩) (pVT hK hT hS hP (ci := 0) (q0 := 0) rfl rfl _) rfl rfl hl.1 rfl (lv_room (Nat.le_of_ble_eq_true rfl)) d_C_wall_2 ⟨Nat.le_of_ble_eq_true rfl, Nat.le_of_ble_eq_true rfl⟩) (fun ce q9 H1 locs1 hz hkp hlo hce hcv hcl => ?_)
    exact vx_out (fun x h => (hexc x h).elim) hlocks hce hcv hcl (fun t ht hal => ⟨Or.inl ⟨ek, rfl⟩, by rw [ht]; exact hz, fun q hq _ => by rw [ht]; exact hkp q hq⟩) (fun z hz9 => by cases hlo z hz9) (Nat.le_of_ble_eq_true rfl) (Nat.le_of_ble_eq_true rfl)
end
