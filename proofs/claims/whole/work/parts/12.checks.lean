section
variable {l : Launch} {dC : Nat → ClassId} {dI : Nat → Nat → Nat} {H : Heap} {aa : Nat → Nat} {cI cZ cJ : ClassId} {kn : Nat → Int32} {vv : Nat → Nat → Int32} {nn : Nat → Nat} {AX : Nat → Prop}
set_option maxRecDepth 100000 in
set_option maxHeartbeats 4000000 in
theorem c_C_perform (hP : va_P (dC, dI) classes (wC aa cI cZ kn vv) H) (hdD : dD noT aa 22) {d : Nat} (e4 : kn 4 = nI d) (hd : d < 200) (x y z u : Int32) (hA : okA (hwV vv d x y z u) d) : Met l y_C_perform (wB y_C_perform b_C_perform 5 none) ({ frames := 3, cells := 0, slots := 0, locals := 69 } : Room) (rP [.ref (aa 0), .int x, .int y, .int z, .int u] H (kK dC dI cI cZ cJ)) (qW none (aN aa 22) (fun H1 => va_P (dC, dI) classes (wC aa cI cZ (pfK kn vv d x y z u) (pfV vv d x y z u)) H1)) 0 0 (aN aa 22) := by
  refine Met.ofW (cc := b_C_perform) (maxL := 5) (ret := none) (by decide) rfl ?_
  intro p e s m args below meth c s₁ B hml hv
  obtain ⟨rfl, rfl, hK⟩ := hv
  have hx := B.exec
  have hb := B.bytes
  have hr := B.returns
  have hts0 := atoms_spec (ws := (wB y_C_perform b_C_perform 5 none)) B.pre
  have hts : ∀ w9 ∈ BG, w9.before [.ref (aa 0), .int x, .int y, .int z, .int u].toArray s = true := fun w9 hw9 => hts0 w9 (List.mem_cons_of_mem _ hw9)
  have hown : s.vm.findClass R_C = some m.cls := findClass_of_methodNamed B.named
  have hlocks := B.notSynchronized
  have hK : va_K (dC, dI) classes [(cI, .int), (cZ, .boolean), (cJ, .long)] s := hK
  have hD : va_D (aN aa 22) (wC aa cI cZ kn vv) := wC_D (dD_aN hdD)
  have hS : va_S (aN aa 22) s.heap s.heap [] := va_S.rf
  have hl := lv_entry ([.ref (aa 0), .int x, .int y, .int z, .int u]) (n := 5) (Nat.le_of_ble_eq_true rfl)
  rw [lg_entry_eq]
  generalize (lg_sl ([.ref (aa 0), .int x, .int y, .int z, .int u]) ++ List.replicate (5 - (lg_sl ([.ref (aa 0), .int x, .int y, .int z, .int u])).length) Slot.unset).toArray = ls at hl ⊢
  have hl : lv_has ls 5 [(0, .ref (aa 0)), (1, .int x), (2, .int y), (3, .int z), (4, .int u)] := hl
  refine lv_aload_n hx hb d_C_perform_0 rfl (lv_at hl 0 rfl) ?_
  refine va_get (D := (dC, dI)) (ci := 0) (v := .ref (aa 5)) (C := R_C) (T := F_C) (N := 5) hx hb hts i_C hown hK hP 0 rfl rfl 4 (by decide) (hts _ fl_C_40) (fun _ h9 => h9) rfl d_C_perform_1 ?_
  refine lv_iload_n hx hb d_C_perform_4 rfl (lv_at hl 1 rfl) ?_
  refine lv_iload_n hx hb d_C_perform_5 rfl (lv_at hl 2 rfl) ?_
  refine lv_iload_n hx hb d_C_perform_6 rfl (lv_at hl 3 rfl) ?_
  refine lv_iload hx hb d_C_perform_7 (lv_at hl 4 rfl) ?_
  refine cW (W.runV (As := [.int x, .int y, .int z, .int u]) (rest := []) ⟨hx, hb, hml, hown, hts⟩ (c_H_write hP hdD e4 hd x y z u) (cwV 4 hts (wB_goodV (fun _ h => h) ml_C_251 im_H_write se_H_write ini_H co_H_write) rfl rfl rfl (by decide +kernel) ⟨Nat.le_of_ble_eq_true rfl, Nat.le_of_ble_eq_true rfl⟩) (pV hK hP (ci := 1) (q0 := 5) rfl rfl _) rfl rfl hl.1 rfl (lv_room (Nat.le_of_ble_eq_true rfl)) d_C_perform_9 ⟨Nat.zero_le _, Nat.zero_le _⟩) hS (fun _ h => h) (fun H locs hP hS _ _ => ?_)
  have hP : va_P (dC, dI) classes (wC aa cI cZ (va_up kn 5 (nI d + 1)) (hwV vv d x y z u)) H := hP
  have hD : va_D (aN aa 22) (wC aa cI cZ (va_up kn 5 (nI d + 1)) (hwV vv d x y z u)) := wC_D (dD_aN hdD)
  refine lv_aload_n hx hb d_C_perform_12 rfl (lv_at hl 0 rfl) ?_
  refine cW (W.runV (As := []) (rest := []) ⟨hx, hb, hml, hown, hts⟩ (c_C_goForward hP hdD (d := d) (show va_up kn 5 (nI d + 1) 4 = nI d from e4) hd hA) (cwV 0 hts (wB_goodV (fun _ h => h) ml_C_159 im_C_goForward se_C_goForward ini_C co_C_goForward) rfl rfl rfl (by decide +kernel) ⟨Nat.le_of_ble_eq_true rfl, Nat.le_of_ble_eq_true rfl⟩) (pV hK hP (ci := 0) (q0 := 0) rfl rfl _) rfl rfl hl.1 rfl (lv_room (Nat.le_of_ble_eq_true rfl)) d_C_perform_13 ⟨Nat.zero_le _, Nat.zero_le _⟩) hS (fun _ h => h) (fun H locs hP hS _ _ => ?_)
  have hP : va_P (dC, dI) classes (wC aa cI cZ (va_up (stK (va_up kn 5 (nI d + 1)) (hwV vv d x y z u) d 1) 4 (stK (va_up kn 5 (nI d + 1)) (hwV vv d x y z u) d 1 4 + 1)) (stV (hwV vv d x y z u) d 1)) H := hP
  have hD : va_D (aN aa 22) (wC aa cI cZ (va_up (stK (va_up kn 5 (nI d + 1)) (hwV vv d x y z u) d 1) 4 (stK (va_up kn 5 (nI d + 1)) (hwV vv d x y z u) d 1 4 + 1)) (stV (hwV vv d x y z u) d 1)) := wC_D (dD_aN hdD)
  have er : (none : Option Value) = none := by rfl
  have hPe : va_P (dC, dI) classes (wC aa cI cZ (pfK kn vv d x y z u) (pfV vv d x y z u)) H := by exact hP
  exact W.vret hx hb hr (fun t ht hW => ⟨by rw [er], by rw [ht]; exact hPe, hS.F ht⟩) hS.2.2 d_C_perform_16
set_option maxRecDepth 100000 in
set_option maxHeartbeats 4000000 in
theorem c_C_checkStorey_ok (hP : va_P (dC, dI) classes (wC aa cI cZ kn vv) H) (x : Int32) (hc : haB (kn 0) x = true) : Met l y_C_checkStorey (wB y_C_checkStorey b_C_checkStorey 2 none) ({ frames := 1, cells := 0, slots := 0, locals := 21 } : Room) (rP [.ref (aa 0), .int x] H (kK dC dI cI cZ cJ)) QcVoid 0 0 noA := by
  refine Met.ofW (cc := b_C_checkStorey) (maxL := 2) (ret := none) (by decide) rfl ?_
  intro p e s m args below meth c s₁ B hml hv
  obtain ⟨rfl, rfl, hK⟩ := hv
  have hx := B.exec
  have hb := B.bytes
  have hr := B.returns
  have hts0 := atoms_spec (ws := (wB y_C_checkStorey b_C_checkStorey 2 none)) B.pre
  have hts : ∀ w9 ∈ BG, w9.before [.ref (aa 0), .int x].toArray s = true := fun w9 hw9 => hts0 w9 (List.mem_cons_of_mem _ hw9)
  have hown : s.vm.findClass R_C = some m.cls := findClass_of_methodNamed B.named
  have hlocks := B.notSynchronized
  have hK : va_K (dC, dI) classes [(cI, .int), (cZ, .boolean), (cJ, .long)] s := hK
  have hl := lv_entry ([.ref (aa 0), .int x]) (n := 2) (Nat.le_of_ble_eq_true rfl)
  rw [lg_entry_eq]
  generalize (lg_sl ([.ref (aa 0), .int x]) ++ List.replicate (2 - (lg_sl ([.ref (aa 0), .int x])).length) Slot.unset).toArray = ls at hl ⊢
  have hl : lv_has ls 2 [(0, .ref (aa 0)), (1, .int x)] := hl
  refine lv_aload_n hx hb d_C_checkStorey_0 rfl (lv_at hl 0 rfl) ?_
  refine va_get (D := (dC, dI)) (ci := 0) (v := .ref (aa 1)) (C := R_C) (T := F_C) (N := 5) hx hb hts i_C hown hK hP 0 rfl rfl 0 (by decide) (hts _ fl_C_10) (fun _ h9 => h9) rfl d_C_checkStorey_1 ?_
  refine lv_iload_n hx hb d_C_checkStorey_4 rfl (lv_at hl 1 rfl) ?_
  refine cR (W.runV (As := [.int x]) (rest := []) ⟨hx, hb, hml, hown, hts⟩ (c_S_has hP x) (cwV 1 hts (wB_goodV (fun _ h => h) ml_C_226 im_S_has se_S_has ini_S co_S_has) rfl rfl rfl (by decide +kernel) ⟨Nat.le_of_ble_eq_true rfl, Nat.le_of_ble_eq_true rfl⟩) (pV hK hP (ci := 3) (q0 := 1) rfl rfl _) rfl rfl hl.1 rfl (lv_room (Nat.le_of_ble_eq_true rfl)) d_C_checkStorey_5 ⟨Nat.zero_le _, Nat.zero_le _⟩) ?_
  refine lv_if_ne (tgt := 21) hx hb d_C_checkStorey_8 (by decide) (fun c_8 => ?_) (fun c_8 => ?_)
  · exact W.vret hx hb hr (fun t ht hW => ⟨rfl, ht⟩) (fun q h => by cases h) d_C_checkStorey_21
  · exact absurd hc (by rw [show haB (kn 0) x = false from bI_0.mp (by simpa using c_8)]; decide)
set_option maxRecDepth 100000 in
set_option maxHeartbeats 4000000 in
theorem c_C_checkStorey_no (hlt : l.stackTraces = false) (hP : va_P (dC, dI) classes (wC aa cI cZ kn vv) H) (x : Int32) (hc : haB (kn 0) x = false) : vx_Met l y_C_checkStorey (wB y_C_checkStorey b_C_checkStorey 2 none) ({ frames := 6, cells := 1, slots := 6, locals := 90 } : Room) (rP [.ref (aa 0), .int x] H (kT dC dI cI cZ cJ AX)) QcNo (xE eIA) 1 6 noA := by
  refine vx_ofW (cc := b_C_checkStorey) (maxL := 2) (ret := none) (by decide) rfl ?_
  intro p e s m args below meth c s₁ B hml hexc hv
  obtain ⟨rfl, rfl, hK, hT⟩ := hv
  have hx := B.exec
  have hb := B.bytes
  have hr := B.returns
  have hts0 := atoms_spec (ws := (wB y_C_checkStorey b_C_checkStorey 2 none)) B.pre
  have hts : ∀ w9 ∈ BG, w9.before [.ref (aa 0), .int x].toArray s = true := fun w9 hw9 => hts0 w9 (List.mem_cons_of_mem _ hw9)
  have hown : s.vm.findClass R_C = some m.cls := findClass_of_methodNamed B.named
  have hlocks := B.notSynchronized
  have hK : va_K (dC, dI) classes [(cI, .int), (cZ, .boolean), (cJ, .long)] s := hK
  have hS : va_S AX s.heap s.heap [] := va_S.rf
  have hl := lv_entry ([.ref (aa 0), .int x]) (n := 2) (Nat.le_of_ble_eq_true rfl)
  rw [lg_entry_eq]
  generalize (lg_sl ([.ref (aa 0), .int x]) ++ List.replicate (2 - (lg_sl ([.ref (aa 0), .int x])).length) Slot.unset).toArray = ls at hl ⊢
  have hl : lv_has ls 2 [(0, .ref (aa 0)), (1, .int x)] := hl
  refine lv_aload_n hx hb d_C_checkStorey_0 rfl (lv_at hl 0 rfl) ?_
  refine va_get (D := (dC, dI)) (ci := 0) (v := .ref (aa 1)) (C := R_C) (T := F_C) (N := 5) hx hb hts i_C hown hK hP 0 rfl rfl 0 (by decide) (hts _ fl_C_10) (fun _ h9 => h9) rfl d_C_checkStorey_1 ?_
  refine lv_iload_n hx hb d_C_checkStorey_4 rfl (lv_at hl 1 rfl) ?_
  refine cR (W.runV (As := [.int x]) (rest := []) ⟨hx, hb, hml, hown, hts⟩ (c_S_has hP x) (cwV 1 hts (wB_goodV (fun _ h => h) ml_C_226 im_S_has se_S_has ini_S co_S_has) rfl rfl rfl (by decide +kernel) ⟨Nat.le_of_ble_eq_true rfl, Nat.le_of_ble_eq_true rfl⟩) (pV hK hP (ci := 3) (q0 := 1) rfl rfl _) rfl rfl hl.1 rfl (lv_room (Nat.le_of_ble_eq_true rfl)) d_C_checkStorey_5 ⟨Nat.zero_le _, Nat.zero_le _⟩) ?_
  refine lv_if_ne (tgt := 21) hx hb d_C_checkStorey_8 (by decide) (fun c_8 => ?_) (fun c_8 => ?_)
  · exact absurd hc (by rw [show haB (kn 0) x = true from bI_n0.mp (by simpa using c_8)]; decide)
  · exact thIA hx hb hlt hown hts hT hS (hl.1.trans hml.symm) (is := 227) (List.mem_of_getElem? (i := 4) rfl) d_C_checkStorey_11 d_C_checkStorey_14 d_C_checkStorey_15 d_C_checkStorey_17 d_C_checkStorey_20 hexc (Nat.le_of_ble_eq_true rfl) (Nat.le_of_ble_eq_true rfl) (Nat.le_of_ble_eq_true rfl) (Nat.le_of_ble_eq_true rfl) hlocks (fun t hal hz hkp => ⟨rfl, hz, fun q hq _ => hkp q hq⟩) (fun z hz => by cases hz) (Nat.le_of_ble_eq_true rfl) (Nat.le_of_ble_eq_true rfl)
set_option maxRecDepth 100000 in
set_option maxHeartbeats 4000000 in
theorem c_C_checkType_ok (hP : va_P (dC, dI) classes (wC aa cI cZ kn vv) H) (x : Int32) (hc : haB (kn 1) x = true) : Met l y_C_checkType (wB y_C_checkType b_C_checkType 2 none) ({ frames := 1, cells := 0, slots := 0, locals := 21 } : Room) (rP [.ref (aa 0), .int x] H (kK dC dI cI cZ cJ)) QcVoid 0 0 noA := by
  refine Met.ofW (cc := b_C_checkType) (maxL := 2) (ret := none) (by decide) rfl ?_
  intro p e s m args below meth c s₁ B hml hv
  obtain ⟨rfl, rfl, hK⟩ := hv
  have hx := B.exec
  have hb := B.bytes
  have hr := B.returns
  have hts0 := atoms_spec (ws := (wB y_C_checkType b_C_checkType 2 none)) B.pre
  have hts : ∀ w9 ∈ BG, w9.before [.ref (aa 0), .int x].toArray s = true := fun w9 hw9 => hts0 w9 (List.mem_cons_of_mem _ hw9)
  have hown : s.vm.findClass R_C = some m.cls := findClass_of_methodNamed B.named
  have hlocks := B.notSynchronized
  have hK : va_K (dC, dI) classes [(cI, .int), (cZ, .boolean), (cJ, .long)] s := hK
  have hl := lv_entry ([.ref (aa 0), .int x]) (n := 2) (Nat.le_of_ble_eq_true rfl)
  rw [lg_entry_eq]
  generalize (lg_sl ([.ref (aa 0), .int x]) ++ List.replicate (2 - (lg_sl ([.ref (aa 0), .int x])).length) Slot.unset).toArray = ls at hl ⊢
  have hl : lv_has ls 2 [(0, .ref (aa 0)), (1, .int x)] := hl
  refine lv_aload_n hx hb d_C_checkType_0 rfl (lv_at hl 0 rfl) ?_
  refine va_get (D := (dC, dI)) (ci := 0) (v := .ref (aa 2)) (C := R_C) (T := F_C) (N := 5) hx hb hts i_C hown hK hP 0 rfl rfl 1 (by decide) (hts _ fl_C_19) (fun _ h9 => h9) rfl d_C_checkType_1 ?_
  refine lv_iload_n hx hb d_C_checkType_4 rfl (lv_at hl 1 rfl) ?_
  refine cR (W.runV (As := [.int x]) (rest := []) ⟨hx, hb, hml, hown, hts⟩ (c_T_has hP x) (cwV 1 hts (wB_goodV (fun _ h => h) ml_C_236 im_T_has se_T_has ini_T co_T_has) rfl rfl rfl (by decide +kernel) ⟨Nat.le_of_ble_eq_true rfl, Nat.le_of_ble_eq_true rfl⟩) (pV hK hP (ci := 4) (q0 := 2) rfl rfl _) rfl rfl hl.1 rfl (lv_room (Nat.le_of_ble_eq_true rfl)) d_C_checkType_5 ⟨Nat.zero_le _, Nat.zero_le _⟩) ?_
  refine lv_if_ne (tgt := 21) hx hb d_C_checkType_8 (by decide) (fun c_8 => ?_) (fun c_8 => ?_)
  · exact W.vret hx hb hr (fun t ht hW => ⟨rfl, ht⟩) (fun q h => by cases h) d_C_checkType_21
  · exact absurd hc (by rw [show haB (kn 1) x = false from bI_0.mp (by simpa using c_8)]; decide)
set_option maxRecDepth 100000 in
set_option maxHeartbeats 4000000 in
theorem c_C_checkType_no (hlt : l.stackTraces = false) (hP : va_P (dC, dI) classes (wC aa cI cZ kn vv) H) (x : Int32) (hc : haB (kn 1) x = false) : vx_Met l y_C_checkType (wB y_C_checkType b_C_checkType 2 none) ({ frames := 6, cells := 1, slots := 6, locals := 90 } : Room) (rP [.ref (aa 0), .int x] H (kT dC dI cI cZ cJ AX)) QcNo (xE eIA) 1 6 noA := by
  refine vx_ofW (cc := b_C_checkType) (maxL := 2) (ret := none) (by decide) rfl ?_
  intro p e s m args below meth c s₁ B hml hexc hv
  obtain ⟨rfl, rfl, hK, hT⟩ := hv
  have hx := B.exec
  have hb := B.bytes
  have hr := B.returns
  have hts0 := atoms_spec (ws := (wB y_C_checkType b_C_checkType 2 none)) B.pre
  have hts : ∀ w9 ∈ BG, w9.before [.ref (aa 0), .int x].toArray s = true := fun w9 hw9 => hts0 w9 (List.mem_cons_of_mem _ hw9)
  have hown : s.vm.findClass R_C = some m.cls := findClass_of_methodNamed B.named
  have hlocks := B.notSynchronized
  have hK : va_K (dC, dI) classes [(cI, .int), (cZ, .boolean), (cJ, .long)] s := hK
  have hS : va_S AX s.heap s.heap [] := va_S.rf
  have hl := lv_entry ([.ref (aa 0), .int x]) (n := 2) (Nat.le_of_ble_eq_true rfl)
  rw [lg_entry_eq]
  generalize (lg_sl ([.ref (aa 0), .int x]) ++ List.replicate (2 - (lg_sl ([.ref (aa 0), .int x])).length) Slot.unset).toArray = ls at hl ⊢
  have hl : lv_has ls 2 [(0, .ref (aa 0)), (1, .int x)] := hl
  refine lv_aload_n hx hb d_C_checkType_0 rfl (lv_at hl 0 rfl) ?_
  refine va_get (D := (dC, dI)) (ci := 0) (v := .ref (aa 2)) (C := R_C) (T := F_C) (N := 5) hx hb hts i_C hown hK hP 0 rfl rfl 1 (by decide) (hts _ fl_C_19) (fun _ h9 => h9) rfl d_C_checkType_1 ?_
  refine lv_iload_n hx hb d_C_checkType_4 rfl (lv_at hl 1 rfl) ?_
  refine cR (W.runV (As := [.int x]) (rest := []) ⟨hx, hb, hml, hown, hts⟩ (c_T_has hP x) (cwV 1 hts (wB_goodV (fun _ h => h) ml_C_236 im_T_has se_T_has ini_T co_T_has) rfl rfl rfl (by decide +kernel) ⟨Nat.le_of_ble_eq_true rfl, Nat.le_of_ble_eq_true rfl⟩) (pV hK hP (ci := 4) (q0 := 2) rfl rfl _) rfl rfl hl.1 rfl (lv_room (Nat.le_of_ble_eq_true rfl)) d_C_checkType_5 ⟨Nat.zero_le _, Nat.zero_le _⟩) ?_
  refine lv_if_ne (tgt := 21) hx hb d_C_checkType_8 (by decide) (fun c_8 => ?_) (fun c_8 => ?_)
  · exact absurd hc (by rw [show haB (kn 1) x = true from bI_n0.mp (by simpa using c_8)]; decide)
  · exact thIA hx hb hlt hown hts hT hS (hl.1.trans hml.symm) (is := 237) (List.mem_of_getElem? (i := 7) rfl) d_C_checkType_11 d_C_checkType_14 d_C_checkType_15 d_C_checkType_17 d_C_checkType_20 hexc (Nat.le_of_ble_eq_true rfl) (Nat.le_of_ble_eq_true rfl) (Nat.le_of_ble_eq_true rfl) (Nat.le_of_ble_eq_true rfl) hlocks (fun t hal hz hkp => ⟨rfl, hz, fun q hq _ => hkp q hq⟩) (fun z hz => by cases hz) (Nat.le_of_ble_eq_true rfl) (Nat.le_of_ble_eq_true rfl)
set_option maxRecDepth 100000 in
set_option maxHeartbeats 4000000 in
theorem c_C_checkWall_ok (hP : va_P (dC, dI) classes (wC aa cI cZ kn vv) H) (hI : okC kn nn) (x : Int32) (hc : tW kn vv x = true) : Met l y_C_checkWall (wB y_C_checkWall b_C_checkWall 2 none) ({ frames := 1, cells := 0, slots := 0, locals := 21 } : Room) (rP [.ref (aa 0), .int x] H (kK dC dI cI cZ cJ)) QcVoid 0 0 noA := by
  refine Met.ofW (cc := b_C_checkWall) (maxL := 2) (ret := none) (by decide) rfl ?_
  intro p e s m args below meth c s₁ B hml hv
  obtain ⟨rfl, rfl, hK⟩ := hv
  have hx := B.exec
  have hb := B.bytes
  have hr := B.returns
  have hts0 := atoms_spec (ws := (wB y_C_checkWall b_C_checkWall 2 none)) B.pre
  have hts : ∀ w9 ∈ BG, w9.before [.ref (aa 0), .int x].toArray s = true := fun w9 hw9 => hts0 w9 (List.mem_cons_of_mem _ hw9)
  have hown : s.vm.findClass R_C = some m.cls := findClass_of_methodNamed B.named
  have hlocks := B.notSynchronized
  have hK : va_K (dC, dI) classes [(cI, .int), (cZ, .boolean), (cJ, .long)] s := hK
  have hl := lv_entry ([.ref (aa 0), .int x]) (n := 2) (Nat.le_of_ble_eq_true rfl)
  rw [lg_entry_eq]
  generalize (lg_sl ([.ref (aa 0), .int x]) ++ List.replicate (2 - (lg_sl ([.ref (aa 0), .int x])).length) Slot.unset).toArray = ls at hl ⊢
  have hl : lv_has ls 2 [(0, .ref (aa 0)), (1, .int x)] := hl
  obtain ⟨eK, b0, b1, b2, b3, b4, b5⟩ := id hI
  refine lv_aload_n hx hb d_C_checkWall_0 rfl (lv_at hl 0 rfl) ?_
  refine va_get (D := (dC, dI)) (ci := 0) (v := .ref (aa 3)) (C := R_C) (T := F_C) (N := 5) hx hb hts i_C hown hK hP 0 rfl rfl 2 (by decide) (hts _ fl_C_26) (fun _ h9 => h9) rfl d_C_checkWall_1 ?_
  refine lv_iload_n hx hb d_C_checkWall_4 rfl (lv_at hl 1 rfl) ?_
  refine cR (W.runV (As := [.int x]) (rest := []) ⟨hx, hb, hml, hown, hts⟩ (c_W_isThere hP hI x) (cwV 1 hts (wB_goodV (fun _ h => h) ml_C_188 im_W_isThere se_W_isThere ini_W co_W_isThere) rfl rfl rfl (by decide +kernel) ⟨Nat.le_of_ble_eq_true rfl, Nat.le_of_ble_eq_true rfl⟩) (pV hK hP (ci := 5) (q0 := 3) rfl rfl _) rfl rfl hl.1 rfl (lv_room (Nat.le_of_ble_eq_true rfl)) d_C_checkWall_5 ⟨Nat.zero_le _, Nat.zero_le _⟩) ?_
  refine lv_if_ne (tgt := 21) hx hb d_C_checkWall_8 (by decide) (fun c_8 => ?_) (fun c_8 => ?_)
  · exact W.vret hx hb hr (fun t ht hW => ⟨rfl, ht⟩) (fun q h => by cases h) d_C_checkWall_21
  · exact absurd hc (by rw [show tW kn vv x = false from bI_0.mp (by simpa using c_8)]; decide)
set_option maxRecDepth 100000 in
set_option maxHeartbeats 4000000 in
theorem c_C_checkWall_no (hlt : l.stackTraces = false) (hP : va_P (dC, dI) classes (wC aa cI cZ kn vv) H) (hI : okC kn nn) (x : Int32) (hc : tW kn vv x = false) : vx_Met l y_C_checkWall (wB y_C_checkWall b_C_checkWall 2 none) ({ frames := 6, cells := 1, slots := 6, locals := 90 } : Room) (rP [.ref (aa 0), .int x] H (kT dC dI cI cZ cJ AX)) QcNo (xE eIA) 1 6 noA := by
  refine vx_ofW (cc := b_C_checkWall) (maxL := 2) (ret := none) (by decide) rfl ?_
  intro p e s m args below meth c s₁ B hml hexc hv
  obtain ⟨rfl, rfl, hK, hT⟩ := hv
  have hx := B.exec
  have hb := B.bytes
  have hr := B.returns
  have hts0 := atoms_spec (ws := (wB y_C_checkWall b_C_checkWall 2 none)) B.pre
  have hts : ∀ w9 ∈ BG, w9.before [.ref (aa 0), .int x].toArray s = true := fun w9 hw9 => hts0 w9 (List.mem_cons_of_mem _ hw9)
  have hown : s.vm.findClass R_C = some m.cls := findClass_of_methodNamed B.named
  have hlocks := B.notSynchronized
  have hK : va_K (dC, dI) classes [(cI, .int), (cZ, .boolean), (cJ, .long)] s := hK
  have hS : va_S AX s.heap s.heap [] := va_S.rf
  have hl := lv_entry ([.ref (aa 0), .int x]) (n := 2) (Nat.le_of_ble_eq_true rfl)
  rw [lg_entry_eq]
  generalize (lg_sl ([.ref (aa 0), .int x]) ++ List.replicate (2 - (lg_sl ([.ref (aa 0), .int x])).length) Slot.unset).toArray = ls at hl ⊢
  have hl : lv_has ls 2 [(0, .ref (aa 0)), (1, .int x)] := hl
  obtain ⟨eK, b0, b1, b2, b3, b4, b5⟩ := id hI
  refine lv_aload_n hx hb d_C_checkWall_0 rfl (lv_at hl 0 rfl) ?_
  refine va_get (D := (dC, dI)) (ci := 0) (v := .ref (aa 3)) (C := R_C) (T := F_C) (N := 5) hx hb hts i_C hown hK hP 0 rfl rfl 2 (by decide) (hts _ fl_C_26) (fun _ h9 => h9) rfl d_C_checkWall_1 ?_
  refine lv_iload_n hx hb d_C_checkWall_4 rfl (lv_at hl 1 rfl) ?_
  refine cR (W.runV (As := [.int x]) (rest := []) ⟨hx, hb, hml, hown, hts⟩ (c_W_isThere hP hI x) (cwV 1 hts (wB_goodV (fun _ h => h) ml_C_188 im_W_isThere se_W_isThere ini_W co_W_isThere) rfl rfl rfl (by decide +kernel) ⟨Nat.le_of_ble_eq_true rfl, Nat.le_of_ble_eq_true rfl⟩) (pV hK hP (ci := 5) (q0 := 3) rfl rfl _) rfl rfl hl.1 rfl (lv_room (Nat.le_of_ble_eq_true rfl)) d_C_checkWall_5 ⟨Nat.zero_le _, Nat.zero_le _⟩) ?_
  refine lv_if_ne (tgt := 21) hx hb d_C_checkWall_8 (by decide) (fun c_8 => ?_) (fun c_8 => ?_)
  · exact absurd hc (by rw [show tW kn vv x = true from bI_n0.mp (by simpa using c_8)]; decide)
  · exact thIA hx hb hlt hown hts hT hS (hl.1.trans hml.symm) (is := 241) (List.mem_of_getElem? (i := 11) rfl) d_C_checkWall_11 d_C_checkWall_14 d_C_checkWall_15 d_C_checkWall_17 d_C_checkWall_20 hexc (Nat.le_of_ble_eq_true rfl) (Nat.le_of_ble_eq_true rfl) (Nat.le_of_ble_eq_true rfl) (Nat.le_of_ble_eq_true rfl) hlocks (fun t hal hz hkp => ⟨rfl, hz, fun q hq _ => hkp q hq⟩) (fun z hz => by cases hz) (Nat.le_of_ble_eq_true rfl) (Nat.le_of_ble_eq_true rfl)
set_option maxRecDepth 100000 in
set_option maxHeartbeats 4000000 in
theorem c_C_checkThickness_ok (x : Int32) (hc : thB x = true) : Met l y_C_checkThickness (wB y_C_checkThickness b_C_checkThickness 1 none) ({ frames := 0, cells := 0, slots := 0, locals := 0 } : Room) (rP [.int x] H (kK dC dI cI cZ cJ)) QcVoid 0 0 noA := by
  refine Met.ofW (cc := b_C_checkThickness) (maxL := 1) (ret := none) (by decide) rfl ?_
  intro p e s m args below meth c s₁ B hml hv
  obtain ⟨rfl, rfl, hK⟩ := hv
  have hx := B.exec
  have hb := B.bytes
  have hr := B.returns
  have hts0 := atoms_spec (ws := (wB y_C_checkThickness b_C_checkThickness 1 none)) B.pre
  have hts : ∀ w9 ∈ BG, w9.before [.int x].toArray s = true := fun w9 hw9 => hts0 w9 (List.mem_cons_of_mem _ hw9)
  have hown : s.vm.findClass R_C = some m.cls := findClass_of_methodNamed B.named
  have hlocks := B.notSynchronized
  have hK : va_K (dC, dI) classes [(cI, .int), (cZ, .boolean), (cJ, .long)] s := hK
  have hl := lv_entry ([.int x]) (n := 1) (Nat.le_of_ble_eq_true rfl)
  rw [lg_entry_eq]
  generalize (lg_sl ([.int x]) ++ List.replicate (1 - (lg_sl ([.int x])).length) Slot.unset).toArray = ls at hl ⊢
  have hl : lv_has ls 1 [(0, .int x)] := hl
  refine lv_iload_n hx hb d_C_checkThickness_0 rfl (lv_at hl 0 rfl) ?_
  refine lv_iconst (v := 2) hx hb d_C_checkThickness_1 (by decide) ?_
  refine lv_icmp_lt (tgt := 17) hx hb d_C_checkThickness_2 (by decide) (fun c_2 => ?_) (fun c_2 => ?_)
  · exact absurd hc (by simp only [thB, decide_eq_true c_2, Bool.not_true, Bool.not_false, Bool.and_true, Bool.true_and, Bool.false_and, Bool.and_false, Bool.or_true, Bool.true_or, Bool.or_false, Bool.false_or, if_true, if_false, Bool.false_eq_true, Bool.true_eq_false]; decide)
  · refine lv_iload_n hx hb d_C_checkThickness_5 rfl (lv_at hl 0 rfl) ?_
    refine lv_bipush (v := 100) hx hb d_C_checkThickness_6 (by decide) ?_
    refine lv_icmp_gt (tgt := 17) hx hb d_C_checkThickness_8 (by decide) (fun c_8 => ?_) (fun c_8 => ?_)
    · exact absurd hc (by simp only [thB, decide_eq_false c_2, decide_eq_true c_8, Bool.not_true, Bool.not_false, Bool.and_true, Bool.true_and, Bool.false_and, Bool.and_false, Bool.or_true, Bool.true_or, Bool.or_false, Bool.false_or, if_true, if_false, Bool.false_eq_true, Bool.true_eq_false]; decide)
    · refine lv_iload_n hx hb d_C_checkThickness_11 rfl (lv_at hl 0 rfl) ?_
      refine lv_iconst (v := 2) hx hb d_C_checkThickness_12 (by decide) ?_
      refine lv_irem hx hb d_C_checkThickness_13 (by decide) ?_
      refine lv_if_eq (tgt := 27) hx hb d_C_checkThickness_14 (by decide) (fun c_14 => ?_) (fun c_14 => ?_)
      · exact W.vret hx hb hr (fun t ht hW => ⟨rfl, ht⟩) (fun q h => by cases h) d_C_checkThickness_27
      · exact absurd hc (by simp only [thB, decide_eq_false c_2, decide_eq_false c_8, decide_eq_false c_14, Bool.not_true, Bool.not_false, Bool.and_true, Bool.true_and, Bool.false_and, Bool.and_false, Bool.or_true, Bool.true_or, Bool.or_false, Bool.false_or, if_true, if_false, Bool.false_eq_true, Bool.true_eq_false]; decide)
set_option maxRecDepth 100000 in
set_option maxHeartbeats 4000000 in
theorem c_C_checkThickness_no (hlt : l.stackTraces = false) (x : Int32) (hc : thB x = false) : vx_Met l y_C_checkThickness (wB y_C_checkThickness b_C_checkThickness 1 none) ({ frames := 6, cells := 1, slots := 6, locals := 90 } : Room) (rP [.int x] H (kT dC dI cI cZ cJ AX)) QcNo (xE eIA) 1 6 noA := by
  refine vx_ofW (cc := b_C_checkThickness) (maxL := 1) (ret := none) (by decide) rfl ?_
  intro p e s m args below meth c s₁ B hml hexc hv
  obtain ⟨rfl, rfl, hK, hT⟩ := hv
  have hx := B.exec
  have hb := B.bytes
  have hr := B.returns
  have hts0 := atoms_spec (ws := (wB y_C_checkThickness b_C_checkThickness 1 none)) B.pre
  have hts : ∀ w9 ∈ BG, w9.before [.int x].toArray s = true := fun w9 hw9 => hts0 w9 (List.mem_cons_of_mem _ hw9)
  have hown : s.vm.findClass R_C = some m.cls := findClass_of_methodNamed B.named
  have hlocks := B.notSynchronized
  have hK : va_K (dC, dI) classes [(cI, .int), (cZ, .boolean), (cJ, .long)] s := hK
  have hS : va_S AX s.heap s.heap [] := va_S.rf
  have hl := lv_entry ([.int x]) (n := 1) (Nat.le_of_ble_eq_true rfl)
  rw [lg_entry_eq]
  generalize (lg_sl ([.int x]) ++ List.replicate (1 - (lg_sl ([.int x])).length) Slot.unset).toArray = ls at hl ⊢
  have hl : lv_has ls 1 [(0, .int x)] := hl
  refine lv_iload_n hx hb d_C_checkThickness_0 rfl (lv_at hl 0 rfl) ?_
  refine lv_iconst (v := 2) hx hb d_C_checkThickness_1 (by decide) ?_
  refine lv_icmp_lt (tgt := 17) hx hb d_C_checkThickness_2 (by decide) (fun c_2 => ?_) (fun c_2 => ?_)
  · exact thIA hx hb hlt hown hts hT hS (hl.1.trans hml.symm) (is := 239) (List.mem_of_getElem? (i := 5) rfl) d_C_checkThickness_17 d_C_checkThickness_20 d_C_checkThickness_21 d_C_checkThickness_23 d_C_checkThickness_26 hexc (Nat.le_of_ble_eq_true rfl) (Nat.le_of_ble_eq_true rfl) (Nat.le_of_ble_eq_true rfl) (Nat.le_of_ble_eq_true rfl) hlocks (fun t hal hz hkp => ⟨rfl, hz, fun q hq _ => hkp q hq⟩) (fun z hz => by cases hz) (Nat.le_of_ble_eq_true rfl) (Nat.le_of_ble_eq_true rfl)
  · refine lv_iload_n hx hb d_C_checkThickness_5 rfl (lv_at hl 0 rfl) ?_
    refine lv_bipush (v := 100) hx hb d_C_checkThickness_6 (by decide) ?_
    refine lv_icmp_gt (tgt := 17) hx hb d_C_checkThickness_8 (by decide) (fun c_8 => ?_) (fun c_8 => ?_)
    · exact thIA hx hb hlt hown hts hT hS (hl.1.trans hml.symm) (is := 239) (List.mem_of_getElem? (i := 5) rfl) d_C_checkThickness_17 d_C_checkThickness_20 d_C_checkThickness_21 d_C_checkThickness_23 d_C_checkThickness_26 hexc (Nat.le_of_ble_eq_true rfl) (Nat.le_of_ble_eq_true rfl) (Nat.le_of_ble_eq_true rfl) (Nat.le_of_ble_eq_true rfl) hlocks (fun t hal hz hkp => ⟨rfl, hz, fun q hq _ => hkp q hq⟩) (fun z hz => by cases hz) (Nat.le_of_ble_eq_true rfl) (Nat.le_of_ble_eq_true rfl)
    · refine lv_iload_n hx hb d_C_checkThickness_11 rfl (lv_at hl 0 rfl) ?_
      refine lv_iconst (v := 2) hx hb d_C_checkThickness_12 (by decide) ?_
      refine lv_irem hx hb d_C_checkThickness_13 (by decide) ?_
      refine lv_if_eq (tgt := 27) hx hb d_C_checkThickness_14 (by decide) (fun c_14 => ?_) (fun c_14 => ?_)
      · exact absurd hc (by simp only [thB, decide_eq_false c_2, decide_eq_false c_8, decide_eq_true c_14, Bool.not_true, Bool.not_false, Bool.and_true, Bool.true_and, Bool.false_and, Bool.and_false, Bool.or_true, Bool.true_or, Bool.or_false, Bool.false_or, if_true, if_false, Bool.false_eq_true, Bool.true_eq_false]; decide)
      · exact thIA hx hb hlt hown hts hT hS (hl.1.trans hml.symm) (is := 239) (List.mem_of_getElem? (i := 5) rfl) d_C_checkThickness_17 d_C_checkThickness_20 d_C_checkThickness_21 d_C_checkThickness_23 d_C_checkThickness_26 hexc (Nat.le_of_ble_eq_true rfl) (Nat.le_of_ble_eq_true rfl) (Nat.le_of_ble_eq_true rfl) (Nat.le_of_ble_eq_true rfl) hlocks (fun t hal hz hkp => ⟨rfl, hz, fun q hq _ => hkp q hq⟩) (fun z hz => by cases hz) (Nat.le_of_ble_eq_true rfl) (Nat.le_of_ble_eq_true rfl)
set_option maxRecDepth 100000 in
set_option maxHeartbeats 4000000 in
theorem c_C_checkPlace_ok (x y : Int64) (hc : plB x y = true) : Met l y_C_checkPlace (wB y_C_checkPlace b_C_checkPlace 4 none) ({ frames := 0, cells := 0, slots := 0, locals := 0 } : Room) (rP [.long x, .long y] H (kK dC dI cI cZ cJ)) QcVoid 0 0 noA := by
  refine Met.ofW (cc := b_C_checkPlace) (maxL := 4) (ret := none) (by decide) rfl ?_
  intro p e s m args below meth c s₁ B hml hv
  obtain ⟨rfl, rfl, hK⟩ := hv
  have hx := B.exec
  have hb := B.bytes
  have hr := B.returns
  have hts0 := atoms_spec (ws := (wB y_C_checkPlace b_C_checkPlace 4 none)) B.pre
  have hts : ∀ w9 ∈ BG, w9.before [.long x, .long y].toArray s = true := fun w9 hw9 => hts0 w9 (List.mem_cons_of_mem _ hw9)
  have hown : s.vm.findClass R_C = some m.cls := findClass_of_methodNamed B.named
  have hlocks := B.notSynchronized
  have hK : va_K (dC, dI) classes [(cI, .int), (cZ, .boolean), (cJ, .long)] s := hK
  have hl := lv_entry ([.long x, .long y]) (n := 4) (Nat.le_of_ble_eq_true rfl)
  rw [lg_entry_eq]
  generalize (lg_sl ([.long x, .long y]) ++ List.replicate (4 - (lg_sl ([.long x, .long y])).length) Slot.unset).toArray = ls at hl ⊢
  have hl : lv_has ls 4 [(0, .long x), (2, .long y)] := hl
  refine lv_lload_n hx hb d_C_checkPlace_0 rfl (lv_at hl 0 rfl) ?_
  refine lv_ldc2 (v := (-1000)) hx hb hown (hts _ kl_C_243) d_C_checkPlace_1 ?_
  refine W.lcmp hx hb d_C_checkPlace_4 ?_
  refine lv_if_lt (tgt := 32) hx hb d_C_checkPlace_5 (by decide) (fun c_5 => ?_) (fun c_5 => ?_)
  · exact absurd hc (by simp only [plB, decide_eq_true c_5, Bool.not_true, Bool.not_false, Bool.and_true, Bool.true_and, Bool.false_and, Bool.and_false, Bool.or_true, Bool.true_or, Bool.or_false, Bool.false_or, if_true, if_false, Bool.false_eq_true, Bool.true_eq_false]; decide)
  · refine lv_lload_n hx hb d_C_checkPlace_8 rfl (lv_at hl 0 rfl) ?_
    refine lv_ldc2 (v := 1000) hx hb hown (hts _ kl_C_245) d_C_checkPlace_9 ?_
    refine W.lcmp hx hb d_C_checkPlace_12 ?_
    refine lv_if_gt (tgt := 32) hx hb d_C_checkPlace_13 (by decide) (fun c_13 => ?_) (fun c_13 => ?_)
    · exact absurd hc (by simp only [plB, decide_eq_false c_5, decide_eq_true c_13, Bool.not_true, Bool.not_false, Bool.and_true, Bool.true_and, Bool.false_and, Bool.and_false, Bool.or_true, Bool.true_or, Bool.or_false, Bool.false_or, if_true, if_false, Bool.false_eq_true, Bool.true_eq_false]; decide)
    · refine lv_lload_n hx hb d_C_checkPlace_16 rfl (lv_at hl 1 rfl) ?_
      refine lv_ldc2 (v := (-1000)) hx hb hown (hts _ kl_C_243) d_C_checkPlace_17 ?_
      refine W.lcmp hx hb d_C_checkPlace_20 ?_
      refine lv_if_lt (tgt := 32) hx hb d_C_checkPlace_21 (by decide) (fun c_21 => ?_) (fun c_21 => ?_)
      · exact absurd hc (by simp only [plB, decide_eq_false c_5, decide_eq_false c_13, decide_eq_true c_21, Bool.not_true, Bool.not_false, Bool.and_true, Bool.true_and, Bool.false_and, Bool.and_false, Bool.or_true, Bool.true_or, Bool.or_false, Bool.false_or, if_true, if_false, Bool.false_eq_true, Bool.true_eq_false]; decide)
      · refine lv_lload_n hx hb d_C_checkPlace_24 rfl (lv_at hl 1 rfl) ?_
        refine lv_ldc2 (v := 1000) hx hb hown (hts _ kl_C_245) d_C_checkPlace_25 ?_
        refine W.lcmp hx hb d_C_checkPlace_28 ?_
        refine lv_if_le (tgt := 42) hx hb d_C_checkPlace_29 (by decide) (fun c_29 => ?_) (fun c_29 => ?_)
        · exact W.vret hx hb hr (fun t ht hW => ⟨rfl, ht⟩) (fun q h => by cases h) d_C_checkPlace_42
        · exact absurd hc (by simp only [plB, decide_eq_false c_5, decide_eq_false c_13, decide_eq_false c_21, decide_eq_false c_29, Bool.not_true, Bool.not_false, Bool.and_true, Bool.true_and, Bool.false_and, Bool.and_false, Bool.or_true, Bool.true_or, Bool.or_false, Bool.false_or, if_true, if_false, Bool.false_eq_true, Bool.true_eq_false]; decide)
set_option maxRecDepth 100000 in
set_option maxHeartbeats 4000000 in
theorem c_C_checkPlace_no (hlt : l.stackTraces = false) (x y : Int64) (hc : plB x y = false) : vx_Met l y_C_checkPlace (wB y_C_checkPlace b_C_checkPlace 4 none) ({ frames := 6, cells := 1, slots := 6, locals := 90 } : Room) (rP [.long x, .long y] H (kT dC dI cI cZ cJ AX)) QcNo (xE eIA) 1 6 noA := by
  refine vx_ofW (cc := b_C_checkPlace) (maxL := 4) (ret := none) (by decide) rfl ?_
  intro p e s m args below meth c s₁ B hml hexc hv
  obtain ⟨rfl, rfl, hK, hT⟩ := hv
  have hx := B.exec
  have hb := B.bytes
  have hr := B.returns
  have hts0 := atoms_spec (ws := (wB y_C_checkPlace b_C_checkPlace 4 none)) B.pre
  have hts : ∀ w9 ∈ BG, w9.before [.long x, .long y].toArray s = true := fun w9 hw9 => hts0 w9 (List.mem_cons_of_mem _ hw9)
  have hown : s.vm.findClass R_C = some m.cls := findClass_of_methodNamed B.named
  have hlocks := B.notSynchronized
  have hK : va_K (dC, dI) classes [(cI, .int), (cZ, .boolean), (cJ, .long)] s := hK
  have hS : va_S AX s.heap s.heap [] := va_S.rf
  have hl := lv_entry ([.long x, .long y]) (n := 4) (Nat.le_of_ble_eq_true rfl)
  rw [lg_entry_eq]
  generalize (lg_sl ([.long x, .long y]) ++ List.replicate (4 - (lg_sl ([.long x, .long y])).length) Slot.unset).toArray = ls at hl ⊢
  have hl : lv_has ls 4 [(0, .long x), (2, .long y)] := hl
  refine lv_lload_n hx hb d_C_checkPlace_0 rfl (lv_at hl 0 rfl) ?_
  refine lv_ldc2 (v := (-1000)) hx hb hown (hts _ kl_C_243) d_C_checkPlace_1 ?_
  refine W.lcmp hx hb d_C_checkPlace_4 ?_
  refine lv_if_lt (tgt := 32) hx hb d_C_checkPlace_5 (by decide) (fun c_5 => ?_) (fun c_5 => ?_)
  · exact thIA hx hb hlt hown hts hT hS (hl.1.trans hml.symm) (is := 247) (List.mem_of_getElem? (i := 8) rfl) d_C_checkPlace_32 d_C_checkPlace_35 d_C_checkPlace_36 d_C_checkPlace_38 d_C_checkPlace_41 hexc (Nat.le_of_ble_eq_true rfl) (Nat.le_of_ble_eq_true rfl) (Nat.le_of_ble_eq_true rfl) (Nat.le_of_ble_eq_true rfl) hlocks (fun t hal hz hkp => ⟨rfl, hz, fun q hq _ => hkp q hq⟩) (fun z hz => by cases hz) (Nat.le_of_ble_eq_true rfl) (Nat.le_of_ble_eq_true rfl)
  · refine lv_lload_n hx hb d_C_checkPlace_8 rfl (lv_at hl 0 rfl) ?_
    refine lv_ldc2 (v := 1000) hx hb hown (hts _ kl_C_245) d_C_checkPlace_9 ?_
    refine W.lcmp hx hb d_C_checkPlace_12 ?_
    refine lv_if_gt (tgt := 32) hx hb d_C_checkPlace_13 (by decide) (fun c_13 => ?_) (fun c_13 => ?_)
    · exact thIA hx hb hlt hown hts hT hS (hl.1.trans hml.symm) (is := 247) (List.mem_of_getElem? (i := 8) rfl) d_C_checkPlace_32 d_C_checkPlace_35 d_C_checkPlace_36 d_C_checkPlace_38 d_C_checkPlace_41 hexc (Nat.le_of_ble_eq_true rfl) (Nat.le_of_ble_eq_true rfl) (Nat.le_of_ble_eq_true rfl) (Nat.le_of_ble_eq_true rfl) hlocks (fun t hal hz hkp => ⟨rfl, hz, fun q hq _ => hkp q hq⟩) (fun z hz => by cases hz) (Nat.le_of_ble_eq_true rfl) (Nat.le_of_ble_eq_true rfl)
    · refine lv_lload_n hx hb d_C_checkPlace_16 rfl (lv_at hl 1 rfl) ?_
      refine lv_ldc2 (v := (-1000)) hx hb hown (hts _ kl_C_243) d_C_checkPlace_17 ?_
      refine W.lcmp hx hb d_C_checkPlace_20 ?_
      refine lv_if_lt (tgt := 32) hx hb d_C_checkPlace_21 (by decide) (fun c_21 => ?_) (fun c_21 => ?_)
      · exact thIA hx hb hlt hown hts hT hS (hl.1.trans hml.symm) (is := 247) (List.mem_of_getElem? (i := 8) rfl) d_C_checkPlace_32 d_C_checkPlace_35 d_C_checkPlace_36 d_C_checkPlace_38 d_C_checkPlace_41 hexc (Nat.le_of_ble_eq_true rfl) (Nat.le_of_ble_eq_true rfl) (Nat.le_of_ble_eq_true rfl) (Nat.le_of_ble_eq_true rfl) hlocks (fun t hal hz hkp => ⟨rfl, hz, fun q hq _ => hkp q hq⟩) (fun z hz => by cases hz) (Nat.le_of_ble_eq_true rfl) (Nat.le_of_ble_eq_true rfl)
      · refine lv_lload_n hx hb d_C_checkPlace_24 rfl (lv_at hl 1 rfl) ?_
        refine lv_ldc2 (v := 1000) hx hb hown (hts _ kl_C_245) d_C_checkPlace_25 ?_
        refine W.lcmp hx hb d_C_checkPlace_28 ?_
        refine lv_if_le (tgt := 42) hx hb d_C_checkPlace_29 (by decide) (fun c_29 => ?_) (fun c_29 => ?_)
        · exact absurd hc (by simp only [plB, decide_eq_false c_5, decide_eq_false c_13, decide_eq_false c_21, decide_eq_true c_29, Bool.not_true, Bool.not_false, Bool.and_true, Bool.true_and, Bool.false_and, Bool.and_false, Bool.or_true, Bool.true_or, Bool.or_false, Bool.false_or, if_true, if_false, Bool.false_eq_true, Bool.true_eq_false]; decide)
        · exact thIA hx hb hlt hown hts hT hS (hl.1.trans hml.symm) (is := 247) (List.mem_of_getElem? (i := 8) rfl) d_C_checkPlace_32 d_C_checkPlace_35 d_C_checkPlace_36 d_C_checkPlace_38 d_C_checkPlace_41 hexc (Nat.le_of_ble_eq_true rfl) (Nat.le_of_ble_eq_true rfl) (Nat.le_of_ble_eq_true rfl) (Nat.le_of_ble_eq_true rfl) hlocks (fun t hal hz hkp => ⟨rfl, hz, fun q hq _ => hkp q hq⟩) (fun z hz => by cases hz) (Nat.le_of_ble_eq_true rfl) (Nat.le_of_ble_eq_true rfl)
set_option maxRecDepth 100000 in
set_option maxHeartbeats 4000000 in
theorem c_C_checkRoomForAct_ok (hP : va_P (dC, dI) classes (wC aa cI cZ kn vv) H) {d : Nat} (e4 : kn 4 = nI d) (hd : d < 2 ^ 31) (hc : decide (d < 200) = true) : Met l y_C_checkRoomForAct (wB y_C_checkRoomForAct b_C_checkRoomForAct 1 none) ({ frames := 0, cells := 0, slots := 0, locals := 0 } : Room) (rP [.ref (aa 0)] H (kK dC dI cI cZ cJ)) QcVoid 0 0 noA := by
  refine Met.ofW (cc := b_C_checkRoomForAct) (maxL := 1) (ret := none) (by decide) rfl ?_
  intro p e s m args below meth c s₁ B hml hv
  obtain ⟨rfl, rfl, hK⟩ := hv
  have hx := B.exec
  have hb := B.bytes
  have hr := B.returns
  have hts0 := atoms_spec (ws := (wB y_C_checkRoomForAct b_C_checkRoomForAct 1 none)) B.pre
  have hts : ∀ w9 ∈ BG, w9.before [.ref (aa 0)].toArray s = true := fun w9 hw9 => hts0 w9 (List.mem_cons_of_mem _ hw9)
  have hown : s.vm.findClass R_C = some m.cls := findClass_of_methodNamed B.named
  have hlocks := B.notSynchronized
  have hK : va_K (dC, dI) classes [(cI, .int), (cZ, .boolean), (cJ, .long)] s := hK
  have hl := lv_entry ([.ref (aa 0)]) (n := 1) (Nat.le_of_ble_eq_true rfl)
  rw [lg_entry_eq]
  generalize (lg_sl ([.ref (aa 0)]) ++ List.replicate (1 - (lg_sl ([.ref (aa 0)])).length) Slot.unset).toArray = ls at hl ⊢
  have hl : lv_has ls 1 [(0, .ref (aa 0))] := hl
  refine lv_aload_n hx hb d_C_checkRoomForAct_0 rfl (lv_at hl 0 rfl) ?_
  refine va_get (D := (dC, dI)) (ci := 0) (v := .ref (aa 5)) (C := R_C) (T := F_C) (N := 5) hx hb hts i_C hown hK hP 0 rfl rfl 4 (by decide) (hts _ fl_C_40) (fun _ h9 => h9) rfl d_C_checkRoomForAct_1 ?_
  refine va_get (D := (dC, dI)) (ci := 1) (v := .int (kn 4)) (C := R_H) (T := F_H) (N := 6) hx hb hts i_H hown hK hP 5 rfl rfl 4 (by decide) (hts _ fl_C_150) (fun _ h9 => h9) rfl d_C_checkRoomForAct_4 ?_
  refine lv_sipush (v := 200) hx hb d_C_checkRoomForAct_7 (by decide) ?_
  refine lv_icmp_lt (tgt := 23) hx hb d_C_checkRoomForAct_10 (by decide) (fun c_10 => ?_) (fun c_10 => ?_)
  · exact W.vret hx hb hr (fun t ht hW => ⟨rfl, ht⟩) (fun q h => by cases h) d_C_checkRoomForAct_23
  · exact absurd hc (by simp only [decide_eq_false (show ¬ d < 200 from fun h => c_10 (by rw [e4]; exact (nI_ltI (by omega) (by decide)).mpr h))]; decide)
set_option maxRecDepth 100000 in
set_option maxHeartbeats 4000000 in
theorem c_C_checkRoomForAct_no (hlt : l.stackTraces = false) (hP : va_P (dC, dI) classes (wC aa cI cZ kn vv) H) {d : Nat} (e4 : kn 4 = nI d) (hd : d < 2 ^ 31) (hc : decide (d < 200) = false) : vx_Met l y_C_checkRoomForAct (wB y_C_checkRoomForAct b_C_checkRoomForAct 1 none) ({ frames := 6, cells := 1, slots := 6, locals := 90 } : Room) (rP [.ref (aa 0)] H (kT dC dI cI cZ cJ AX)) QcNo (xE eIS) 1 6 noA := by
  refine vx_ofW (cc := b_C_checkRoomForAct) (maxL := 1) (ret := none) (by decide) rfl ?_
  intro p e s m args below meth c s₁ B hml hexc hv
  obtain ⟨rfl, rfl, hK, hT⟩ := hv
  have hx := B.exec
  have hb := B.bytes
  have hr := B.returns
  have hts0 := atoms_spec (ws := (wB y_C_checkRoomForAct b_C_checkRoomForAct 1 none)) B.pre
  have hts : ∀ w9 ∈ BG, w9.before [.ref (aa 0)].toArray s = true := fun w9 hw9 => hts0 w9 (List.mem_cons_of_mem _ hw9)
  have hown : s.vm.findClass R_C = some m.cls := findClass_of_methodNamed B.named
  have hlocks := B.notSynchronized
  have hK : va_K (dC, dI) classes [(cI, .int), (cZ, .boolean), (cJ, .long)] s := hK
  have hS : va_S AX s.heap s.heap [] := va_S.rf
  have hl := lv_entry ([.ref (aa 0)]) (n := 1) (Nat.le_of_ble_eq_true rfl)
  rw [lg_entry_eq]
  generalize (lg_sl ([.ref (aa 0)]) ++ List.replicate (1 - (lg_sl ([.ref (aa 0)])).length) Slot.unset).toArray = ls at hl ⊢
  have hl : lv_has ls 1 [(0, .ref (aa 0))] := hl
  refine lv_aload_n hx hb d_C_checkRoomForAct_0 rfl (lv_at hl 0 rfl) ?_
  refine va_get (D := (dC, dI)) (ci := 0) (v := .ref (aa 5)) (C := R_C) (T := F_C) (N := 5) hx hb hts i_C hown hK hP 0 rfl rfl 4 (by decide) (hts _ fl_C_40) (fun _ h9 => h9) rfl d_C_checkRoomForAct_1 ?_
  refine va_get (D := (dC, dI)) (ci := 1) (v := .int (kn 4)) (C := R_H) (T := F_H) (N := 6) hx hb hts i_H hown hK hP 5 rfl rfl 4 (by decide) (hts _ fl_C_150) (fun _ h9 => h9) rfl d_C_checkRoomForAct_4 ?_
  refine lv_sipush (v := 200) hx hb d_C_checkRoomForAct_7 (by decide) ?_
  refine lv_icmp_lt (tgt := 23) hx hb d_C_checkRoomForAct_10 (by decide) (fun c_10 => ?_) (fun c_10 => ?_)
  · exact absurd hc (by simp only [decide_eq_true (show d < 200 from (nI_ltI (by omega) (by decide)).mp (by rw [← e4]; exact c_10))]; decide)
  · exact thIS hx hb hlt hown hts hT hS (hl.1.trans hml.symm) (is := 249) (List.mem_of_getElem? (i := 3) rfl) d_C_checkRoomForAct_13 d_C_checkRoomForAct_16 d_C_checkRoomForAct_17 d_C_checkRoomForAct_19 d_C_checkRoomForAct_22 hexc (Nat.le_of_ble_eq_true rfl) (Nat.le_of_ble_eq_true rfl) (Nat.le_of_ble_eq_true rfl) (Nat.le_of_ble_eq_true rfl) hlocks (fun t hal hz hkp => ⟨rfl, hz, fun q hq _ => hkp q hq⟩) (fun z hz => by cases hz) (Nat.le_of_ble_eq_true rfl) (Nat.le_of_ble_eq_true rfl)
set_option maxRecDepth 100000 in
set_option maxHeartbeats 4000000 in
theorem c_C_checkLevel_ok (hP : va_P (dC, dI) classes (wC aa cI cZ kn vv) H) (hI : okC kn nn) {k : Nat} (hk : k ≤ nn 0) (x : Int32) (hc : lvB kn vv k x = true) : Met l y_C_checkLevel (wB y_C_checkLevel b_C_checkLevel 3 none) ({ frames := 1, cells := 0, slots := 0, locals := 22 } : Room) (rP [.ref (aa 0), .int (nI k), .int x] H (kK dC dI cI cZ cJ)) QcVoid 0 0 noA := by
  refine Met.ofW (cc := b_C_checkLevel) (maxL := 3) (ret := none) (by decide) rfl ?_
  intro p e s m args below meth c s₁ B hml hv
  obtain ⟨rfl, rfl, hK⟩ := hv
  have hx := B.exec
  have hb := B.bytes
  have hr := B.returns
  have hts0 := atoms_spec (ws := (wB y_C_checkLevel b_C_checkLevel 3 none)) B.pre
  have hts : ∀ w9 ∈ BG, w9.before [.ref (aa 0), .int (nI k), .int x].toArray s = true := fun w9 hw9 => hts0 w9 (List.mem_cons_of_mem _ hw9)
  have hown : s.vm.findClass R_C = some m.cls := findClass_of_methodNamed B.named
  have hlocks := B.notSynchronized
  have hK : va_K (dC, dI) classes [(cI, .int), (cZ, .boolean), (cJ, .long)] s := hK
  have hl := lv_entry ([.ref (aa 0), .int (nI k), .int x]) (n := 3) (Nat.le_of_ble_eq_true rfl)
  rw [lg_entry_eq]
  generalize (lg_sl ([.ref (aa 0), .int (nI k), .int x]) ++ List.replicate (3 - (lg_sl ([.ref (aa 0), .int (nI k), .int x])).length) Slot.unset).toArray = ls at hl ⊢
  have hl : lv_has ls 3 [(0, .ref (aa 0)), (1, .int (nI k)), (2, .int x)] := hl
  obtain ⟨eK, b0, b1, b2, b3, b4, b5⟩ := id hI
  refine lv_iload_n hx hb d_C_checkLevel_0 rfl (lv_at hl 2 rfl) ?_
  refine lv_sipush (v := (-1000)) hx hb d_C_checkLevel_1 (by decide) ?_
  refine lv_icmp_lt (tgt := 14) hx hb d_C_checkLevel_4 (by decide) (fun c_4 => ?_) (fun c_4 => ?_)
  · exact absurd hc (by first | (simp only [lvB, decide_eq_true c_4, Bool.not_true, Bool.not_false, Bool.and_true, Bool.true_and, Bool.false_and, Bool.and_false, Bool.or_true, Bool.true_or, Bool.or_false, Bool.false_or, if_true, if_false, Bool.false_eq_true, Bool.true_eq_false]; decide) | (simp only [lvB, decide_eq_true c_4, show bnB kn vv k x = false from bI_0.mp (by simpa using c_33), Bool.not_true, Bool.not_false, Bool.and_true, Bool.true_and, Bool.false_and, Bool.and_false, Bool.or_true, Bool.true_or, Bool.or_false, Bool.false_or, if_true, if_false, Bool.false_eq_true, Bool.true_eq_false]; decide) | (simp only [lvB, decide_eq_true c_4, show bnB kn vv k x = true from bI_n0.mp (by simpa using c_33), Bool.not_true, Bool.not_false, Bool.and_true, Bool.true_and, Bool.false_and, Bool.and_false, Bool.or_true, Bool.true_or, Bool.or_false, Bool.false_or, if_true, if_false, Bool.false_eq_true, Bool.true_eq_false]; decide))
  · refine lv_iload_n hx hb d_C_checkLevel_7 rfl (lv_at hl 2 rfl) ?_
    refine lv_sipush (v := 10000) hx hb d_C_checkLevel_8 (by decide) ?_
    refine lv_icmp_le (tgt := 24) hx hb d_C_checkLevel_11 (by decide) (fun c_11 => ?_) (fun c_11 => ?_)
    · refine lv_aload_n hx hb d_C_checkLevel_24 rfl (lv_at hl 0 rfl) ?_
      refine va_get (D := (dC, dI)) (ci := 0) (v := .ref (aa 1)) (C := R_C) (T := F_C) (N := 5) hx hb hts i_C hown hK hP 0 rfl rfl 0 (by decide) (hts _ fl_C_10) (fun _ h9 => h9) rfl d_C_checkLevel_25 ?_
      refine lv_iload_n hx hb d_C_checkLevel_28 rfl (lv_at hl 1 rfl) ?_
      refine lv_iload_n hx hb d_C_checkLevel_29 rfl (lv_at hl 2 rfl) ?_
      refine cR (W.runV (As := [.int (nI k), .int x]) (rest := []) ⟨hx, hb, hml, hown, hts⟩ (c_S_isBetweenNeighbours hP hI hk x) (cwV 2 hts (wB_goodV (fun _ h => h) ml_C_231 im_S_isBetweenNeighbours se_S_isBetweenNeighbours ini_S co_S_isBetweenNeighbours) rfl rfl rfl (by decide +kernel) ⟨Nat.le_of_ble_eq_true rfl, Nat.le_of_ble_eq_true rfl⟩) (pV hK hP (ci := 3) (q0 := 1) rfl rfl _) rfl rfl hl.1 rfl (lv_room (Nat.le_of_ble_eq_true rfl)) d_C_checkLevel_30 ⟨Nat.zero_le _, Nat.zero_le _⟩) ?_
      refine lv_if_ne (tgt := 46) hx hb d_C_checkLevel_33 (by decide) (fun c_33 => ?_) (fun c_33 => ?_)
      · exact W.vret hx hb hr (fun t ht hW => ⟨rfl, ht⟩) (fun q h => by cases h) d_C_checkLevel_46
      · exact absurd hc (by first | (simp only [lvB, decide_eq_false c_4, decide_eq_true c_11, decide_eq_true c_33, Bool.not_true, Bool.not_false, Bool.and_true, Bool.true_and, Bool.false_and, Bool.and_false, Bool.or_true, Bool.true_or, Bool.or_false, Bool.false_or, if_true, if_false, Bool.false_eq_true, Bool.true_eq_false]; decide) | (simp only [lvB, decide_eq_false c_4, decide_eq_true c_11, decide_eq_true c_33, show bnB kn vv k x = false from bI_0.mp (by simpa using c_33), Bool.not_true, Bool.not_false, Bool.and_true, Bool.true_and, Bool.false_and, Bool.and_false, Bool.or_true, Bool.true_or, Bool.or_false, Bool.false_or, if_true, if_false, Bool.false_eq_true, Bool.true_eq_false]; decide) | (simp only [lvB, decide_eq_false c_4, decide_eq_true c_11, decide_eq_true c_33, show bnB kn vv k x = true from bI_n0.mp (by simpa using c_33), Bool.not_true, Bool.not_false, Bool.and_true, Bool.true_and, Bool.false_and, Bool.and_false, Bool.or_true, Bool.true_or, Bool.or_false, Bool.false_or, if_true, if_false, Bool.false_eq_true, Bool.true_eq_false]; decide))
    · exact absurd hc (by first | (simp only [lvB, decide_eq_false c_4, decide_eq_false c_11, Bool.not_true, Bool.not_false, Bool.and_true, Bool.true_and, Bool.false_and, Bool.and_false, Bool.or_true, Bool.true_or, Bool.or_false, Bool.false_or, if_true, if_false, Bool.false_eq_true, Bool.true_eq_false]; decide) | (simp only [lvB, decide_eq_false c_4, decide_eq_false c_11, show bnB kn vv k x = false from bI_0.mp (by simpa using c_33), Bool.not_true, Bool.not_false, Bool.and_true, Bool.true_and, Bool.false_and, Bool.and_false, Bool.or_true, Bool.true_or, Bool.or_false, Bool.false_or, if_true, if_false, Bool.false_eq_true, Bool.true_eq_false]; decide) | (simp only [lvB, decide_eq_false c_4, decide_eq_false c_11, show bnB kn vv k x = true from bI_n0.mp (by simpa using c_33), Bool.not_true, Bool.not_false, Bool.and_true, Bool.true_and, Bool.false_and, Bool.and_false, Bool.or_true, Bool.true_or, Bool.or_false, Bool.false_or, if_true, if_false, Bool.false_eq_true, Bool.true_eq_false]; decide))
set_option maxRecDepth 100000 in
set_option maxHeartbeats 4000000 in
theorem c_C_checkLevel_no (hlt : l.stackTraces = false) (hP : va_P (dC, dI) classes (wC aa cI cZ kn vv) H) (hI : okC kn nn) {k : Nat} (hk : k ≤ nn 0) (x : Int32) (hc : lvB kn vv k x = false) : vx_Met l y_C_checkLevel (wB y_C_checkLevel b_C_checkLevel 3 none) ({ frames := 6, cells := 1, slots := 6, locals := 90 } : Room) (rP [.ref (aa 0), .int (nI k), .int x] H (kT dC dI cI cZ cJ AX)) QcNo (xE eIA) 1 6 noA := by
  refine vx_ofW (cc := b_C_checkLevel) (maxL := 3) (ret := none) (by decide) rfl ?_
  intro p e s m args below meth c s₁ B hml hexc hv
  obtain ⟨rfl, rfl, hK, hT⟩ := hv
  have hx := B.exec
  have hb := B.bytes
  have hr := B.returns
  have hts0 := atoms_spec (ws := (wB y_C_checkLevel b_C_checkLevel 3 none)) B.pre
  have hts : ∀ w9 ∈ BG, w9.before [.ref (aa 0), .int (nI k), .int x].toArray s = true := fun w9 hw9 => hts0 w9 (List.mem_cons_of_mem _ hw9)
  have hown : s.vm.findClass R_C = some m.cls := findClass_of_methodNamed B.named
  have hlocks := B.notSynchronized
  have hK : va_K (dC, dI) classes [(cI, .int), (cZ, .boolean), (cJ, .long)] s := hK
  have hS : va_S AX s.heap s.heap [] := va_S.rf
  have hl := lv_entry ([.ref (aa 0), .int (nI k), .int x]) (n := 3) (Nat.le_of_ble_eq_true rfl)
  rw [lg_entry_eq]
  generalize (lg_sl ([.ref (aa 0), .int (nI k), .int x]) ++ List.replicate (3 - (lg_sl ([.ref (aa 0), .int (nI k), .int x])).length) Slot.unset).toArray = ls at hl ⊢
  have hl : lv_has ls 3 [(0, .ref (aa 0)), (1, .int (nI k)), (2, .int x)] := hl
  obtain ⟨eK, b0, b1, b2, b3, b4, b5⟩ := id hI
  refine lv_iload_n hx hb d_C_checkLevel_0 rfl (lv_at hl 2 rfl) ?_
  refine lv_sipush (v := (-1000)) hx hb d_C_checkLevel_1 (by decide) ?_
  refine lv_icmp_lt (tgt := 14) hx hb d_C_checkLevel_4 (by decide) (fun c_4 => ?_) (fun c_4 => ?_)
  · exact thIA hx hb hlt hown hts hT hS (hl.1.trans hml.symm) (is := 229) (List.mem_of_getElem? (i := 0) rfl) d_C_checkLevel_14 d_C_checkLevel_17 d_C_checkLevel_18 d_C_checkLevel_20 d_C_checkLevel_23 hexc (Nat.le_of_ble_eq_true rfl) (Nat.le_of_ble_eq_true rfl) (Nat.le_of_ble_eq_true rfl) (Nat.le_of_ble_eq_true rfl) hlocks (fun t hal hz hkp => ⟨rfl, hz, fun q hq _ => hkp q hq⟩) (fun z hz => by cases hz) (Nat.le_of_ble_eq_true rfl) (Nat.le_of_ble_eq_true rfl)
  · refine lv_iload_n hx hb d_C_checkLevel_7 rfl (lv_at hl 2 rfl) ?_
    refine lv_sipush (v := 10000) hx hb d_C_checkLevel_8 (by decide) ?_
    refine lv_icmp_le (tgt := 24) hx hb d_C_checkLevel_11 (by decide) (fun c_11 => ?_) (fun c_11 => ?_)
    · refine lv_aload_n hx hb d_C_checkLevel_24 rfl (lv_at hl 0 rfl) ?_
      refine va_get (D := (dC, dI)) (ci := 0) (v := .ref (aa 1)) (C := R_C) (T := F_C) (N := 5) hx hb hts i_C hown hK hP 0 rfl rfl 0 (by decide) (hts _ fl_C_10) (fun _ h9 => h9) rfl d_C_checkLevel_25 ?_
      refine lv_iload_n hx hb d_C_checkLevel_28 rfl (lv_at hl 1 rfl) ?_
      refine lv_iload_n hx hb d_C_checkLevel_29 rfl (lv_at hl 2 rfl) ?_
      refine cR (W.runV (As := [.int (nI k), .int x]) (rest := []) ⟨hx, hb, hml, hown, hts⟩ (c_S_isBetweenNeighbours hP hI hk x) (cwV 2 hts (wB_goodV (fun _ h => h) ml_C_231 im_S_isBetweenNeighbours se_S_isBetweenNeighbours ini_S co_S_isBetweenNeighbours) rfl rfl rfl (by decide +kernel) ⟨Nat.le_of_ble_eq_true rfl, Nat.le_of_ble_eq_true rfl⟩) (pV hK hP (ci := 3) (q0 := 1) rfl rfl _) rfl rfl hl.1 rfl (lv_room (Nat.le_of_ble_eq_true rfl)) d_C_checkLevel_30 ⟨Nat.zero_le _, Nat.zero_le _⟩) ?_
      refine lv_if_ne (tgt := 46) hx hb d_C_checkLevel_33 (by decide) (fun c_33 => ?_) (fun c_33 => ?_)
      · exact absurd hc (by first | (simp only [lvB, decide_eq_false c_4, decide_eq_true c_11, decide_eq_false c_33, Bool.not_true, Bool.not_false, Bool.and_true, Bool.true_and, Bool.false_and, Bool.and_false, Bool.or_true, Bool.true_or, Bool.or_false, Bool.false_or, if_true, if_false, Bool.false_eq_true, Bool.true_eq_false]; decide) | (simp only [lvB, decide_eq_false c_4, decide_eq_true c_11, decide_eq_false c_33, show bnB kn vv k x = false from bI_0.mp (by simpa using c_33), Bool.not_true, Bool.not_false, Bool.and_true, Bool.true_and, Bool.false_and, Bool.and_false, Bool.or_true, Bool.true_or, Bool.or_false, Bool.false_or, if_true, if_false, Bool.false_eq_true, Bool.true_eq_false]; decide) | (simp only [lvB, decide_eq_false c_4, decide_eq_true c_11, decide_eq_false c_33, show bnB kn vv k x = true from bI_n0.mp (by simpa using c_33), Bool.not_true, Bool.not_false, Bool.and_true, Bool.true_and, Bool.false_and, Bool.and_false, Bool.or_true, Bool.true_or, Bool.or_false, Bool.false_or, if_true, if_false, Bool.false_eq_true, Bool.true_eq_false]; decide))
      · exact thIA hx hb hlt hown hts hT hS (hl.1.trans hml.symm) (is := 234) (List.mem_of_getElem? (i := 1) rfl) d_C_checkLevel_36 d_C_checkLevel_39 d_C_checkLevel_40 d_C_checkLevel_42 d_C_checkLevel_45 hexc (Nat.le_of_ble_eq_true rfl) (Nat.le_of_ble_eq_true rfl) (Nat.le_of_ble_eq_true rfl) (Nat.le_of_ble_eq_true rfl) hlocks (fun t hal hz hkp => ⟨rfl, hz, fun q hq _ => hkp q hq⟩) (fun z hz => by cases hz) (Nat.le_of_ble_eq_true rfl) (Nat.le_of_ble_eq_true rfl)
    · exact thIA hx hb hlt hown hts hT hS (hl.1.trans hml.symm) (is := 229) (List.mem_of_getElem? (i := 0) rfl) d_C_checkLevel_14 d_C_checkLevel_17 d_C_checkLevel_18 d_C_checkLevel_20 d_C_checkLevel_23 hexc (Nat.le_of_ble_eq_true rfl) (Nat.le_of_ble_eq_true rfl) (Nat.le_of_ble_eq_true rfl) (Nat.le_of_ble_eq_true rfl) hlocks (fun t hal hz hkp => ⟨rfl, hz, fun q hq _ => hkp q hq⟩) (fun z hz => by cases hz) (Nat.le_of_ble_eq_true rfl) (Nat.le_of_ble_eq_true rfl)
end
