section
variable {l : Launch} {dC : Nat → ClassId} {dI : Nat → Nat → Nat} {H : Heap} {aa : Nat → Nat} {o : Nat} {cI cZ cJ : ClassId} {kn : Nat → Int32} {vv : Ar} {nn : Nat → Nat} {f : Nat → Int64}
set_option maxRecDepth 100000 in
set_option maxHeartbeats 4000000 in
theorem c_L_storey (hlt : l.stackTraces = false) (hP : va_P (dC, dI) classes (wL aa o cI cZ cJ kn vv f) H) (hdD : dD noT aa 22) (ho : ∀ i, i < 22 → ¬ aa i = o) (hI : okC kn nn) (x : Int32) : Met l y_L_storey (wBW y_L_storey b_L_storey 4 (some .int) [(0, 9, 12, 13), (0, 9, 15, 15)]) ({ frames := 8, cells := 1, slots := 6, locals := 134 } : Room) (rP [.ref (aa 0), .int x, .ref o] H (kL dC dI cI cZ cJ (aO aa o))) (qW (some (.int (nI (kAct (lvB kn vv (nn 0) x) (decide (nn 0 < 6)) (nn 4))))) (aO aa o) (fun H1 => va_P (dC, dI) classes (wL aa o cI cZ cJ (if (kAct (lvB kn vv (nn 0) x) (decide (nn 0 < 6)) (nn 4)) = 0 then (pfK kn (u1 vv 0 (nn 0) x) (nn 4) 0 (nI (nn 0)) 0 0) else kn) (if (kAct (lvB kn vv (nn 0) x) (decide (nn 0 < 6)) (nn 4)) = 0 then (pfV (u1 vv 0 (nn 0) x) (nn 4) 0 (nI (nn 0)) 0 0) else vv) (if (kAct (lvB kn vv (nn 0) x) (decide (nn 0 < 6)) (nn 4)) = 0 then vp_updL f 0 (((nI (nn 0))).toInt64) else f)) H1)) 1 6 (aO aa o) := by
  refine va_MetW (cc := b_L_storey) (maxL := 4) (ret := (some .int)) (hh := [(0, 9, 12, 13), (0, 9, 15, 15)]) (by decide) rfl ?_
  intro p e s m args below meth c s₁ B hml hv
  obtain ⟨rfl, rfl, hK, hT, hNc⟩ := hv
  have hx := B.exec
  have hb := B.bytes
  have hr := B.returns
  have hts0 := atoms_spec (ws := (wBW y_L_storey b_L_storey 4 (some .int) [(0, 9, 12, 13), (0, 9, 15, 15)])) B.pre
  have htab := vx_table (x := y_L_storey) B (hts0 _ List.mem_cons_self)
  have hts : ∀ w9 ∈ BG, w9.before [.ref (aa 0), .int x, .ref o].toArray s = true := fun w9 hw9 => hts0 w9 (List.mem_cons_of_mem _ hw9)
  have hown : s.vm.findClass R_L = some m.cls := findClass_of_methodNamed B.named
  have hlocks := B.notSynchronized
  have hK : va_K (dC, dI) classes [(cI, .int), (cZ, .boolean), (cJ, .long)] s := hK
  have hS : va_S (aO aa o) s.heap s.heap [] := va_S.rf
  have hl := lv_entry ([.ref (aa 0), .int x, .ref o]) (n := 4) (Nat.le_of_ble_eq_true rfl)
  rw [lg_entry_eq]
  generalize (lg_sl ([.ref (aa 0), .int x, .ref o]) ++ List.replicate (4 - (lg_sl ([.ref (aa 0), .int x, .ref o])).length) Slot.unset).toArray = ls at hl ⊢
  have hl : lv_has ls 4 [(0, .ref (aa 0)), (1, .int x), (2, .ref o)] := hl
  refine lv_aload_n hx hb d_L_storey_0 rfl (lv_at hl 2 rfl) ?_
  refine lv_iconst (v := 0) hx hb d_L_storey_1 (by decide) ?_
  refine lv_aload_n hx hb d_L_storey_2 rfl (lv_at hl 0 rfl) ?_
  refine lv_iload_n hx hb d_L_storey_3 rfl (lv_at hl 1 rfl) ?_
  refine cT (vx_runV (As := [.int x]) (rest := [.int 0, .ref o]) ⟨hx, hb, hml, hown, hts⟩ (c_C_storey hlt (wL_l hP) hdD hI x) (cwV 1 hts (wB_goodV (fun _ h => h) ml_L_7 im_C_storey se_C_storey ini_C co_C_storey) rfl rfl rfl (by decide +kernel) ⟨Nat.le_of_ble_eq_true rfl, Nat.le_of_ble_eq_true rfl⟩) (pVL hK hT (fun q h => Or.inl h) hS (wL_l hP) (ci := 0) (q0 := 0) rfl rfl _) rfl rfl hl.1 rfl (lv_room (Nat.le_of_ble_eq_true rfl)) d_L_storey_4 ⟨Nat.le_of_ble_eq_true rfl, Nat.le_of_ble_eq_true rfl⟩) hS (fun q h => Or.inl h) (fun E ce q9 H1 locs1 hE hz hkp hS hce hcv hcl => ?_) (fun hk0 H1 locs1 hP1 hS hz hkp => ?_)
  · have hP1 : va_P (dC, dI) classes (wL aa o cI cZ cJ kn vv f) H1 := hP.kept (fun k q hk => hkp q.1 (hP k q hk).lt)
    rcases hE with ⟨hk, rfl⟩ | ⟨hk, rfl⟩
    · refine vx_catch (E := eIA) (name := eIA) hown [] ⟨0, 9, 12, 13⟩ [⟨0, 9, 15, 15⟩] htab (fun z h => by cases h) (by decide) (by decide) (hts _ cl_L_13) ((hT.2.2.1 _ (List.mem_of_getElem? (i := 3) rfl)).use rfl) hce hcv hcl ?_
      refine lv_astore_n (lv' := [(3, .ref q9), (0, .ref (aa 0)), (1, .int x), (2, .ref o)]) hx hb d_L_storey_12 rfl hl (by decide) rfl (fun ls hl => ?_)
      refine lv_iconst (v := 1) hx hb d_L_storey_13 (by decide) ?_
      have er : (some (.int (nI (kAct (lvB kn vv (nn 0) x) (decide (nn 0 < 6)) (nn 4)))) : Option Value) = some (.int 1) := by rw [hk]; rfl
      have hn0 : ¬ (kAct (lvB kn vv (nn 0) x) (decide (nn 0 < 6)) (nn 4)) = 0 := by rw [hk]; decide
      have hPe : va_P (dC, dI) classes (wL aa o cI cZ cJ (if (kAct (lvB kn vv (nn 0) x) (decide (nn 0 < 6)) (nn 4)) = 0 then (pfK kn (u1 vv 0 (nn 0) x) (nn 4) 0 (nI (nn 0)) 0 0) else kn) (if (kAct (lvB kn vv (nn 0) x) (decide (nn 0 < 6)) (nn 4)) = 0 then (pfV (u1 vv 0 (nn 0) x) (nn 4) 0 (nI (nn 0)) 0 0) else vv) (if (kAct (lvB kn vv (nn 0) x) (decide (nn 0 < 6)) (nn 4)) = 0 then vp_updL f 0 (((nI (nn 0))).toInt64) else f)) H1 := by rw [if_neg hn0, if_neg hn0, if_neg hn0]; exact hP1
      exact W.iret (v := 1) hx hb hr (fun t ht hW => ⟨by rw [er], by rw [ht]; exact hPe, hS.F ht⟩) hS.2.2 d_L_storey_14
    · refine vx_catch (E := eIS) (name := eIS) hown [⟨0, 9, 12, 13⟩] ⟨0, 9, 15, 15⟩ [] htab (fun z h => by rcases List.mem_cons.mp h with rfl | h; exact Or.inr ⟨by decide, eIA, hts _ cl_L_13, hNc⟩; cases h) (by decide) (by decide) (hts _ cl_L_15) ((hT.2.2.1 _ (List.mem_of_getElem? (i := 4) rfl)).use rfl) hce hcv hcl ?_
      refine lv_astore_n (lv' := [(3, .ref q9), (0, .ref (aa 0)), (1, .int x), (2, .ref o)]) hx hb d_L_storey_15 rfl hl (by decide) rfl (fun ls hl => ?_)
      refine lv_iconst (v := 2) hx hb d_L_storey_16 (by decide) ?_
      have er : (some (.int (nI (kAct (lvB kn vv (nn 0) x) (decide (nn 0 < 6)) (nn 4)))) : Option Value) = some (.int 2) := by rw [hk]; rfl
      have hn0 : ¬ (kAct (lvB kn vv (nn 0) x) (decide (nn 0 < 6)) (nn 4)) = 0 := by rw [hk]; decide
      have hPe : va_P (dC, dI) classes (wL aa o cI cZ cJ (if (kAct (lvB kn vv (nn 0) x) (decide (nn 0 < 6)) (nn 4)) = 0 then (pfK kn (u1 vv 0 (nn 0) x) (nn 4) 0 (nI (nn 0)) 0 0) else kn) (if (kAct (lvB kn vv (nn 0) x) (decide (nn 0 < 6)) (nn 4)) = 0 then (pfV (u1 vv 0 (nn 0) x) (nn 4) 0 (nI (nn 0)) 0 0) else vv) (if (kAct (lvB kn vv (nn 0) x) (decide (nn 0 < 6)) (nn 4)) = 0 then vp_updL f 0 (((nI (nn 0))).toInt64) else f)) H1 := by rw [if_neg hn0, if_neg hn0, if_neg hn0]; exact hP1
      exact W.iret (v := 2) hx hb hr (fun t ht hW => ⟨by rw [er], by rw [ht]; exact hPe, hS.F ht⟩) hS.2.2 d_L_storey_17
  · have hP : va_P (dC, dI) classes (wL aa o cI cZ cJ (pfK kn (u1 vv 0 (nn 0) x) (nn 4) 0 (nI (nn 0)) 0 0) (pfV (u1 vv 0 (nn 0) x) (nn 4) 0 (nI (nn 0)) 0 0) f) H1 := wL_mk hP1 ((hP 22 _ rfl).kept (hkp o (hP 22 _ rfl).lt (fun h => h.elim fun i hi => ho i hi.1 hi.2.symm)))
    have hD : va_D (aO aa o) (wL aa o cI cZ cJ (pfK kn (u1 vv 0 (nn 0) x) (nn 4) 0 (nI (nn 0)) 0 0) (pfV (u1 vv 0 (nn 0) x) (nn 4) 0 (nI (nn 0)) 0 0) f) := wL_D hdD ho
    refine lv_i2l (v := ((nI (nn 0))).toInt64) hx hb d_L_storey_7 rfl ?_
    refine va_last hx hb hK hP hD hS 22 2 rfl rfl (vp_in_nI (n := 0) (by decide) (by decide)) d_L_storey_8 (fun H locs hP hD hS => ?_)
    have hP : va_P (dC, dI) classes (wL aa o cI cZ cJ (pfK kn (u1 vv 0 (nn 0) x) (nn 4) 0 (nI (nn 0)) 0 0) (pfV (u1 vv 0 (nn 0) x) (nn 4) 0 (nI (nn 0)) 0 0) (vp_updL f 0 (((nI (nn 0))).toInt64))) H := hP
    refine lv_goto (tgt := 18) hx hb d_L_storey_9 (by decide) ?_
    refine lv_iconst (v := 0) hx hb d_L_storey_18 (by decide) ?_
    have er : (some (.int (nI (kAct (lvB kn vv (nn 0) x) (decide (nn 0 < 6)) (nn 4)))) : Option Value) = some (.int 0) := by rw [hk0]; rfl
    have hPe : va_P (dC, dI) classes (wL aa o cI cZ cJ (if (kAct (lvB kn vv (nn 0) x) (decide (nn 0 < 6)) (nn 4)) = 0 then (pfK kn (u1 vv 0 (nn 0) x) (nn 4) 0 (nI (nn 0)) 0 0) else kn) (if (kAct (lvB kn vv (nn 0) x) (decide (nn 0 < 6)) (nn 4)) = 0 then (pfV (u1 vv 0 (nn 0) x) (nn 4) 0 (nI (nn 0)) 0 0) else vv) (if (kAct (lvB kn vv (nn 0) x) (decide (nn 0 < 6)) (nn 4)) = 0 then vp_updL f 0 (((nI (nn 0))).toInt64) else f)) H := by rw [if_pos hk0, if_pos hk0, if_pos hk0]; exact hP
    exact W.iret (v := 0) hx hb hr (fun t ht hW => ⟨by rw [er], by rw [ht]; exact hPe, hS.F ht⟩) hS.2.2 d_L_storey_19
set_option maxRecDepth 100000 in
set_option maxHeartbeats 4000000 in
theorem c_L_level (hlt : l.stackTraces = false) (hP : va_P (dC, dI) classes (wL aa o cI cZ cJ kn vv f) H) (hdD : dD noT aa 22) (ho : ∀ i, i < 22 → ¬ aa i = o) (hI : okC kn nn) (x y : Int32) : Met l y_L_level (wBW y_L_level b_L_level 4 (some .int) [(0, 6, 9, 13), (0, 6, 12, 15)]) ({ frames := 8, cells := 1, slots := 6, locals := 134 } : Room) (rP [.ref (aa 0), .int x, .int y] H (kL dC dI cI cZ cJ (aO aa o))) (qW (some (.int (nI (kAct (haB (kn 0) x && lvB kn vv x.toNatClampNeg y) (true) (nn 4))))) (aO aa o) (fun H1 => va_P (dC, dI) classes (wL aa o cI cZ cJ (if (kAct (haB (kn 0) x && lvB kn vv x.toNatClampNeg y) (true) (nn 4)) = 0 then (pfK kn vv (nn 4) 3 x y 0) else kn) (if (kAct (haB (kn 0) x && lvB kn vv x.toNatClampNeg y) (true) (nn 4)) = 0 then (pfV vv (nn 4) 3 x y 0) else vv) f) H1)) 1 6 (aO aa o) := by
  refine va_MetW (cc := b_L_level) (maxL := 4) (ret := (some .int)) (hh := [(0, 6, 9, 13), (0, 6, 12, 15)]) (by decide) rfl ?_
  intro p e s m args below meth c s₁ B hml hv
  obtain ⟨rfl, rfl, hK, hT, hNc⟩ := hv
  have hx := B.exec
  have hb := B.bytes
  have hr := B.returns
  have hts0 := atoms_spec (ws := (wBW y_L_level b_L_level 4 (some .int) [(0, 6, 9, 13), (0, 6, 12, 15)])) B.pre
  have htab := vx_table (x := y_L_level) B (hts0 _ List.mem_cons_self)
  have hts : ∀ w9 ∈ BG, w9.before [.ref (aa 0), .int x, .int y].toArray s = true := fun w9 hw9 => hts0 w9 (List.mem_cons_of_mem _ hw9)
  have hown : s.vm.findClass R_L = some m.cls := findClass_of_methodNamed B.named
  have hlocks := B.notSynchronized
  have hK : va_K (dC, dI) classes [(cI, .int), (cZ, .boolean), (cJ, .long)] s := hK
  have hS : va_S (aO aa o) s.heap s.heap [] := va_S.rf
  have hl := lv_entry ([.ref (aa 0), .int x, .int y]) (n := 4) (Nat.le_of_ble_eq_true rfl)
  rw [lg_entry_eq]
  generalize (lg_sl ([.ref (aa 0), .int x, .int y]) ++ List.replicate (4 - (lg_sl ([.ref (aa 0), .int x, .int y])).length) Slot.unset).toArray = ls at hl ⊢
  have hl : lv_has ls 4 [(0, .ref (aa 0)), (1, .int x), (2, .int y)] := hl
  refine lv_aload_n hx hb d_L_level_0 rfl (lv_at hl 0 rfl) ?_
  refine lv_iload_n hx hb d_L_level_1 rfl (lv_at hl 1 rfl) ?_
  refine lv_iload_n hx hb d_L_level_2 rfl (lv_at hl 2 rfl) ?_
  refine cT (vx_runV (As := [.int x, .int y]) (rest := []) ⟨hx, hb, hml, hown, hts⟩ (c_C_level hlt (wL_l hP) hdD hI x y) (cwV 2 hts (wB_goodV (fun _ h => h) ml_L_17 im_C_level se_C_level ini_C co_C_level) rfl rfl rfl (by decide +kernel) ⟨Nat.le_of_ble_eq_true rfl, Nat.le_of_ble_eq_true rfl⟩) (pVL hK hT (fun q h => Or.inl h) hS (wL_l hP) (ci := 0) (q0 := 0) rfl rfl _) rfl rfl hl.1 rfl (lv_room (Nat.le_of_ble_eq_true rfl)) d_L_level_3 ⟨Nat.le_of_ble_eq_true rfl, Nat.le_of_ble_eq_true rfl⟩) hS (fun q h => Or.inl h) (fun E ce q9 H1 locs1 hE hz hkp hS hce hcv hcl => ?_) (fun hk0 H1 locs1 hP1 hS hz hkp => ?_)
  · have hP1 : va_P (dC, dI) classes (wL aa o cI cZ cJ kn vv f) H1 := hP.kept (fun k q hk => hkp q.1 (hP k q hk).lt)
    rcases hE with ⟨hk, rfl⟩ | ⟨hk, rfl⟩
    · refine vx_catch (E := eIA) (name := eIA) hown [] ⟨0, 6, 9, 13⟩ [⟨0, 6, 12, 15⟩] htab (fun z h => by cases h) (by decide) (by decide) (hts _ cl_L_13) ((hT.2.2.1 _ (List.mem_of_getElem? (i := 3) rfl)).use rfl) hce hcv hcl ?_
      refine lv_astore_n (lv' := [(3, .ref q9), (0, .ref (aa 0)), (1, .int x), (2, .int y)]) hx hb d_L_level_9 rfl hl (by decide) rfl (fun ls hl => ?_)
      refine lv_iconst (v := 1) hx hb d_L_level_10 (by decide) ?_
      have er : (some (.int (nI (kAct (haB (kn 0) x && lvB kn vv x.toNatClampNeg y) (true) (nn 4)))) : Option Value) = some (.int 1) := by rw [hk]; rfl
      have hn0 : ¬ (kAct (haB (kn 0) x && lvB kn vv x.toNatClampNeg y) (true) (nn 4)) = 0 := by rw [hk]; decide
      have hPe : va_P (dC, dI) classes (wL aa o cI cZ cJ (if (kAct (haB (kn 0) x && lvB kn vv x.toNatClampNeg y) (true) (nn 4)) = 0 then (pfK kn vv (nn 4) 3 x y 0) else kn) (if (kAct (haB (kn 0) x && lvB kn vv x.toNatClampNeg y) (true) (nn 4)) = 0 then (pfV vv (nn 4) 3 x y 0) else vv) f) H1 := by rw [if_neg hn0, if_neg hn0]; exact hP1
      exact W.iret (v := 1) hx hb hr (fun t ht hW => ⟨by rw [er], by rw [ht]; exact hPe, hS.F ht⟩) hS.2.2 d_L_level_11
    · refine vx_catch (E := eIS) (name := eIS) hown [⟨0, 6, 9, 13⟩] ⟨0, 6, 12, 15⟩ [] htab (fun z h => by rcases List.mem_cons.mp h with rfl | h; exact Or.inr ⟨by decide, eIA, hts _ cl_L_13, hNc⟩; cases h) (by decide) (by decide) (hts _ cl_L_15) ((hT.2.2.1 _ (List.mem_of_getElem? (i := 4) rfl)).use rfl) hce hcv hcl ?_
      refine lv_astore_n (lv' := [(3, .ref q9), (0, .ref (aa 0)), (1, .int x), (2, .int y)]) hx hb d_L_level_12 rfl hl (by decide) rfl (fun ls hl => ?_)
      refine lv_iconst (v := 2) hx hb d_L_level_13 (by decide) ?_
      have er : (some (.int (nI (kAct (haB (kn 0) x && lvB kn vv x.toNatClampNeg y) (true) (nn 4)))) : Option Value) = some (.int 2) := by rw [hk]; rfl
      have hn0 : ¬ (kAct (haB (kn 0) x && lvB kn vv x.toNatClampNeg y) (true) (nn 4)) = 0 := by rw [hk]; decide
      have hPe : va_P (dC, dI) classes (wL aa o cI cZ cJ (if (kAct (haB (kn 0) x && lvB kn vv x.toNatClampNeg y) (true) (nn 4)) = 0 then (pfK kn vv (nn 4) 3 x y 0) else kn) (if (kAct (haB (kn 0) x && lvB kn vv x.toNatClampNeg y) (true) (nn 4)) = 0 then (pfV vv (nn 4) 3 x y 0) else vv) f) H1 := by rw [if_neg hn0, if_neg hn0]; exact hP1
      exact W.iret (v := 2) hx hb hr (fun t ht hW => ⟨by rw [er], by rw [ht]; exact hPe, hS.F ht⟩) hS.2.2 d_L_level_14
  · have hP : va_P (dC, dI) classes (wL aa o cI cZ cJ (pfK kn vv (nn 4) 3 x y 0) (pfV vv (nn 4) 3 x y 0) f) H1 := wL_mk hP1 ((hP 22 _ rfl).kept (hkp o (hP 22 _ rfl).lt (fun h => h.elim fun i hi => ho i hi.1 hi.2.symm)))
    have hD : va_D (aO aa o) (wL aa o cI cZ cJ (pfK kn vv (nn 4) 3 x y 0) (pfV vv (nn 4) 3 x y 0) f) := wL_D hdD ho
    refine lv_goto (tgt := 15) hx hb d_L_level_6 (by decide) ?_
    refine lv_iconst (v := 0) hx hb d_L_level_15 (by decide) ?_
    have er : (some (.int (nI (kAct (haB (kn 0) x && lvB kn vv x.toNatClampNeg y) (true) (nn 4)))) : Option Value) = some (.int 0) := by rw [hk0]; rfl
    have hPe : va_P (dC, dI) classes (wL aa o cI cZ cJ (if (kAct (haB (kn 0) x && lvB kn vv x.toNatClampNeg y) (true) (nn 4)) = 0 then (pfK kn vv (nn 4) 3 x y 0) else kn) (if (kAct (haB (kn 0) x && lvB kn vv x.toNatClampNeg y) (true) (nn 4)) = 0 then (pfV vv (nn 4) 3 x y 0) else vv) f) H1 := by rw [if_pos hk0, if_pos hk0]; exact hP
    exact W.iret (v := 0) hx hb hr (fun t ht hW => ⟨by rw [er], by rw [ht]; exact hPe, hS.F ht⟩) hS.2.2 d_L_level_16
set_option maxRecDepth 100000 in
set_option maxHeartbeats 4000000 in
theorem c_L_type (hlt : l.stackTraces = false) (hP : va_P (dC, dI) classes (wL aa o cI cZ cJ kn vv f) H) (hdD : dD noT aa 22) (ho : ∀ i, i < 22 → ¬ aa i = o) (hI : okC kn nn) (x : Int32) : Met l y_L_type (wBW y_L_type b_L_type 4 (some .int) [(0, 9, 12, 13), (0, 9, 15, 15)]) ({ frames := 8, cells := 1, slots := 6, locals := 132 } : Room) (rP [.ref (aa 0), .int x, .ref o] H (kL dC dI cI cZ cJ (aO aa o))) (qW (some (.int (nI (kAct (thB x) (decide (nn 1 < 8)) (nn 4))))) (aO aa o) (fun H1 => va_P (dC, dI) classes (wL aa o cI cZ cJ (if (kAct (thB x) (decide (nn 1 < 8)) (nn 4)) = 0 then (pfK kn (u1 vv 1 (nn 1) x) (nn 4) 1 (nI (nn 1)) 0 0) else kn) (if (kAct (thB x) (decide (nn 1 < 8)) (nn 4)) = 0 then (pfV (u1 vv 1 (nn 1) x) (nn 4) 1 (nI (nn 1)) 0 0) else vv) (if (kAct (thB x) (decide (nn 1 < 8)) (nn 4)) = 0 then vp_updL f 0 (((nI (nn 1))).toInt64) else f)) H1)) 1 6 (aO aa o) := by
  refine va_MetW (cc := b_L_type) (maxL := 4) (ret := (some .int)) (hh := [(0, 9, 12, 13), (0, 9, 15, 15)]) (by decide) rfl ?_
  intro p e s m args below meth c s₁ B hml hv
  obtain ⟨rfl, rfl, hK, hT, hNc⟩ := hv
  have hx := B.exec
  have hb := B.bytes
  have hr := B.returns
  have hts0 := atoms_spec (ws := (wBW y_L_type b_L_type 4 (some .int) [(0, 9, 12, 13), (0, 9, 15, 15)])) B.pre
  have htab := vx_table (x := y_L_type) B (hts0 _ List.mem_cons_self)
  have hts : ∀ w9 ∈ BG, w9.before [.ref (aa 0), .int x, .ref o].toArray s = true := fun w9 hw9 => hts0 w9 (List.mem_cons_of_mem _ hw9)
  have hown : s.vm.findClass R_L = some m.cls := findClass_of_methodNamed B.named
  have hlocks := B.notSynchronized
  have hK : va_K (dC, dI) classes [(cI, .int), (cZ, .boolean), (cJ, .long)] s := hK
  have hS : va_S (aO aa o) s.heap s.heap [] := va_S.rf
  have hl := lv_entry ([.ref (aa 0), .int x, .ref o]) (n := 4) (Nat.le_of_ble_eq_true rfl)
  rw [lg_entry_eq]
  generalize (lg_sl ([.ref (aa 0), .int x, .ref o]) ++ List.replicate (4 - (lg_sl ([.ref (aa 0), .int x, .ref o])).length) Slot.unset).toArray = ls at hl ⊢
  have hl : lv_has ls 4 [(0, .ref (aa 0)), (1, .int x), (2, .ref o)] := hl
  refine lv_aload_n hx hb d_L_type_0 rfl (lv_at hl 2 rfl) ?_
  refine lv_iconst (v := 0) hx hb d_L_type_1 (by decide) ?_
  refine lv_aload_n hx hb d_L_type_2 rfl (lv_at hl 0 rfl) ?_
  refine lv_iload_n hx hb d_L_type_3 rfl (lv_at hl 1 rfl) ?_
  refine cT (vx_runV (As := [.int x]) (rest := [.int 0, .ref o]) ⟨hx, hb, hml, hown, hts⟩ (c_C_type hlt (wL_l hP) hdD hI x) (cwV 1 hts (wB_goodV (fun _ h => h) ml_L_21 im_C_type se_C_type ini_C co_C_type) rfl rfl rfl (by decide +kernel) ⟨Nat.le_of_ble_eq_true rfl, Nat.le_of_ble_eq_true rfl⟩) (pVL hK hT (fun q h => Or.inl h) hS (wL_l hP) (ci := 0) (q0 := 0) rfl rfl _) rfl rfl hl.1 rfl (lv_room (Nat.le_of_ble_eq_true rfl)) d_L_type_4 ⟨Nat.le_of_ble_eq_true rfl, Nat.le_of_ble_eq_true rfl⟩) hS (fun q h => Or.inl h) (fun E ce q9 H1 locs1 hE hz hkp hS hce hcv hcl => ?_) (fun hk0 H1 locs1 hP1 hS hz hkp => ?_)
  · have hP1 : va_P (dC, dI) classes (wL aa o cI cZ cJ kn vv f) H1 := hP.kept (fun k q hk => hkp q.1 (hP k q hk).lt)
    rcases hE with ⟨hk, rfl⟩ | ⟨hk, rfl⟩
    · refine vx_catch (E := eIA) (name := eIA) hown [] ⟨0, 9, 12, 13⟩ [⟨0, 9, 15, 15⟩] htab (fun z h => by cases h) (by decide) (by decide) (hts _ cl_L_13) ((hT.2.2.1 _ (List.mem_of_getElem? (i := 3) rfl)).use rfl) hce hcv hcl ?_
      refine lv_astore_n (lv' := [(3, .ref q9), (0, .ref (aa 0)), (1, .int x), (2, .ref o)]) hx hb d_L_type_12 rfl hl (by decide) rfl (fun ls hl => ?_)
      refine lv_iconst (v := 1) hx hb d_L_type_13 (by decide) ?_
      have er : (some (.int (nI (kAct (thB x) (decide (nn 1 < 8)) (nn 4)))) : Option Value) = some (.int 1) := by rw [hk]; rfl
      have hn0 : ¬ (kAct (thB x) (decide (nn 1 < 8)) (nn 4)) = 0 := by rw [hk]; decide
      have hPe : va_P (dC, dI) classes (wL aa o cI cZ cJ (if (kAct (thB x) (decide (nn 1 < 8)) (nn 4)) = 0 then (pfK kn (u1 vv 1 (nn 1) x) (nn 4) 1 (nI (nn 1)) 0 0) else kn) (if (kAct (thB x) (decide (nn 1 < 8)) (nn 4)) = 0 then (pfV (u1 vv 1 (nn 1) x) (nn 4) 1 (nI (nn 1)) 0 0) else vv) (if (kAct (thB x) (decide (nn 1 < 8)) (nn 4)) = 0 then vp_updL f 0 (((nI (nn 1))).toInt64) else f)) H1 := by rw [if_neg hn0, if_neg hn0, if_neg hn0]; exact hP1
      exact W.iret (v := 1) hx hb hr (fun t ht hW => ⟨by rw [er], by rw [ht]; exact hPe, hS.F ht⟩) hS.2.2 d_L_type_14
    · refine vx_catch (E := eIS) (name := eIS) hown [⟨0, 9, 12, 13⟩] ⟨0, 9, 15, 15⟩ [] htab (fun z h => by rcases List.mem_cons.mp h with rfl | h; exact Or.inr ⟨by decide, eIA, hts _ cl_L_13, hNc⟩; cases h) (by decide) (by decide) (hts _ cl_L_15) ((hT.2.2.1 _ (List.mem_of_getElem? (i := 4) rfl)).use rfl) hce hcv hcl ?_
      refine lv_astore_n (lv' := [(3, .ref q9), (0, .ref (aa 0)), (1, .int x), (2, .ref o)]) hx hb d_L_type_15 rfl hl (by decide) rfl (fun ls hl => ?_)
      refine lv_iconst (v := 2) hx hb d_L_type_16 (by decide) ?_
      have er : (some (.int (nI (kAct (thB x) (decide (nn 1 < 8)) (nn 4)))) : Option Value) = some (.int 2) := by rw [hk]; rfl
      have hn0 : ¬ (kAct (thB x) (decide (nn 1 < 8)) (nn 4)) = 0 := by rw [hk]; decide
      have hPe : va_P (dC, dI) classes (wL aa o cI cZ cJ (if (kAct (thB x) (decide (nn 1 < 8)) (nn 4)) = 0 then (pfK kn (u1 vv 1 (nn 1) x) (nn 4) 1 (nI (nn 1)) 0 0) else kn) (if (kAct (thB x) (decide (nn 1 < 8)) (nn 4)) = 0 then (pfV (u1 vv 1 (nn 1) x) (nn 4) 1 (nI (nn 1)) 0 0) else vv) (if (kAct (thB x) (decide (nn 1 < 8)) (nn 4)) = 0 then vp_updL f 0 (((nI (nn 1))).toInt64) else f)) H1 := by rw [if_neg hn0, if_neg hn0, if_neg hn0]; exact hP1
      exact W.iret (v := 2) hx hb hr (fun t ht hW => ⟨by rw [er], by rw [ht]; exact hPe, hS.F ht⟩) hS.2.2 d_L_type_17
  · have hP : va_P (dC, dI) classes (wL aa o cI cZ cJ (pfK kn (u1 vv 1 (nn 1) x) (nn 4) 1 (nI (nn 1)) 0 0) (pfV (u1 vv 1 (nn 1) x) (nn 4) 1 (nI (nn 1)) 0 0) f) H1 := wL_mk hP1 ((hP 22 _ rfl).kept (hkp o (hP 22 _ rfl).lt (fun h => h.elim fun i hi => ho i hi.1 hi.2.symm)))
    have hD : va_D (aO aa o) (wL aa o cI cZ cJ (pfK kn (u1 vv 1 (nn 1) x) (nn 4) 1 (nI (nn 1)) 0 0) (pfV (u1 vv 1 (nn 1) x) (nn 4) 1 (nI (nn 1)) 0 0) f) := wL_D hdD ho
    refine lv_i2l (v := ((nI (nn 1))).toInt64) hx hb d_L_type_7 rfl ?_
    refine va_last hx hb hK hP hD hS 22 2 rfl rfl (vp_in_nI (n := 0) (by decide) (by decide)) d_L_type_8 (fun H locs hP hD hS => ?_)
    have hP : va_P (dC, dI) classes (wL aa o cI cZ cJ (pfK kn (u1 vv 1 (nn 1) x) (nn 4) 1 (nI (nn 1)) 0 0) (pfV (u1 vv 1 (nn 1) x) (nn 4) 1 (nI (nn 1)) 0 0) (vp_updL f 0 (((nI (nn 1))).toInt64))) H := hP
    refine lv_goto (tgt := 18) hx hb d_L_type_9 (by decide) ?_
    refine lv_iconst (v := 0) hx hb d_L_type_18 (by decide) ?_
    have er : (some (.int (nI (kAct (thB x) (decide (nn 1 < 8)) (nn 4)))) : Option Value) = some (.int 0) := by rw [hk0]; rfl
    have hPe : va_P (dC, dI) classes (wL aa o cI cZ cJ (if (kAct (thB x) (decide (nn 1 < 8)) (nn 4)) = 0 then (pfK kn (u1 vv 1 (nn 1) x) (nn 4) 1 (nI (nn 1)) 0 0) else kn) (if (kAct (thB x) (decide (nn 1 < 8)) (nn 4)) = 0 then (pfV (u1 vv 1 (nn 1) x) (nn 4) 1 (nI (nn 1)) 0 0) else vv) (if (kAct (thB x) (decide (nn 1 < 8)) (nn 4)) = 0 then vp_updL f 0 (((nI (nn 1))).toInt64) else f)) H := by rw [if_pos hk0, if_pos hk0, if_pos hk0]; exact hP
    exact W.iret (v := 0) hx hb hr (fun t ht hW => ⟨by rw [er], by rw [ht]; exact hPe, hS.F ht⟩) hS.2.2 d_L_type_19
set_option maxRecDepth 100000 in
set_option maxHeartbeats 4000000 in
theorem c_L_thickness (hlt : l.stackTraces = false) (hP : va_P (dC, dI) classes (wL aa o cI cZ cJ kn vv f) H) (hdD : dD noT aa 22) (ho : ∀ i, i < 22 → ¬ aa i = o) (hI : okC kn nn) (x y : Int32) : Met l y_L_thickness (wBW y_L_thickness b_L_thickness 4 (some .int) [(0, 6, 9, 13), (0, 6, 12, 15)]) ({ frames := 8, cells := 1, slots := 6, locals := 133 } : Room) (rP [.ref (aa 0), .int x, .int y] H (kL dC dI cI cZ cJ (aO aa o))) (qW (some (.int (nI (kAct (haB (kn 1) x && thB y) (true) (nn 4))))) (aO aa o) (fun H1 => va_P (dC, dI) classes (wL aa o cI cZ cJ (if (kAct (haB (kn 1) x && thB y) (true) (nn 4)) = 0 then (pfK kn vv (nn 4) 4 x y 0) else kn) (if (kAct (haB (kn 1) x && thB y) (true) (nn 4)) = 0 then (pfV vv (nn 4) 4 x y 0) else vv) f) H1)) 1 6 (aO aa o) := by
  refine va_MetW (cc := b_L_thickness) (maxL := 4) (ret := (some .int)) (hh := [(0, 6, 9, 13), (0, 6, 12, 15)]) (by decide) rfl ?_
  intro p e s m args below meth c s₁ B hml hv
  obtain ⟨rfl, rfl, hK, hT, hNc⟩ := hv
  have hx := B.exec
  have hb := B.bytes
  have hr := B.returns
  have hts0 := atoms_spec (ws := (wBW y_L_thickness b_L_thickness 4 (some .int) [(0, 6, 9, 13), (0, 6, 12, 15)])) B.pre
  have htab := vx_table (x := y_L_thickness) B (hts0 _ List.mem_cons_self)
  have hts : ∀ w9 ∈ BG, w9.before [.ref (aa 0), .int x, .int y].toArray s = true := fun w9 hw9 => hts0 w9 (List.mem_cons_of_mem _ hw9)
  have hown : s.vm.findClass R_L = some m.cls := findClass_of_methodNamed B.named
  have hlocks := B.notSynchronized
  have hK : va_K (dC, dI) classes [(cI, .int), (cZ, .boolean), (cJ, .long)] s := hK
  have hS : va_S (aO aa o) s.heap s.heap [] := va_S.rf
  have hl := lv_entry ([.ref (aa 0), .int x, .int y]) (n := 4) (Nat.le_of_ble_eq_true rfl)
  rw [lg_entry_eq]
  generalize (lg_sl ([.ref (aa 0), .int x, .int y]) ++ List.replicate (4 - (lg_sl ([.ref (aa 0), .int x, .int y])).length) Slot.unset).toArray = ls at hl ⊢
  have hl : lv_has ls 4 [(0, .ref (aa 0)), (1, .int x), (2, .int y)] := hl
  refine lv_aload_n hx hb d_L_thickness_0 rfl (lv_at hl 0 rfl) ?_
  refine lv_iload_n hx hb d_L_thickness_1 rfl (lv_at hl 1 rfl) ?_
  refine lv_iload_n hx hb d_L_thickness_2 rfl (lv_at hl 2 rfl) ?_
  refine cT (vx_runV (As := [.int x, .int y]) (rest := []) ⟨hx, hb, hml, hown, hts⟩ (c_C_thickness hlt (wL_l hP) hdD hI x y) (cwV 2 hts (wB_goodV (fun _ h => h) ml_L_24 im_C_thickness se_C_thickness ini_C co_C_thickness) rfl rfl rfl (by decide +kernel) ⟨Nat.le_of_ble_eq_true rfl, Nat.le_of_ble_eq_true rfl⟩) (pVL hK hT (fun q h => Or.inl h) hS (wL_l hP) (ci := 0) (q0 := 0) rfl rfl _) rfl rfl hl.1 rfl (lv_room (Nat.le_of_ble_eq_true rfl)) d_L_thickness_3 ⟨Nat.le_of_ble_eq_true rfl, Nat.le_of_ble_eq_true rfl⟩) hS (fun q h => Or.inl h) (fun E ce q9 H1 locs1 hE hz hkp hS hce hcv hcl => ?_) (fun hk0 H1 locs1 hP1 hS hz hkp => ?_)
  · have hP1 : va_P (dC, dI) classes (wL aa o cI cZ cJ kn vv f) H1 := hP.kept (fun k q hk => hkp q.1 (hP k q hk).lt)
    rcases hE with ⟨hk, rfl⟩ | ⟨hk, rfl⟩
    · refine vx_catch (E := eIA) (name := eIA) hown [] ⟨0, 6, 9, 13⟩ [⟨0, 6, 12, 15⟩] htab (fun z h => by cases h) (by decide) (by decide) (hts _ cl_L_13) ((hT.2.2.1 _ (List.mem_of_getElem? (i := 3) rfl)).use rfl) hce hcv hcl ?_
      refine lv_astore_n (lv' := [(3, .ref q9), (0, .ref (aa 0)), (1, .int x), (2, .int y)]) hx hb d_L_thickness_9 rfl hl (by decide) rfl (fun ls hl => ?_)
      refine lv_iconst (v := 1) hx hb d_L_thickness_10 (by decide) ?_
      have er : (some (.int (nI (kAct (haB (kn 1) x && thB y) (true) (nn 4)))) : Option Value) = some (.int 1) := by rw [hk]; rfl
      have hn0 : ¬ (kAct (haB (kn 1) x && thB y) (true) (nn 4)) = 0 := by rw [hk]; decide
      have hPe : va_P (dC, dI) classes (wL aa o cI cZ cJ (if (kAct (haB (kn 1) x && thB y) (true) (nn 4)) = 0 then (pfK kn vv (nn 4) 4 x y 0) else kn) (if (kAct (haB (kn 1) x && thB y) (true) (nn 4)) = 0 then (pfV vv (nn 4) 4 x y 0) else vv) f) H1 := by rw [if_neg hn0, if_neg hn0]; exact hP1
      exact W.iret (v := 1) hx hb hr (fun t ht hW => ⟨by rw [er], by rw [ht]; exact hPe, hS.F ht⟩) hS.2.2 d_L_thickness_11
    · refine vx_catch (E := eIS) (name := eIS) hown [⟨0, 6, 9, 13⟩] ⟨0, 6, 12, 15⟩ [] htab (fun z h => by rcases List.mem_cons.mp h with rfl | h; exact Or.inr ⟨by decide, eIA, hts _ cl_L_13, hNc⟩; cases h) (by decide) (by decide) (hts _ cl_L_15) ((hT.2.2.1 _ (List.mem_of_getElem? (i := 4) rfl)).use rfl) hce hcv hcl ?_
      refine lv_astore_n (lv' := [(3, .ref q9), (0, .ref (aa 0)), (1, .int x), (2, .int y)]) hx hb d_L_thickness_12 rfl hl (by decide) rfl (fun ls hl => ?_)
      refine lv_iconst (v := 2) hx hb d_L_thickness_13 (by decide) ?_
      have er : (some (.int (nI (kAct (haB (kn 1) x && thB y) (true) (nn 4)))) : Option Value) = some (.int 2) := by rw [hk]; rfl
      have hn0 : ¬ (kAct (haB (kn 1) x && thB y) (true) (nn 4)) = 0 := by rw [hk]; decide
      have hPe : va_P (dC, dI) classes (wL aa o cI cZ cJ (if (kAct (haB (kn 1) x && thB y) (true) (nn 4)) = 0 then (pfK kn vv (nn 4) 4 x y 0) else kn) (if (kAct (haB (kn 1) x && thB y) (true) (nn 4)) = 0 then (pfV vv (nn 4) 4 x y 0) else vv) f) H1 := by rw [if_neg hn0, if_neg hn0]; exact hP1
      exact W.iret (v := 2) hx hb hr (fun t ht hW => ⟨by rw [er], by rw [ht]; exact hPe, hS.F ht⟩) hS.2.2 d_L_thickness_14
  · have hP : va_P (dC, dI) classes (wL aa o cI cZ cJ (pfK kn vv (nn 4) 4 x y 0) (pfV vv (nn 4) 4 x y 0) f) H1 := wL_mk hP1 ((hP 22 _ rfl).kept (hkp o (hP 22 _ rfl).lt (fun h => h.elim fun i hi => ho i hi.1 hi.2.symm)))
    have hD : va_D (aO aa o) (wL aa o cI cZ cJ (pfK kn vv (nn 4) 4 x y 0) (pfV vv (nn 4) 4 x y 0) f) := wL_D hdD ho
    refine lv_goto (tgt := 15) hx hb d_L_thickness_6 (by decide) ?_
    refine lv_iconst (v := 0) hx hb d_L_thickness_15 (by decide) ?_
    have er : (some (.int (nI (kAct (haB (kn 1) x && thB y) (true) (nn 4)))) : Option Value) = some (.int 0) := by rw [hk0]; rfl
    have hPe : va_P (dC, dI) classes (wL aa o cI cZ cJ (if (kAct (haB (kn 1) x && thB y) (true) (nn 4)) = 0 then (pfK kn vv (nn 4) 4 x y 0) else kn) (if (kAct (haB (kn 1) x && thB y) (true) (nn 4)) = 0 then (pfV vv (nn 4) 4 x y 0) else vv) f) H1 := by rw [if_pos hk0, if_pos hk0]; exact hP
    exact W.iret (v := 0) hx hb hr (fun t ht hW => ⟨by rw [er], by rw [ht]; exact hPe, hS.F ht⟩) hS.2.2 d_L_thickness_16
set_option maxRecDepth 100000 in
set_option maxHeartbeats 4000000 in
theorem c_L_wall (hlt : l.stackTraces = false) (hP : va_P (dC, dI) classes (wL aa o cI cZ cJ kn vv f) H) (hdD : dD noT aa 22) (ho : ∀ i, i < 22 → ¬ aa i = o) (hI : okC kn nn) (x1 x2 x3 x4 x5 x6 : Int32) : Met l y_L_wall (wBW y_L_wall b_L_wall 9 (some .int) [(0, 18, 21, 13), (0, 18, 25, 15)]) ({ frames := 8, cells := 1, slots := 6, locals := 140 } : Room) (rP [.ref (aa 0), .int x1, .int x2, .int x3, .int x4, .int x5, .int x6, .ref o] H (kL dC dI cI cZ cJ (aO aa o))) (qW (some (.int (nI (kAct (haB (kn 0) x1 && haB (kn 1) x2 && plB x3.toInt64 x4.toInt64 && plB x5.toInt64 x6.toInt64 && (decide (x3 = x5) != decide (x4 = x6))) (decide (nn 2 < 40)) (nn 4))))) (aO aa o) (fun H1 => va_P (dC, dI) classes (wL aa o cI cZ cJ (if (kAct (haB (kn 0) x1 && haB (kn 1) x2 && plB x3.toInt64 x4.toInt64 && plB x5.toInt64 x6.toInt64 && (decide (x3 = x5) != decide (x4 = x6))) (decide (nn 2 < 40)) (nn 4)) = 0 then (pfK kn (nwV vv (nn 2) x1 x2 x3 x4 x5 x6) (nn 4) 2 (nI (nn 2)) 1 0) else kn) (if (kAct (haB (kn 0) x1 && haB (kn 1) x2 && plB x3.toInt64 x4.toInt64 && plB x5.toInt64 x6.toInt64 && (decide (x3 = x5) != decide (x4 = x6))) (decide (nn 2 < 40)) (nn 4)) = 0 then (pfV (nwV vv (nn 2) x1 x2 x3 x4 x5 x6) (nn 4) 2 (nI (nn 2)) 1 0) else vv) (if (kAct (haB (kn 0) x1 && haB (kn 1) x2 && plB x3.toInt64 x4.toInt64 && plB x5.toInt64 x6.toInt64 && (decide (x3 = x5) != decide (x4 = x6))) (decide (nn 2 < 40)) (nn 4)) = 0 then vp_updL f 0 (((nI (nn 2))).toInt64) else f)) H1)) 1 6 (aO aa o) := by
  refine va_MetW (cc := b_L_wall) (maxL := 9) (ret := (some .int)) (hh := [(0, 18, 21, 13), (0, 18, 25, 15)]) (by decide) rfl ?_
  intro p e s m args below meth c s₁ B hml hv
  obtain ⟨rfl, rfl, hK, hT, hNc⟩ := hv
  have hx := B.exec
  have hb := B.bytes
  have hr := B.returns
  have hts0 := atoms_spec (ws := (wBW y_L_wall b_L_wall 9 (some .int) [(0, 18, 21, 13), (0, 18, 25, 15)])) B.pre
  have htab := vx_table (x := y_L_wall) B (hts0 _ List.mem_cons_self)
  have hts : ∀ w9 ∈ BG, w9.before [.ref (aa 0), .int x1, .int x2, .int x3, .int x4, .int x5, .int x6, .ref o].toArray s = true := fun w9 hw9 => hts0 w9 (List.mem_cons_of_mem _ hw9)
  have hown : s.vm.findClass R_L = some m.cls := findClass_of_methodNamed B.named
  have hlocks := B.notSynchronized
  have hK : va_K (dC, dI) classes [(cI, .int), (cZ, .boolean), (cJ, .long)] s := hK
  have hS : va_S (aO aa o) s.heap s.heap [] := va_S.rf
  have hl := lv_entry ([.ref (aa 0), .int x1, .int x2, .int x3, .int x4, .int x5, .int x6, .ref o]) (n := 9) (Nat.le_of_ble_eq_true rfl)
  rw [lg_entry_eq]
  generalize (lg_sl ([.ref (aa 0), .int x1, .int x2, .int x3, .int x4, .int x5, .int x6, .ref o]) ++ List.replicate (9 - (lg_sl ([.ref (aa 0), .int x1, .int x2, .int x3, .int x4, .int x5, .int x6, .ref o])).length) Slot.unset).toArray = ls at hl ⊢
  have hl : lv_has ls 9 [(0, .ref (aa 0)), (1, .int x1), (2, .int x2), (3, .int x3), (4, .int x4), (5, .int x5), (6, .int x6), (7, .ref o)] := hl
  refine lv_aload hx hb d_L_wall_0 (lv_at hl 7 rfl) ?_
  refine lv_iconst (v := 0) hx hb d_L_wall_2 (by decide) ?_
  refine lv_aload_n hx hb d_L_wall_3 rfl (lv_at hl 0 rfl) ?_
  refine lv_iload_n hx hb d_L_wall_4 rfl (lv_at hl 1 rfl) ?_
  refine lv_iload_n hx hb d_L_wall_5 rfl (lv_at hl 2 rfl) ?_
  refine lv_iload_n hx hb d_L_wall_6 rfl (lv_at hl 3 rfl) ?_
  refine lv_iload hx hb d_L_wall_7 (lv_at hl 4 rfl) ?_
  refine lv_iload hx hb d_L_wall_9 (lv_at hl 5 rfl) ?_
  refine lv_iload hx hb d_L_wall_11 (lv_at hl 6 rfl) ?_
  refine cT (vx_runV (As := [.int x1, .int x2, .int x3, .int x4, .int x5, .int x6]) (rest := [.int 0, .ref o]) ⟨hx, hb, hml, hown, hts⟩ (c_C_wall hlt (wL_l hP) hdD hI x1 x2 x3 x4 x5 x6) (cwV 6 hts (wB_goodV (fun _ h => h) ml_L_27 im_C_wall se_C_wall ini_C co_C_wall) rfl rfl rfl (by decide +kernel) ⟨Nat.le_of_ble_eq_true rfl, Nat.le_of_ble_eq_true rfl⟩) (pVL hK hT (fun q h => Or.inl h) hS (wL_l hP) (ci := 0) (q0 := 0) rfl rfl _) rfl rfl hl.1 rfl (lv_room (Nat.le_of_ble_eq_true rfl)) d_L_wall_13 ⟨Nat.le_of_ble_eq_true rfl, Nat.le_of_ble_eq_true rfl⟩) hS (fun q h => Or.inl h) (fun E ce q9 H1 locs1 hE hz hkp hS hce hcv hcl => ?_) (fun hk0 H1 locs1 hP1 hS hz hkp => ?_)
  · have hP1 : va_P (dC, dI) classes (wL aa o cI cZ cJ kn vv f) H1 := hP.kept (fun k q hk => hkp q.1 (hP k q hk).lt)
    rcases hE with ⟨hk, rfl⟩ | ⟨hk, rfl⟩
    · refine vx_catch (E := eIA) (name := eIA) hown [] ⟨0, 18, 21, 13⟩ [⟨0, 18, 25, 15⟩] htab (fun z h => by cases h) (by decide) (by decide) (hts _ cl_L_13) ((hT.2.2.1 _ (List.mem_of_getElem? (i := 3) rfl)).use rfl) hce hcv hcl ?_
      refine lv_astore (lv' := [(8, .ref q9), (0, .ref (aa 0)), (1, .int x1), (2, .int x2), (3, .int x3), (4, .int x4), (5, .int x5), (6, .int x6), (7, .ref o)]) hx hb d_L_wall_21 hl (by decide) rfl (fun ls hl => ?_)
      refine lv_iconst (v := 1) hx hb d_L_wall_23 (by decide) ?_
      have er : (some (.int (nI (kAct (haB (kn 0) x1 && haB (kn 1) x2 && plB x3.toInt64 x4.toInt64 && plB x5.toInt64 x6.toInt64 && (decide (x3 = x5) != decide (x4 = x6))) (decide (nn 2 < 40)) (nn 4)))) : Option Value) = some (.int 1) := by rw [hk]; rfl
      have hn0 : ¬ (kAct (haB (kn 0) x1 && haB (kn 1) x2 && plB x3.toInt64 x4.toInt64 && plB x5.toInt64 x6.toInt64 && (decide (x3 = x5) != decide (x4 = x6))) (decide (nn 2 < 40)) (nn 4)) = 0 := by rw [hk]; decide
      have hPe : va_P (dC, dI) classes (wL aa o cI cZ cJ (if (kAct (haB (kn 0) x1 && haB (kn 1) x2 && plB x3.toInt64 x4.toInt64 && plB x5.toInt64 x6.toInt64 && (decide (x3 = x5) != decide (x4 = x6))) (decide (nn 2 < 40)) (nn 4)) = 0 then (pfK kn (nwV vv (nn 2) x1 x2 x3 x4 x5 x6) (nn 4) 2 (nI (nn 2)) 1 0) else kn) (if (kAct (haB (kn 0) x1 && haB (kn 1) x2 && plB x3.toInt64 x4.toInt64 && plB x5.toInt64 x6.toInt64 && (decide (x3 = x5) != decide (x4 = x6))) (decide (nn 2 < 40)) (nn 4)) = 0 then (pfV (nwV vv (nn 2) x1 x2 x3 x4 x5 x6) (nn 4) 2 (nI (nn 2)) 1 0) else vv) (if (kAct (haB (kn 0) x1 && haB (kn 1) x2 && plB x3.toInt64 x4.toInt64 && plB x5.toInt64 x6.toInt64 && (decide (x3 = x5) != decide (x4 = x6))) (decide (nn 2 < 40)) (nn 4)) = 0 then vp_updL f 0 (((nI (nn 2))).toInt64) else f)) H1 := by rw [if_neg hn0, if_neg hn0, if_neg hn0]; exact hP1
      exact W.iret (v := 1) hx hb hr (fun t ht hW => ⟨by rw [er], by rw [ht]; exact hPe, hS.F ht⟩) hS.2.2 d_L_wall_24
    · refine vx_catch (E := eIS) (name := eIS) hown [⟨0, 18, 21, 13⟩] ⟨0, 18, 25, 15⟩ [] htab (fun z h => by rcases List.mem_cons.mp h with rfl | h; exact Or.inr ⟨by decide, eIA, hts _ cl_L_13, hNc⟩; cases h) (by decide) (by decide) (hts _ cl_L_15) ((hT.2.2.1 _ (List.mem_of_getElem? (i := 4) rfl)).use rfl) hce hcv hcl ?_
      refine lv_astore (lv' := [(8, .ref q9), (0, .ref (aa 0)), (1, .int x1), (2, .int x2), (3, .int x3), (4, .int x4), (5, .int x5), (6, .int x6), (7, .ref o)]) hx hb d_L_wall_25 hl (by decide) rfl (fun ls hl => ?_)
      refine lv_iconst (v := 2) hx hb d_L_wall_27 (by decide) ?_
      have er : (some (.int (nI (kAct (haB (kn 0) x1 && haB (kn 1) x2 && plB x3.toInt64 x4.toInt64 && plB x5.toInt64 x6.toInt64 && (decide (x3 = x5) != decide (x4 = x6))) (decide (nn 2 < 40)) (nn 4)))) : Option Value) = some (.int 2) := by rw [hk]; rfl
      have hn0 : ¬ (kAct (haB (kn 0) x1 && haB (kn 1) x2 && plB x3.toInt64 x4.toInt64 && plB x5.toInt64 x6.toInt64 && (decide (x3 = x5) != decide (x4 = x6))) (decide (nn 2 < 40)) (nn 4)) = 0 := by rw [hk]; decide
      have hPe : va_P (dC, dI) classes (wL aa o cI cZ cJ (if (kAct (haB (kn 0) x1 && haB (kn 1) x2 && plB x3.toInt64 x4.toInt64 && plB x5.toInt64 x6.toInt64 && (decide (x3 = x5) != decide (x4 = x6))) (decide (nn 2 < 40)) (nn 4)) = 0 then (pfK kn (nwV vv (nn 2) x1 x2 x3 x4 x5 x6) (nn 4) 2 (nI (nn 2)) 1 0) else kn) (if (kAct (haB (kn 0) x1 && haB (kn 1) x2 && plB x3.toInt64 x4.toInt64 && plB x5.toInt64 x6.toInt64 && (decide (x3 = x5) != decide (x4 = x6))) (decide (nn 2 < 40)) (nn 4)) = 0 then (pfV (nwV vv (nn 2) x1 x2 x3 x4 x5 x6) (nn 4) 2 (nI (nn 2)) 1 0) else vv) (if (kAct (haB (kn 0) x1 && haB (kn 1) x2 && plB x3.toInt64 x4.toInt64 && plB x5.toInt64 x6.toInt64 && (decide (x3 = x5) != decide (x4 = x6))) (decide (nn 2 < 40)) (nn 4)) = 0 then vp_updL f 0 (((nI (nn 2))).toInt64) else f)) H1 := by rw [if_neg hn0, if_neg hn0, if_neg hn0]; exact hP1
      exact W.iret (v := 2) hx hb hr (fun t ht hW => ⟨by rw [er], by rw [ht]; exact hPe, hS.F ht⟩) hS.2.2 d_L_wall_28
  · have hP : va_P (dC, dI) classes (wL aa o cI cZ cJ (pfK kn (nwV vv (nn 2) x1 x2 x3 x4 x5 x6) (nn 4) 2 (nI (nn 2)) 1 0) (pfV (nwV vv (nn 2) x1 x2 x3 x4 x5 x6) (nn 4) 2 (nI (nn 2)) 1 0) f) H1 := wL_mk hP1 ((hP 22 _ rfl).kept (hkp o (hP 22 _ rfl).lt (fun h => h.elim fun i hi => ho i hi.1 hi.2.symm)))
    have hD : va_D (aO aa o) (wL aa o cI cZ cJ (pfK kn (nwV vv (nn 2) x1 x2 x3 x4 x5 x6) (nn 4) 2 (nI (nn 2)) 1 0) (pfV (nwV vv (nn 2) x1 x2 x3 x4 x5 x6) (nn 4) 2 (nI (nn 2)) 1 0) f) := wL_D hdD ho
    refine lv_i2l (v := ((nI (nn 2))).toInt64) hx hb d_L_wall_16 rfl ?_
    refine va_last hx hb hK hP hD hS 22 2 rfl rfl (vp_in_nI (n := 0) (by decide) (by decide)) d_L_wall_17 (fun H locs hP hD hS => ?_)
    have hP : va_P (dC, dI) classes (wL aa o cI cZ cJ (pfK kn (nwV vv (nn 2) x1 x2 x3 x4 x5 x6) (nn 4) 2 (nI (nn 2)) 1 0) (pfV (nwV vv (nn 2) x1 x2 x3 x4 x5 x6) (nn 4) 2 (nI (nn 2)) 1 0) (vp_updL f 0 (((nI (nn 2))).toInt64))) H := hP
    refine lv_goto (tgt := 29) hx hb d_L_wall_18 (by decide) ?_
    refine lv_iconst (v := 0) hx hb d_L_wall_29 (by decide) ?_
    have er : (some (.int (nI (kAct (haB (kn 0) x1 && haB (kn 1) x2 && plB x3.toInt64 x4.toInt64 && plB x5.toInt64 x6.toInt64 && (decide (x3 = x5) != decide (x4 = x6))) (decide (nn 2 < 40)) (nn 4)))) : Option Value) = some (.int 0) := by rw [hk0]; rfl
    have hPe : va_P (dC, dI) classes (wL aa o cI cZ cJ (if (kAct (haB (kn 0) x1 && haB (kn 1) x2 && plB x3.toInt64 x4.toInt64 && plB x5.toInt64 x6.toInt64 && (decide (x3 = x5) != decide (x4 = x6))) (decide (nn 2 < 40)) (nn 4)) = 0 then (pfK kn (nwV vv (nn 2) x1 x2 x3 x4 x5 x6) (nn 4) 2 (nI (nn 2)) 1 0) else kn) (if (kAct (haB (kn 0) x1 && haB (kn 1) x2 && plB x3.toInt64 x4.toInt64 && plB x5.toInt64 x6.toInt64 && (decide (x3 = x5) != decide (x4 = x6))) (decide (nn 2 < 40)) (nn 4)) = 0 then (pfV (nwV vv (nn 2) x1 x2 x3 x4 x5 x6) (nn 4) 2 (nI (nn 2)) 1 0) else vv) (if (kAct (haB (kn 0) x1 && haB (kn 1) x2 && plB x3.toInt64 x4.toInt64 && plB x5.toInt64 x6.toInt64 && (decide (x3 = x5) != decide (x4 = x6))) (decide (nn 2 < 40)) (nn 4)) = 0 then vp_updL f 0 (((nI (nn 2))).toInt64) else f)) H := by rw [if_pos hk0, if_pos hk0, if_pos hk0]; exact hP
    exact W.iret (v := 0) hx hb hr (fun t ht hW => ⟨by rw [er], by rw [ht]; exact hPe, hS.F ht⟩) hS.2.2 d_L_wall_30
set_option maxRecDepth 100000 in
set_option maxHeartbeats 4000000 in
theorem c_L_move (hlt : l.stackTraces = false) (hP : va_P (dC, dI) classes (wL aa o cI cZ cJ kn vv f) H) (hdD : dD noT aa 22) (ho : ∀ i, i < 22 → ¬ aa i = o) (hI : okC kn nn) (x y z : Int32) : Met l y_L_move (wBW y_L_move b_L_move 5 (some .int) [(0, 7, 10, 13), (0, 7, 14, 15)]) ({ frames := 8, cells := 1, slots := 6, locals := 136 } : Room) (rP [.ref (aa 0), .int x, .int y, .int z] H (kL dC dI cI cZ cJ (aO aa o))) (qW (some (.int (nI (kAct (tW kn vv x && plB ((vv 4 x.toNatClampNeg).toInt64 + y.toInt64) ((vv 5 x.toNatClampNeg).toInt64 + z.toInt64) && plB ((vv 6 x.toNatClampNeg).toInt64 + y.toInt64) ((vv 7 x.toNatClampNeg).toInt64 + z.toInt64)) (true) (nn 4))))) (aO aa o) (fun H1 => va_P (dC, dI) classes (wL aa o cI cZ cJ (if (kAct (tW kn vv x && plB ((vv 4 x.toNatClampNeg).toInt64 + y.toInt64) ((vv 5 x.toNatClampNeg).toInt64 + z.toInt64) && plB ((vv 6 x.toNatClampNeg).toInt64 + y.toInt64) ((vv 7 x.toNatClampNeg).toInt64 + z.toInt64)) (true) (nn 4)) = 0 then (pfK kn vv (nn 4) 6 x y z) else kn) (if (kAct (tW kn vv x && plB ((vv 4 x.toNatClampNeg).toInt64 + y.toInt64) ((vv 5 x.toNatClampNeg).toInt64 + z.toInt64) && plB ((vv 6 x.toNatClampNeg).toInt64 + y.toInt64) ((vv 7 x.toNatClampNeg).toInt64 + z.toInt64)) (true) (nn 4)) = 0 then (pfV vv (nn 4) 6 x y z) else vv) f) H1)) 1 6 (aO aa o) := by
  refine va_MetW (cc := b_L_move) (maxL := 5) (ret := (some .int)) (hh := [(0, 7, 10, 13), (0, 7, 14, 15)]) (by decide) rfl ?_
  intro p e s m args below meth c s₁ B hml hv
  obtain ⟨rfl, rfl, hK, hT, hNc⟩ := hv
  have hx := B.exec
  have hb := B.bytes
  have hr := B.returns
  have hts0 := atoms_spec (ws := (wBW y_L_move b_L_move 5 (some .int) [(0, 7, 10, 13), (0, 7, 14, 15)])) B.pre
  have htab := vx_table (x := y_L_move) B (hts0 _ List.mem_cons_self)
  have hts : ∀ w9 ∈ BG, w9.before [.ref (aa 0), .int x, .int y, .int z].toArray s = true := fun w9 hw9 => hts0 w9 (List.mem_cons_of_mem _ hw9)
  have hown : s.vm.findClass R_L = some m.cls := findClass_of_methodNamed B.named
  have hlocks := B.notSynchronized
  have hK : va_K (dC, dI) classes [(cI, .int), (cZ, .boolean), (cJ, .long)] s := hK
  have hS : va_S (aO aa o) s.heap s.heap [] := va_S.rf
  have hl := lv_entry ([.ref (aa 0), .int x, .int y, .int z]) (n := 5) (Nat.le_of_ble_eq_true rfl)
  rw [lg_entry_eq]
  generalize (lg_sl ([.ref (aa 0), .int x, .int y, .int z]) ++ List.replicate (5 - (lg_sl ([.ref (aa 0), .int x, .int y, .int z])).length) Slot.unset).toArray = ls at hl ⊢
  have hl : lv_has ls 5 [(0, .ref (aa 0)), (1, .int x), (2, .int y), (3, .int z)] := hl
  refine lv_aload_n hx hb d_L_move_0 rfl (lv_at hl 0 rfl) ?_
  refine lv_iload_n hx hb d_L_move_1 rfl (lv_at hl 1 rfl) ?_
  refine lv_iload_n hx hb d_L_move_2 rfl (lv_at hl 2 rfl) ?_
  refine lv_iload_n hx hb d_L_move_3 rfl (lv_at hl 3 rfl) ?_
  refine cT (vx_runV (As := [.int x, .int y, .int z]) (rest := []) ⟨hx, hb, hml, hown, hts⟩ (c_C_move hlt (wL_l hP) hdD hI x y z) (cwV 3 hts (wB_goodV (fun _ h => h) ml_L_31 im_C_move se_C_move ini_C co_C_move) rfl rfl rfl (by decide +kernel) ⟨Nat.le_of_ble_eq_true rfl, Nat.le_of_ble_eq_true rfl⟩) (pVL hK hT (fun q h => Or.inl h) hS (wL_l hP) (ci := 0) (q0 := 0) rfl rfl _) rfl rfl hl.1 rfl (lv_room (Nat.le_of_ble_eq_true rfl)) d_L_move_4 ⟨Nat.le_of_ble_eq_true rfl, Nat.le_of_ble_eq_true rfl⟩) hS (fun q h => Or.inl h) (fun E ce q9 H1 locs1 hE hz hkp hS hce hcv hcl => ?_) (fun hk0 H1 locs1 hP1 hS hz hkp => ?_)
  · have hP1 : va_P (dC, dI) classes (wL aa o cI cZ cJ kn vv f) H1 := hP.kept (fun k q hk => hkp q.1 (hP k q hk).lt)
    rcases hE with ⟨hk, rfl⟩ | ⟨hk, rfl⟩
    · refine vx_catch (E := eIA) (name := eIA) hown [] ⟨0, 7, 10, 13⟩ [⟨0, 7, 14, 15⟩] htab (fun z h => by cases h) (by decide) (by decide) (hts _ cl_L_13) ((hT.2.2.1 _ (List.mem_of_getElem? (i := 3) rfl)).use rfl) hce hcv hcl ?_
      refine lv_astore (lv' := [(4, .ref q9), (0, .ref (aa 0)), (1, .int x), (2, .int y), (3, .int z)]) hx hb d_L_move_10 hl (by decide) rfl (fun ls hl => ?_)
      refine lv_iconst (v := 1) hx hb d_L_move_12 (by decide) ?_
      have er : (some (.int (nI (kAct (tW kn vv x && plB ((vv 4 x.toNatClampNeg).toInt64 + y.toInt64) ((vv 5 x.toNatClampNeg).toInt64 + z.toInt64) && plB ((vv 6 x.toNatClampNeg).toInt64 + y.toInt64) ((vv 7 x.toNatClampNeg).toInt64 + z.toInt64)) (true) (nn 4)))) : Option Value) = some (.int 1) := by rw [hk]; rfl
      have hn0 : ¬ (kAct (tW kn vv x && plB ((vv 4 x.toNatClampNeg).toInt64 + y.toInt64) ((vv 5 x.toNatClampNeg).toInt64 + z.toInt64) && plB ((vv 6 x.toNatClampNeg).toInt64 + y.toInt64) ((vv 7 x.toNatClampNeg).toInt64 + z.toInt64)) (true) (nn 4)) = 0 := by rw [hk]; decide
      have hPe : va_P (dC, dI) classes (wL aa o cI cZ cJ (if (kAct (tW kn vv x && plB ((vv 4 x.toNatClampNeg).toInt64 + y.toInt64) ((vv 5 x.toNatClampNeg).toInt64 + z.toInt64) && plB ((vv 6 x.toNatClampNeg).toInt64 + y.toInt64) ((vv 7 x.toNatClampNeg).toInt64 + z.toInt64)) (true) (nn 4)) = 0 then (pfK kn vv (nn 4) 6 x y z) else kn) (if (kAct (tW kn vv x && plB ((vv 4 x.toNatClampNeg).toInt64 + y.toInt64) ((vv 5 x.toNatClampNeg).toInt64 + z.toInt64) && plB ((vv 6 x.toNatClampNeg).toInt64 + y.toInt64) ((vv 7 x.toNatClampNeg).toInt64 + z.toInt64)) (true) (nn 4)) = 0 then (pfV vv (nn 4) 6 x y z) else vv) f) H1 := by rw [if_neg hn0, if_neg hn0]; exact hP1
      exact W.iret (v := 1) hx hb hr (fun t ht hW => ⟨by rw [er], by rw [ht]; exact hPe, hS.F ht⟩) hS.2.2 d_L_move_13
    · refine vx_catch (E := eIS) (name := eIS) hown [⟨0, 7, 10, 13⟩] ⟨0, 7, 14, 15⟩ [] htab (fun z h => by rcases List.mem_cons.mp h with rfl | h; exact Or.inr ⟨by decide, eIA, hts _ cl_L_13, hNc⟩; cases h) (by decide) (by decide) (hts _ cl_L_15) ((hT.2.2.1 _ (List.mem_of_getElem? (i := 4) rfl)).use rfl) hce hcv hcl ?_
      refine lv_astore (lv' := [(4, .ref q9), (0, .ref (aa 0)), (1, .int x), (2, .int y), (3, .int z)]) hx hb d_L_move_14 hl (by decide) rfl (fun ls hl => ?_)
      refine lv_iconst (v := 2) hx hb d_L_move_16 (by decide) ?_
      have er : (some (.int (nI (kAct (tW kn vv x && plB ((vv 4 x.toNatClampNeg).toInt64 + y.toInt64) ((vv 5 x.toNatClampNeg).toInt64 + z.toInt64) && plB ((vv 6 x.toNatClampNeg).toInt64 + y.toInt64) ((vv 7 x.toNatClampNeg).toInt64 + z.toInt64)) (true) (nn 4)))) : Option Value) = some (.int 2) := by rw [hk]; rfl
      have hn0 : ¬ (kAct (tW kn vv x && plB ((vv 4 x.toNatClampNeg).toInt64 + y.toInt64) ((vv 5 x.toNatClampNeg).toInt64 + z.toInt64) && plB ((vv 6 x.toNatClampNeg).toInt64 + y.toInt64) ((vv 7 x.toNatClampNeg).toInt64 + z.toInt64)) (true) (nn 4)) = 0 := by rw [hk]; decide
      have hPe : va_P (dC, dI) classes (wL aa o cI cZ cJ (if (kAct (tW kn vv x && plB ((vv 4 x.toNatClampNeg).toInt64 + y.toInt64) ((vv 5 x.toNatClampNeg).toInt64 + z.toInt64) && plB ((vv 6 x.toNatClampNeg).toInt64 + y.toInt64) ((vv 7 x.toNatClampNeg).toInt64 + z.toInt64)) (true) (nn 4)) = 0 then (pfK kn vv (nn 4) 6 x y z) else kn) (if (kAct (tW kn vv x && plB ((vv 4 x.toNatClampNeg).toInt64 + y.toInt64) ((vv 5 x.toNatClampNeg).toInt64 + z.toInt64) && plB ((vv 6 x.toNatClampNeg).toInt64 + y.toInt64) ((vv 7 x.toNatClampNeg).toInt64 + z.toInt64)) (true) (nn 4)) = 0 then (pfV vv (nn 4) 6 x y z) else vv) f) H1 := by rw [if_neg hn0, if_neg hn0]; exact hP1
      exact W.iret (v := 2) hx hb hr (fun t ht hW => ⟨by rw [er], by rw [ht]; exact hPe, hS.F ht⟩) hS.2.2 d_L_move_17
  · have hP : va_P (dC, dI) classes (wL aa o cI cZ cJ (pfK kn vv (nn 4) 6 x y z) (pfV vv (nn 4) 6 x y z) f) H1 := wL_mk hP1 ((hP 22 _ rfl).kept (hkp o (hP 22 _ rfl).lt (fun h => h.elim fun i hi => ho i hi.1 hi.2.symm)))
    have hD : va_D (aO aa o) (wL aa o cI cZ cJ (pfK kn vv (nn 4) 6 x y z) (pfV vv (nn 4) 6 x y z) f) := wL_D hdD ho
    refine lv_goto (tgt := 18) hx hb d_L_move_7 (by decide) ?_
    refine lv_iconst (v := 0) hx hb d_L_move_18 (by decide) ?_
    have er : (some (.int (nI (kAct (tW kn vv x && plB ((vv 4 x.toNatClampNeg).toInt64 + y.toInt64) ((vv 5 x.toNatClampNeg).toInt64 + z.toInt64) && plB ((vv 6 x.toNatClampNeg).toInt64 + y.toInt64) ((vv 7 x.toNatClampNeg).toInt64 + z.toInt64)) (true) (nn 4)))) : Option Value) = some (.int 0) := by rw [hk0]; rfl
    have hPe : va_P (dC, dI) classes (wL aa o cI cZ cJ (if (kAct (tW kn vv x && plB ((vv 4 x.toNatClampNeg).toInt64 + y.toInt64) ((vv 5 x.toNatClampNeg).toInt64 + z.toInt64) && plB ((vv 6 x.toNatClampNeg).toInt64 + y.toInt64) ((vv 7 x.toNatClampNeg).toInt64 + z.toInt64)) (true) (nn 4)) = 0 then (pfK kn vv (nn 4) 6 x y z) else kn) (if (kAct (tW kn vv x && plB ((vv 4 x.toNatClampNeg).toInt64 + y.toInt64) ((vv 5 x.toNatClampNeg).toInt64 + z.toInt64) && plB ((vv 6 x.toNatClampNeg).toInt64 + y.toInt64) ((vv 7 x.toNatClampNeg).toInt64 + z.toInt64)) (true) (nn 4)) = 0 then (pfV vv (nn 4) 6 x y z) else vv) f) H1 := by rw [if_pos hk0, if_pos hk0]; exact hP
    exact W.iret (v := 0) hx hb hr (fun t ht hW => ⟨by rw [er], by rw [ht]; exact hPe, hS.F ht⟩) hS.2.2 d_L_move_19
set_option maxRecDepth 100000 in
set_option maxHeartbeats 4000000 in
theorem c_L_retype (hlt : l.stackTraces = false) (hP : va_P (dC, dI) classes (wL aa o cI cZ cJ kn vv f) H) (hdD : dD noT aa 22) (ho : ∀ i, i < 22 → ¬ aa i = o) (hI : okC kn nn) (x y : Int32) : Met l y_L_retype (wBW y_L_retype b_L_retype 4 (some .int) [(0, 6, 9, 13), (0, 6, 12, 15)]) ({ frames := 8, cells := 1, slots := 6, locals := 133 } : Room) (rP [.ref (aa 0), .int x, .int y] H (kL dC dI cI cZ cJ (aO aa o))) (qW (some (.int (nI (kAct (tW kn vv x && haB (kn 1) y) (true) (nn 4))))) (aO aa o) (fun H1 => va_P (dC, dI) classes (wL aa o cI cZ cJ (if (kAct (tW kn vv x && haB (kn 1) y) (true) (nn 4)) = 0 then (pfK kn vv (nn 4) 5 x y 0) else kn) (if (kAct (tW kn vv x && haB (kn 1) y) (true) (nn 4)) = 0 then (pfV vv (nn 4) 5 x y 0) else vv) f) H1)) 1 6 (aO aa o) := by
  refine va_MetW (cc := b_L_retype) (maxL := 4) (ret := (some .int)) (hh := [(0, 6, 9, 13), (0, 6, 12, 15)]) (by decide) rfl ?_
  intro p e s m args below meth c s₁ B hml hv
  obtain ⟨rfl, rfl, hK, hT, hNc⟩ := hv
  have hx := B.exec
  have hb := B.bytes
  have hr := B.returns
  have hts0 := atoms_spec (ws := (wBW y_L_retype b_L_retype 4 (some .int) [(0, 6, 9, 13), (0, 6, 12, 15)])) B.pre
  have htab := vx_table (x := y_L_retype) B (hts0 _ List.mem_cons_self)
  have hts : ∀ w9 ∈ BG, w9.before [.ref (aa 0), .int x, .int y].toArray s = true := fun w9 hw9 => hts0 w9 (List.mem_cons_of_mem _ hw9)
  have hown : s.vm.findClass R_L = some m.cls := findClass_of_methodNamed B.named
  have hlocks := B.notSynchronized
  have hK : va_K (dC, dI) classes [(cI, .int), (cZ, .boolean), (cJ, .long)] s := hK
  have hS : va_S (aO aa o) s.heap s.heap [] := va_S.rf
  have hl := lv_entry ([.ref (aa 0), .int x, .int y]) (n := 4) (Nat.le_of_ble_eq_true rfl)
  rw [lg_entry_eq]
  generalize (lg_sl ([.ref (aa 0), .int x, .int y]) ++ List.replicate (4 - (lg_sl ([.ref (aa 0), .int x, .int y])).length) Slot.unset).toArray = ls at hl ⊢
  have hl : lv_has ls 4 [(0, .ref (aa 0)), (1, .int x), (2, .int y)] := hl
  refine lv_aload_n hx hb d_L_retype_0 rfl (lv_at hl 0 rfl) ?_
  refine lv_iload_n hx hb d_L_retype_1 rfl (lv_at hl 1 rfl) ?_
  refine lv_iload_n hx hb d_L_retype_2 rfl (lv_at hl 2 rfl) ?_
  refine cT (vx_runV (As := [.int x, .int y]) (rest := []) ⟨hx, hb, hml, hown, hts⟩ (c_C_retype hlt (wL_l hP) hdD hI x y) (cwV 2 hts (wB_goodV (fun _ h => h) ml_L_35 im_C_retype se_C_retype ini_C co_C_retype) rfl rfl rfl (by decide +kernel) ⟨Nat.le_of_ble_eq_true rfl, Nat.le_of_ble_eq_true rfl⟩) (pVL hK hT (fun q h => Or.inl h) hS (wL_l hP) (ci := 0) (q0 := 0) rfl rfl _) rfl rfl hl.1 rfl (lv_room (Nat.le_of_ble_eq_true rfl)) d_L_retype_3 ⟨Nat.le_of_ble_eq_true rfl, Nat.le_of_ble_eq_true rfl⟩) hS (fun q h => Or.inl h) (fun E ce q9 H1 locs1 hE hz hkp hS hce hcv hcl => ?_) (fun hk0 H1 locs1 hP1 hS hz hkp => ?_)
  · have hP1 : va_P (dC, dI) classes (wL aa o cI cZ cJ kn vv f) H1 := hP.kept (fun k q hk => hkp q.1 (hP k q hk).lt)
    rcases hE with ⟨hk, rfl⟩ | ⟨hk, rfl⟩
    · refine vx_catch (E := eIA) (name := eIA) hown [] ⟨0, 6, 9, 13⟩ [⟨0, 6, 12, 15⟩] htab (fun z h => by cases h) (by decide) (by decide) (hts _ cl_L_13) ((hT.2.2.1 _ (List.mem_of_getElem? (i := 3) rfl)).use rfl) hce hcv hcl ?_
      refine lv_astore_n (lv' := [(3, .ref q9), (0, .ref (aa 0)), (1, .int x), (2, .int y)]) hx hb d_L_retype_9 rfl hl (by decide) rfl (fun ls hl => ?_)
      refine lv_iconst (v := 1) hx hb d_L_retype_10 (by decide) ?_
      have er : (some (.int (nI (kAct (tW kn vv x && haB (kn 1) y) (true) (nn 4)))) : Option Value) = some (.int 1) := by rw [hk]; rfl
      have hn0 : ¬ (kAct (tW kn vv x && haB (kn 1) y) (true) (nn 4)) = 0 := by rw [hk]; decide
      have hPe : va_P (dC, dI) classes (wL aa o cI cZ cJ (if (kAct (tW kn vv x && haB (kn 1) y) (true) (nn 4)) = 0 then (pfK kn vv (nn 4) 5 x y 0) else kn) (if (kAct (tW kn vv x && haB (kn 1) y) (true) (nn 4)) = 0 then (pfV vv (nn 4) 5 x y 0) else vv) f) H1 := by rw [if_neg hn0, if_neg hn0]; exact hP1
      exact W.iret (v := 1) hx hb hr (fun t ht hW => ⟨by rw [er], by rw [ht]; exact hPe, hS.F ht⟩) hS.2.2 d_L_retype_11
    · refine vx_catch (E := eIS) (name := eIS) hown [⟨0, 6, 9, 13⟩] ⟨0, 6, 12, 15⟩ [] htab (fun z h => by rcases List.mem_cons.mp h with rfl | h; exact Or.inr ⟨by decide, eIA, hts _ cl_L_13, hNc⟩; cases h) (by decide) (by decide) (hts _ cl_L_15) ((hT.2.2.1 _ (List.mem_of_getElem? (i := 4) rfl)).use rfl) hce hcv hcl ?_
      refine lv_astore_n (lv' := [(3, .ref q9), (0, .ref (aa 0)), (1, .int x), (2, .int y)]) hx hb d_L_retype_12 rfl hl (by decide) rfl (fun ls hl => ?_)
      refine lv_iconst (v := 2) hx hb d_L_retype_13 (by decide) ?_
      have er : (some (.int (nI (kAct (tW kn vv x && haB (kn 1) y) (true) (nn 4)))) : Option Value) = some (.int 2) := by rw [hk]; rfl
      have hn0 : ¬ (kAct (tW kn vv x && haB (kn 1) y) (true) (nn 4)) = 0 := by rw [hk]; decide
      have hPe : va_P (dC, dI) classes (wL aa o cI cZ cJ (if (kAct (tW kn vv x && haB (kn 1) y) (true) (nn 4)) = 0 then (pfK kn vv (nn 4) 5 x y 0) else kn) (if (kAct (tW kn vv x && haB (kn 1) y) (true) (nn 4)) = 0 then (pfV vv (nn 4) 5 x y 0) else vv) f) H1 := by rw [if_neg hn0, if_neg hn0]; exact hP1
      exact W.iret (v := 2) hx hb hr (fun t ht hW => ⟨by rw [er], by rw [ht]; exact hPe, hS.F ht⟩) hS.2.2 d_L_retype_14
  · have hP : va_P (dC, dI) classes (wL aa o cI cZ cJ (pfK kn vv (nn 4) 5 x y 0) (pfV vv (nn 4) 5 x y 0) f) H1 := wL_mk hP1 ((hP 22 _ rfl).kept (hkp o (hP 22 _ rfl).lt (fun h => h.elim fun i hi => ho i hi.1 hi.2.symm)))
    have hD : va_D (aO aa o) (wL aa o cI cZ cJ (pfK kn vv (nn 4) 5 x y 0) (pfV vv (nn 4) 5 x y 0) f) := wL_D hdD ho
    refine lv_goto (tgt := 15) hx hb d_L_retype_6 (by decide) ?_
    refine lv_iconst (v := 0) hx hb d_L_retype_15 (by decide) ?_
    have er : (some (.int (nI (kAct (tW kn vv x && haB (kn 1) y) (true) (nn 4)))) : Option Value) = some (.int 0) := by rw [hk0]; rfl
    have hPe : va_P (dC, dI) classes (wL aa o cI cZ cJ (if (kAct (tW kn vv x && haB (kn 1) y) (true) (nn 4)) = 0 then (pfK kn vv (nn 4) 5 x y 0) else kn) (if (kAct (tW kn vv x && haB (kn 1) y) (true) (nn 4)) = 0 then (pfV vv (nn 4) 5 x y 0) else vv) f) H1 := by rw [if_pos hk0, if_pos hk0]; exact hP
    exact W.iret (v := 0) hx hb hr (fun t ht hW => ⟨by rw [er], by rw [ht]; exact hPe, hS.F ht⟩) hS.2.2 d_L_retype_16
set_option maxRecDepth 100000 in
set_option maxHeartbeats 4000000 in
theorem c_L_remove (hlt : l.stackTraces = false) (hP : va_P (dC, dI) classes (wL aa o cI cZ cJ kn vv f) H) (hdD : dD noT aa 22) (ho : ∀ i, i < 22 → ¬ aa i = o) (hI : okC kn nn) (x : Int32) : Met l y_L_remove (wBW y_L_remove b_L_remove 3 (some .int) [(0, 5, 8, 13), (0, 5, 11, 15)]) ({ frames := 8, cells := 1, slots := 6, locals := 132 } : Room) (rP [.ref (aa 0), .int x] H (kL dC dI cI cZ cJ (aO aa o))) (qW (some (.int (nI (kAct (tW kn vv x) (true) (nn 4))))) (aO aa o) (fun H1 => va_P (dC, dI) classes (wL aa o cI cZ cJ (if (kAct (tW kn vv x) (true) (nn 4)) = 0 then (pfK kn vv (nn 4) 7 x 0 0) else kn) (if (kAct (tW kn vv x) (true) (nn 4)) = 0 then (pfV vv (nn 4) 7 x 0 0) else vv) f) H1)) 1 6 (aO aa o) := by
  refine va_MetW (cc := b_L_remove) (maxL := 3) (ret := (some .int)) (hh := [(0, 5, 8, 13), (0, 5, 11, 15)]) (by decide) rfl ?_
  intro p e s m args below meth c s₁ B hml hv
  obtain ⟨rfl, rfl, hK, hT, hNc⟩ := hv
  have hx := B.exec
  have hb := B.bytes
  have hr := B.returns
  have hts0 := atoms_spec (ws := (wBW y_L_remove b_L_remove 3 (some .int) [(0, 5, 8, 13), (0, 5, 11, 15)])) B.pre
  have htab := vx_table (x := y_L_remove) B (hts0 _ List.mem_cons_self)
  have hts : ∀ w9 ∈ BG, w9.before [.ref (aa 0), .int x].toArray s = true := fun w9 hw9 => hts0 w9 (List.mem_cons_of_mem _ hw9)
  have hown : s.vm.findClass R_L = some m.cls := findClass_of_methodNamed B.named
  have hlocks := B.notSynchronized
  have hK : va_K (dC, dI) classes [(cI, .int), (cZ, .boolean), (cJ, .long)] s := hK
  have hS : va_S (aO aa o) s.heap s.heap [] := va_S.rf
  have hl := lv_entry ([.ref (aa 0), .int x]) (n := 3) (Nat.le_of_ble_eq_true rfl)
  rw [lg_entry_eq]
  generalize (lg_sl ([.ref (aa 0), .int x]) ++ List.replicate (3 - (lg_sl ([.ref (aa 0), .int x])).length) Slot.unset).toArray = ls at hl ⊢
  have hl : lv_has ls 3 [(0, .ref (aa 0)), (1, .int x)] := hl
  refine lv_aload_n hx hb d_L_remove_0 rfl (lv_at hl 0 rfl) ?_
  refine lv_iload_n hx hb d_L_remove_1 rfl (lv_at hl 1 rfl) ?_
  refine cT (vx_runV (As := [.int x]) (rest := []) ⟨hx, hb, hml, hown, hts⟩ (c_C_remove hlt (wL_l hP) hdD hI x) (cwV 1 hts (wB_goodV (fun _ h => h) ml_L_38 im_C_remove se_C_remove ini_C co_C_remove) rfl rfl rfl (by decide +kernel) ⟨Nat.le_of_ble_eq_true rfl, Nat.le_of_ble_eq_true rfl⟩) (pVL hK hT (fun q h => Or.inl h) hS (wL_l hP) (ci := 0) (q0 := 0) rfl rfl _) rfl rfl hl.1 rfl (lv_room (Nat.le_of_ble_eq_true rfl)) d_L_remove_2 ⟨Nat.le_of_ble_eq_true rfl, Nat.le_of_ble_eq_true rfl⟩) hS (fun q h => Or.inl h) (fun E ce q9 H1 locs1 hE hz hkp hS hce hcv hcl => ?_) (fun hk0 H1 locs1 hP1 hS hz hkp => ?_)
  · have hP1 : va_P (dC, dI) classes (wL aa o cI cZ cJ kn vv f) H1 := hP.kept (fun k q hk => hkp q.1 (hP k q hk).lt)
    rcases hE with ⟨hk, rfl⟩ | ⟨hk, rfl⟩
    · refine vx_catch (E := eIA) (name := eIA) hown [] ⟨0, 5, 8, 13⟩ [⟨0, 5, 11, 15⟩] htab (fun z h => by cases h) (by decide) (by decide) (hts _ cl_L_13) ((hT.2.2.1 _ (List.mem_of_getElem? (i := 3) rfl)).use rfl) hce hcv hcl ?_
      refine lv_astore_n (lv' := [(2, .ref q9), (0, .ref (aa 0)), (1, .int x)]) hx hb d_L_remove_8 rfl hl (by decide) rfl (fun ls hl => ?_)
      refine lv_iconst (v := 1) hx hb d_L_remove_9 (by decide) ?_
      have er : (some (.int (nI (kAct (tW kn vv x) (true) (nn 4)))) : Option Value) = some (.int 1) := by rw [hk]; rfl
      have hn0 : ¬ (kAct (tW kn vv x) (true) (nn 4)) = 0 := by rw [hk]; decide
      have hPe : va_P (dC, dI) classes (wL aa o cI cZ cJ (if (kAct (tW kn vv x) (true) (nn 4)) = 0 then (pfK kn vv (nn 4) 7 x 0 0) else kn) (if (kAct (tW kn vv x) (true) (nn 4)) = 0 then (pfV vv (nn 4) 7 x 0 0) else vv) f) H1 := by rw [if_neg hn0, if_neg hn0]; exact hP1
      exact W.iret (v := 1) hx hb hr (fun t ht hW => ⟨by rw [er], by rw [ht]; exact hPe, hS.F ht⟩) hS.2.2 d_L_remove_10
    · refine vx_catch (E := eIS) (name := eIS) hown [⟨0, 5, 8, 13⟩] ⟨0, 5, 11, 15⟩ [] htab (fun z h => by rcases List.mem_cons.mp h with rfl | h; exact Or.inr ⟨by decide, eIA, hts _ cl_L_13, hNc⟩; cases h) (by decide) (by decide) (hts _ cl_L_15) ((hT.2.2.1 _ (List.mem_of_getElem? (i := 4) rfl)).use rfl) hce hcv hcl ?_
      refine lv_astore_n (lv' := [(2, .ref q9), (0, .ref (aa 0)), (1, .int x)]) hx hb d_L_remove_11 rfl hl (by decide) rfl (fun ls hl => ?_)
      refine lv_iconst (v := 2) hx hb d_L_remove_12 (by decide) ?_
      have er : (some (.int (nI (kAct (tW kn vv x) (true) (nn 4)))) : Option Value) = some (.int 2) := by rw [hk]; rfl
      have hn0 : ¬ (kAct (tW kn vv x) (true) (nn 4)) = 0 := by rw [hk]; decide
      have hPe : va_P (dC, dI) classes (wL aa o cI cZ cJ (if (kAct (tW kn vv x) (true) (nn 4)) = 0 then (pfK kn vv (nn 4) 7 x 0 0) else kn) (if (kAct (tW kn vv x) (true) (nn 4)) = 0 then (pfV vv (nn 4) 7 x 0 0) else vv) f) H1 := by rw [if_neg hn0, if_neg hn0]; exact hP1
      exact W.iret (v := 2) hx hb hr (fun t ht hW => ⟨by rw [er], by rw [ht]; exact hPe, hS.F ht⟩) hS.2.2 d_L_remove_13
  · have hP : va_P (dC, dI) classes (wL aa o cI cZ cJ (pfK kn vv (nn 4) 7 x 0 0) (pfV vv (nn 4) 7 x 0 0) f) H1 := wL_mk hP1 ((hP 22 _ rfl).kept (hkp o (hP 22 _ rfl).lt (fun h => h.elim fun i hi => ho i hi.1 hi.2.symm)))
    have hD : va_D (aO aa o) (wL aa o cI cZ cJ (pfK kn vv (nn 4) 7 x 0 0) (pfV vv (nn 4) 7 x 0 0) f) := wL_D hdD ho
    refine lv_goto (tgt := 14) hx hb d_L_remove_5 (by decide) ?_
    refine lv_iconst (v := 0) hx hb d_L_remove_14 (by decide) ?_
    have er : (some (.int (nI (kAct (tW kn vv x) (true) (nn 4)))) : Option Value) = some (.int 0) := by rw [hk0]; rfl
    have hPe : va_P (dC, dI) classes (wL aa o cI cZ cJ (if (kAct (tW kn vv x) (true) (nn 4)) = 0 then (pfK kn vv (nn 4) 7 x 0 0) else kn) (if (kAct (tW kn vv x) (true) (nn 4)) = 0 then (pfV vv (nn 4) 7 x 0 0) else vv) f) H1 := by rw [if_pos hk0, if_pos hk0]; exact hP
    exact W.iret (v := 0) hx hb hr (fun t ht hW => ⟨by rw [er], by rw [ht]; exact hPe, hS.F ht⟩) hS.2.2 d_L_remove_15
set_option maxRecDepth 100000 in
set_option maxHeartbeats 4000000 in
theorem c_L_opening (hlt : l.stackTraces = false) (hP : va_P (dC, dI) classes (wL aa o cI cZ cJ kn vv f) H) (hdD : dD noT aa 22) (ho : ∀ i, i < 22 → ¬ aa i = o) (hI : okC kn nn) (x y z : Int32) : Met l y_L_opening (wBW y_L_opening b_L_opening 6 (some .int) [(0, 12, 15, 13), (0, 12, 19, 15)]) ({ frames := 8, cells := 1, slots := 6, locals := 135 } : Room) (rP [.ref (aa 0), .int x, .int y, .int z, .ref o] H (kL dC dI cI cZ cJ (aO aa o))) (qW (some (.int (nI (kAct (tW kn vv x && !decide (y < 0) && !decide (z < 1) && decide (lg_cmp (y.toInt64 + z.toInt64) (leC vv x.toNatClampNeg).toInt64 ≤ 0)) (!(fstN (ovB vv x y z) (nn 3)).isSome && decide (nn 3 < 60)) (nn 4))))) (aO aa o) (fun H1 => va_P (dC, dI) classes (wL aa o cI cZ cJ (if (kAct (tW kn vv x && !decide (y < 0) && !decide (z < 1) && decide (lg_cmp (y.toInt64 + z.toInt64) (leC vv x.toNatClampNeg).toInt64 ≤ 0)) (!(fstN (ovB vv x y z) (nn 3)).isSome && decide (nn 3 < 60)) (nn 4)) = 0 then (pfK kn (owV vv (nn 3) x y z) (nn 4) 2 x 0 1) else kn) (if (kAct (tW kn vv x && !decide (y < 0) && !decide (z < 1) && decide (lg_cmp (y.toInt64 + z.toInt64) (leC vv x.toNatClampNeg).toInt64 ≤ 0)) (!(fstN (ovB vv x y z) (nn 3)).isSome && decide (nn 3 < 60)) (nn 4)) = 0 then (pfV (owV vv (nn 3) x y z) (nn 4) 2 x 0 1) else vv) (if (kAct (tW kn vv x && !decide (y < 0) && !decide (z < 1) && decide (lg_cmp (y.toInt64 + z.toInt64) (leC vv x.toNatClampNeg).toInt64 ≤ 0)) (!(fstN (ovB vv x y z) (nn 3)).isSome && decide (nn 3 < 60)) (nn 4)) = 0 then vp_updL f 0 (((nI (nn 3))).toInt64) else f)) H1)) 1 6 (aO aa o) := by
  refine va_MetW (cc := b_L_opening) (maxL := 6) (ret := (some .int)) (hh := [(0, 12, 15, 13), (0, 12, 19, 15)]) (by decide) rfl ?_
  intro p e s m args below meth c s₁ B hml hv
  obtain ⟨rfl, rfl, hK, hT, hNc⟩ := hv
  have hx := B.exec
  have hb := B.bytes
  have hr := B.returns
  have hts0 := atoms_spec (ws := (wBW y_L_opening b_L_opening 6 (some .int) [(0, 12, 15, 13), (0, 12, 19, 15)])) B.pre
  have htab := vx_table (x := y_L_opening) B (hts0 _ List.mem_cons_self)
  have hts : ∀ w9 ∈ BG, w9.before [.ref (aa 0), .int x, .int y, .int z, .ref o].toArray s = true := fun w9 hw9 => hts0 w9 (List.mem_cons_of_mem _ hw9)
  have hown : s.vm.findClass R_L = some m.cls := findClass_of_methodNamed B.named
  have hlocks := B.notSynchronized
  have hK : va_K (dC, dI) classes [(cI, .int), (cZ, .boolean), (cJ, .long)] s := hK
  have hS : va_S (aO aa o) s.heap s.heap [] := va_S.rf
  have hl := lv_entry ([.ref (aa 0), .int x, .int y, .int z, .ref o]) (n := 6) (Nat.le_of_ble_eq_true rfl)
  rw [lg_entry_eq]
  generalize (lg_sl ([.ref (aa 0), .int x, .int y, .int z, .ref o]) ++ List.replicate (6 - (lg_sl ([.ref (aa 0), .int x, .int y, .int z, .ref o])).length) Slot.unset).toArray = ls at hl ⊢
  have hl : lv_has ls 6 [(0, .ref (aa 0)), (1, .int x), (2, .int y), (3, .int z), (4, .ref o)] := hl
  refine lv_aload hx hb d_L_opening_0 (lv_at hl 4 rfl) ?_
  refine lv_iconst (v := 0) hx hb d_L_opening_2 (by decide) ?_
  refine lv_aload_n hx hb d_L_opening_3 rfl (lv_at hl 0 rfl) ?_
  refine lv_iload_n hx hb d_L_opening_4 rfl (lv_at hl 1 rfl) ?_
  refine lv_iload_n hx hb d_L_opening_5 rfl (lv_at hl 2 rfl) ?_
  refine lv_iload_n hx hb d_L_opening_6 rfl (lv_at hl 3 rfl) ?_
  refine cT (vx_runV (As := [.int x, .int y, .int z]) (rest := [.int 0, .ref o]) ⟨hx, hb, hml, hown, hts⟩ (c_C_opening hlt (wL_l hP) hdD hI x y z) (cwV 3 hts (wB_goodV (fun _ h => h) ml_L_42 im_C_opening se_C_opening ini_C co_C_opening) rfl rfl rfl (by decide +kernel) ⟨Nat.le_of_ble_eq_true rfl, Nat.le_of_ble_eq_true rfl⟩) (pVL hK hT (fun q h => Or.inl h) hS (wL_l hP) (ci := 0) (q0 := 0) rfl rfl _) rfl rfl hl.1 rfl (lv_room (Nat.le_of_ble_eq_true rfl)) d_L_opening_7 ⟨Nat.le_of_ble_eq_true rfl, Nat.le_of_ble_eq_true rfl⟩) hS (fun q h => Or.inl h) (fun E ce q9 H1 locs1 hE hz hkp hS hce hcv hcl => ?_) (fun hk0 H1 locs1 hP1 hS hz hkp => ?_)
  · have hP1 : va_P (dC, dI) classes (wL aa o cI cZ cJ kn vv f) H1 := hP.kept (fun k q hk => hkp q.1 (hP k q hk).lt)
    rcases hE with ⟨hk, rfl⟩ | ⟨hk, rfl⟩
    · refine vx_catch (E := eIA) (name := eIA) hown [] ⟨0, 12, 15, 13⟩ [⟨0, 12, 19, 15⟩] htab (fun z h => by cases h) (by decide) (by decide) (hts _ cl_L_13) ((hT.2.2.1 _ (List.mem_of_getElem? (i := 3) rfl)).use rfl) hce hcv hcl ?_
      refine lv_astore (lv' := [(5, .ref q9), (0, .ref (aa 0)), (1, .int x), (2, .int y), (3, .int z), (4, .ref o)]) hx hb d_L_opening_15 hl (by decide) rfl (fun ls hl => ?_)
      refine lv_iconst (v := 1) hx hb d_L_opening_17 (by decide) ?_
      have er : (some (.int (nI (kAct (tW kn vv x && !decide (y < 0) && !decide (z < 1) && decide (lg_cmp (y.toInt64 + z.toInt64) (leC vv x.toNatClampNeg).toInt64 ≤ 0)) (!(fstN (ovB vv x y z) (nn 3)).isSome && decide (nn 3 < 60)) (nn 4)))) : Option Value) = some (.int 1) := by rw [hk]; rfl
      have hn0 : ¬ (kAct (tW kn vv x && !decide (y < 0) && !decide (z < 1) && decide (lg_cmp (y.toInt64 + z.toInt64) (leC vv x.toNatClampNeg).toInt64 ≤ 0)) (!(fstN (ovB vv x y z) (nn 3)).isSome && decide (nn 3 < 60)) (nn 4)) = 0 := by rw [hk]; decide
      have hPe : va_P (dC, dI) classes (wL aa o cI cZ cJ (if (kAct (tW kn vv x && !decide (y < 0) && !decide (z < 1) && decide (lg_cmp (y.toInt64 + z.toInt64) (leC vv x.toNatClampNeg).toInt64 ≤ 0)) (!(fstN (ovB vv x y z) (nn 3)).isSome && decide (nn 3 < 60)) (nn 4)) = 0 then (pfK kn (owV vv (nn 3) x y z) (nn 4) 2 x 0 1) else kn) (if (kAct (tW kn vv x && !decide (y < 0) && !decide (z < 1) && decide (lg_cmp (y.toInt64 + z.toInt64) (leC vv x.toNatClampNeg).toInt64 ≤ 0)) (!(fstN (ovB vv x y z) (nn 3)).isSome && decide (nn 3 < 60)) (nn 4)) = 0 then (pfV (owV vv (nn 3) x y z) (nn 4) 2 x 0 1) else vv) (if (kAct (tW kn vv x && !decide (y < 0) && !decide (z < 1) && decide (lg_cmp (y.toInt64 + z.toInt64) (leC vv x.toNatClampNeg).toInt64 ≤ 0)) (!(fstN (ovB vv x y z) (nn 3)).isSome && decide (nn 3 < 60)) (nn 4)) = 0 then vp_updL f 0 (((nI (nn 3))).toInt64) else f)) H1 := by rw [if_neg hn0, if_neg hn0, if_neg hn0]; exact hP1
      exact W.iret (v := 1) hx hb hr (fun t ht hW => ⟨by rw [er], by rw [ht]; exact hPe, hS.F ht⟩) hS.2.2 d_L_opening_18
    · refine vx_catch (E := eIS) (name := eIS) hown [⟨0, 12, 15, 13⟩] ⟨0, 12, 19, 15⟩ [] htab (fun z h => by rcases List.mem_cons.mp h with rfl | h; exact Or.inr ⟨by decide, eIA, hts _ cl_L_13, hNc⟩; cases h) (by decide) (by decide) (hts _ cl_L_15) ((hT.2.2.1 _ (List.mem_of_getElem? (i := 4) rfl)).use rfl) hce hcv hcl ?_
      refine lv_astore (lv' := [(5, .ref q9), (0, .ref (aa 0)), (1, .int x), (2, .int y), (3, .int z), (4, .ref o)]) hx hb d_L_opening_19 hl (by decide) rfl (fun ls hl => ?_)
      refine lv_iconst (v := 2) hx hb d_L_opening_21 (by decide) ?_
      have er : (some (.int (nI (kAct (tW kn vv x && !decide (y < 0) && !decide (z < 1) && decide (lg_cmp (y.toInt64 + z.toInt64) (leC vv x.toNatClampNeg).toInt64 ≤ 0)) (!(fstN (ovB vv x y z) (nn 3)).isSome && decide (nn 3 < 60)) (nn 4)))) : Option Value) = some (.int 2) := by rw [hk]; rfl
      have hn0 : ¬ (kAct (tW kn vv x && !decide (y < 0) && !decide (z < 1) && decide (lg_cmp (y.toInt64 + z.toInt64) (leC vv x.toNatClampNeg).toInt64 ≤ 0)) (!(fstN (ovB vv x y z) (nn 3)).isSome && decide (nn 3 < 60)) (nn 4)) = 0 := by rw [hk]; decide
      have hPe : va_P (dC, dI) classes (wL aa o cI cZ cJ (if (kAct (tW kn vv x && !decide (y < 0) && !decide (z < 1) && decide (lg_cmp (y.toInt64 + z.toInt64) (leC vv x.toNatClampNeg).toInt64 ≤ 0)) (!(fstN (ovB vv x y z) (nn 3)).isSome && decide (nn 3 < 60)) (nn 4)) = 0 then (pfK kn (owV vv (nn 3) x y z) (nn 4) 2 x 0 1) else kn) (if (kAct (tW kn vv x && !decide (y < 0) && !decide (z < 1) && decide (lg_cmp (y.toInt64 + z.toInt64) (leC vv x.toNatClampNeg).toInt64 ≤ 0)) (!(fstN (ovB vv x y z) (nn 3)).isSome && decide (nn 3 < 60)) (nn 4)) = 0 then (pfV (owV vv (nn 3) x y z) (nn 4) 2 x 0 1) else vv) (if (kAct (tW kn vv x && !decide (y < 0) && !decide (z < 1) && decide (lg_cmp (y.toInt64 + z.toInt64) (leC vv x.toNatClampNeg).toInt64 ≤ 0)) (!(fstN (ovB vv x y z) (nn 3)).isSome && decide (nn 3 < 60)) (nn 4)) = 0 then vp_updL f 0 (((nI (nn 3))).toInt64) else f)) H1 := by rw [if_neg hn0, if_neg hn0, if_neg hn0]; exact hP1
      exact W.iret (v := 2) hx hb hr (fun t ht hW => ⟨by rw [er], by rw [ht]; exact hPe, hS.F ht⟩) hS.2.2 d_L_opening_22
  · have hP : va_P (dC, dI) classes (wL aa o cI cZ cJ (pfK kn (owV vv (nn 3) x y z) (nn 4) 2 x 0 1) (pfV (owV vv (nn 3) x y z) (nn 4) 2 x 0 1) f) H1 := wL_mk hP1 ((hP 22 _ rfl).kept (hkp o (hP 22 _ rfl).lt (fun h => h.elim fun i hi => ho i hi.1 hi.2.symm)))
    have hD : va_D (aO aa o) (wL aa o cI cZ cJ (pfK kn (owV vv (nn 3) x y z) (nn 4) 2 x 0 1) (pfV (owV vv (nn 3) x y z) (nn 4) 2 x 0 1) f) := wL_D hdD ho
    refine lv_i2l (v := ((nI (nn 3))).toInt64) hx hb d_L_opening_10 rfl ?_
    refine va_last hx hb hK hP hD hS 22 2 rfl rfl (vp_in_nI (n := 0) (by decide) (by decide)) d_L_opening_11 (fun H locs hP hD hS => ?_)
    have hP : va_P (dC, dI) classes (wL aa o cI cZ cJ (pfK kn (owV vv (nn 3) x y z) (nn 4) 2 x 0 1) (pfV (owV vv (nn 3) x y z) (nn 4) 2 x 0 1) (vp_updL f 0 (((nI (nn 3))).toInt64))) H := hP
    refine lv_goto (tgt := 23) hx hb d_L_opening_12 (by decide) ?_
    refine lv_iconst (v := 0) hx hb d_L_opening_23 (by decide) ?_
    have er : (some (.int (nI (kAct (tW kn vv x && !decide (y < 0) && !decide (z < 1) && decide (lg_cmp (y.toInt64 + z.toInt64) (leC vv x.toNatClampNeg).toInt64 ≤ 0)) (!(fstN (ovB vv x y z) (nn 3)).isSome && decide (nn 3 < 60)) (nn 4)))) : Option Value) = some (.int 0) := by rw [hk0]; rfl
    have hPe : va_P (dC, dI) classes (wL aa o cI cZ cJ (if (kAct (tW kn vv x && !decide (y < 0) && !decide (z < 1) && decide (lg_cmp (y.toInt64 + z.toInt64) (leC vv x.toNatClampNeg).toInt64 ≤ 0)) (!(fstN (ovB vv x y z) (nn 3)).isSome && decide (nn 3 < 60)) (nn 4)) = 0 then (pfK kn (owV vv (nn 3) x y z) (nn 4) 2 x 0 1) else kn) (if (kAct (tW kn vv x && !decide (y < 0) && !decide (z < 1) && decide (lg_cmp (y.toInt64 + z.toInt64) (leC vv x.toNatClampNeg).toInt64 ≤ 0)) (!(fstN (ovB vv x y z) (nn 3)).isSome && decide (nn 3 < 60)) (nn 4)) = 0 then (pfV (owV vv (nn 3) x y z) (nn 4) 2 x 0 1) else vv) (if (kAct (tW kn vv x && !decide (y < 0) && !decide (z < 1) && decide (lg_cmp (y.toInt64 + z.toInt64) (leC vv x.toNatClampNeg).toInt64 ≤ 0)) (!(fstN (ovB vv x y z) (nn 3)).isSome && decide (nn 3 < 60)) (nn 4)) = 0 then vp_updL f 0 (((nI (nn 3))).toInt64) else f)) H := by rw [if_pos hk0, if_pos hk0, if_pos hk0]; exact hP
    exact W.iret (v := 0) hx hb hr (fun t ht hW => ⟨by rw [er], by rw [ht]; exact hPe, hS.F ht⟩) hS.2.2 d_L_opening_24
set_option maxRecDepth 100000 in
set_option maxHeartbeats 4000000 in
theorem c_L_copy (hlt : l.stackTraces = false) (hP : va_P (dC, dI) classes (wL aa o cI cZ cJ kn vv f) H) (hdD : dD noT aa 22) (ho : ∀ i, i < 22 → ¬ aa i = o) (hI : okC kn nn) (x y : Int32) (hcp : nn 2 + cnt (fun i => onB kn vv (nI i) x) (nn 2) ≤ 40 → nn 3 + cnt (fun i => onB kn vv (vv 9 i) x) (nn 3) ≤ 60 → (∀ i, i < nn 2 → onB kn (wcF kn (nn 3) x y i (vv, nn 2, nn 3)).1 (nI i) x = true → (wcF kn (nn 3) x y i (vv, nn 2, nn 3)).2.1 < 40) ∧ ∀ i, i < nn 2 → (wcF kn (nn 3) x y (i + 1) (vv, nn 2, nn 3)).2.2 ≤ 60) : Met l y_L_copy (wBW y_L_copy b_L_copy 5 (some .int) [(0, 10, 13, 13), (0, 10, 17, 15)]) ({ frames := 8, cells := 1, slots := 6, locals := 135 } : Room) (rP [.ref (aa 0), .int x, .int y, .ref o] H (kL dC dI cI cZ cJ (aO aa o))) (qW (some (.int (nI (kAct (haB (kn 0) x && haB (kn 0) y && !decide (x = y)) (decide (nn 2 + cnt (fun i => onB kn vv (nI i) x) (nn 2) ≤ 40) && decide (nn 3 + cnt (fun i => onB kn vv (vv 9 i) x) (nn 3) ≤ 60)) (nn 4))))) (aO aa o) (fun H1 => va_P (dC, dI) classes (wL aa o cI cZ cJ (if (kAct (haB (kn 0) x && haB (kn 0) y && !decide (x = y)) (decide (nn 2 + cnt (fun i => onB kn vv (nI i) x) (nn 2) ≤ 40) && decide (nn 3 + cnt (fun i => onB kn vv (vv 9 i) x) (nn 3) ≤ 60)) (nn 4)) = 0 then (pfK kn (wcF kn (nn 3) x y (nn 2) (vv, nn 2, nn 3)).1 (nn 4) 2 y (nI (cnt (fun i => onB kn vv (nI i) x) (nn 2))) (nI (cnt (fun i => onB kn vv (vv 9 i) x) (nn 3)))) else kn) (if (kAct (haB (kn 0) x && haB (kn 0) y && !decide (x = y)) (decide (nn 2 + cnt (fun i => onB kn vv (nI i) x) (nn 2) ≤ 40) && decide (nn 3 + cnt (fun i => onB kn vv (vv 9 i) x) (nn 3) ≤ 60)) (nn 4)) = 0 then (pfV (wcF kn (nn 3) x y (nn 2) (vv, nn 2, nn 3)).1 (nn 4) 2 y (nI (cnt (fun i => onB kn vv (nI i) x) (nn 2))) (nI (cnt (fun i => onB kn vv (vv 9 i) x) (nn 3)))) else vv) (if (kAct (haB (kn 0) x && haB (kn 0) y && !decide (x = y)) (decide (nn 2 + cnt (fun i => onB kn vv (nI i) x) (nn 2) ≤ 40) && decide (nn 3 + cnt (fun i => onB kn vv (vv 9 i) x) (nn 3) ≤ 60)) (nn 4)) = 0 then vp_updL f 0 (((nI (cnt (fun i => onB kn vv (nI i) x) (nn 2)))).toInt64) else f)) H1)) 1 6 (aO aa o) := by
  refine va_MetW (cc := b_L_copy) (maxL := 5) (ret := (some .int)) (hh := [(0, 10, 13, 13), (0, 10, 17, 15)]) (by decide) rfl ?_
  intro p e s m args below meth c s₁ B hml hv
  obtain ⟨rfl, rfl, hK, hT, hNc⟩ := hv
  have hx := B.exec
  have hb := B.bytes
  have hr := B.returns
  have hts0 := atoms_spec (ws := (wBW y_L_copy b_L_copy 5 (some .int) [(0, 10, 13, 13), (0, 10, 17, 15)])) B.pre
  have htab := vx_table (x := y_L_copy) B (hts0 _ List.mem_cons_self)
  have hts : ∀ w9 ∈ BG, w9.before [.ref (aa 0), .int x, .int y, .ref o].toArray s = true := fun w9 hw9 => hts0 w9 (List.mem_cons_of_mem _ hw9)
  have hown : s.vm.findClass R_L = some m.cls := findClass_of_methodNamed B.named
  have hlocks := B.notSynchronized
  have hK : va_K (dC, dI) classes [(cI, .int), (cZ, .boolean), (cJ, .long)] s := hK
  have hS : va_S (aO aa o) s.heap s.heap [] := va_S.rf
  have hl := lv_entry ([.ref (aa 0), .int x, .int y, .ref o]) (n := 5) (Nat.le_of_ble_eq_true rfl)
  rw [lg_entry_eq]
  generalize (lg_sl ([.ref (aa 0), .int x, .int y, .ref o]) ++ List.replicate (5 - (lg_sl ([.ref (aa 0), .int x, .int y, .ref o])).length) Slot.unset).toArray = ls at hl ⊢
  have hl : lv_has ls 5 [(0, .ref (aa 0)), (1, .int x), (2, .int y), (3, .ref o)] := hl
  refine lv_aload_n hx hb d_L_copy_0 rfl (lv_at hl 3 rfl) ?_
  refine lv_iconst (v := 0) hx hb d_L_copy_1 (by decide) ?_
  refine lv_aload_n hx hb d_L_copy_2 rfl (lv_at hl 0 rfl) ?_
  refine lv_iload_n hx hb d_L_copy_3 rfl (lv_at hl 1 rfl) ?_
  refine lv_iload_n hx hb d_L_copy_4 rfl (lv_at hl 2 rfl) ?_
  refine cT (vx_runV (As := [.int x, .int y]) (rest := [.int 0, .ref o]) ⟨hx, hb, hml, hown, hts⟩ (c_C_copy hlt (wL_l hP) hdD hI x y hcp) (cwV 2 hts (wB_goodV (fun _ h => h) ml_L_46 im_C_copy se_C_copy ini_C co_C_copy) rfl rfl rfl (by decide +kernel) ⟨Nat.le_of_ble_eq_true rfl, Nat.le_of_ble_eq_true rfl⟩) (pVL hK hT (fun q h => Or.inl h) hS (wL_l hP) (ci := 0) (q0 := 0) rfl rfl _) rfl rfl hl.1 rfl (lv_room (Nat.le_of_ble_eq_true rfl)) d_L_copy_5 ⟨Nat.le_of_ble_eq_true rfl, Nat.le_of_ble_eq_true rfl⟩) hS (fun q h => Or.inl h) (fun E ce q9 H1 locs1 hE hz hkp hS hce hcv hcl => ?_) (fun hk0 H1 locs1 hP1 hS hz hkp => ?_)
  · have hP1 : va_P (dC, dI) classes (wL aa o cI cZ cJ kn vv f) H1 := hP.kept (fun k q hk => hkp q.1 (hP k q hk).lt)
    rcases hE with ⟨hk, rfl⟩ | ⟨hk, rfl⟩
    · refine vx_catch (E := eIA) (name := eIA) hown [] ⟨0, 10, 13, 13⟩ [⟨0, 10, 17, 15⟩] htab (fun z h => by cases h) (by decide) (by decide) (hts _ cl_L_13) ((hT.2.2.1 _ (List.mem_of_getElem? (i := 3) rfl)).use rfl) hce hcv hcl ?_
      refine lv_astore (lv' := [(4, .ref q9), (0, .ref (aa 0)), (1, .int x), (2, .int y), (3, .ref o)]) hx hb d_L_copy_13 hl (by decide) rfl (fun ls hl => ?_)
      refine lv_iconst (v := 1) hx hb d_L_copy_15 (by decide) ?_
      have er : (some (.int (nI (kAct (haB (kn 0) x && haB (kn 0) y && !decide (x = y)) (decide (nn 2 + cnt (fun i => onB kn vv (nI i) x) (nn 2) ≤ 40) && decide (nn 3 + cnt (fun i => onB kn vv (vv 9 i) x) (nn 3) ≤ 60)) (nn 4)))) : Option Value) = some (.int 1) := by rw [hk]; rfl
      have hn0 : ¬ (kAct (haB (kn 0) x && haB (kn 0) y && !decide (x = y)) (decide (nn 2 + cnt (fun i => onB kn vv (nI i) x) (nn 2) ≤ 40) && decide (nn 3 + cnt (fun i => onB kn vv (vv 9 i) x) (nn 3) ≤ 60)) (nn 4)) = 0 := by rw [hk]; decide
      have hPe : va_P (dC, dI) classes (wL aa o cI cZ cJ (if (kAct (haB (kn 0) x && haB (kn 0) y && !decide (x = y)) (decide (nn 2 + cnt (fun i => onB kn vv (nI i) x) (nn 2) ≤ 40) && decide (nn 3 + cnt (fun i => onB kn vv (vv 9 i) x) (nn 3) ≤ 60)) (nn 4)) = 0 then (pfK kn (wcF kn (nn 3) x y (nn 2) (vv, nn 2, nn 3)).1 (nn 4) 2 y (nI (cnt (fun i => onB kn vv (nI i) x) (nn 2))) (nI (cnt (fun i => onB kn vv (vv 9 i) x) (nn 3)))) else kn) (if (kAct (haB (kn 0) x && haB (kn 0) y && !decide (x = y)) (decide (nn 2 + cnt (fun i => onB kn vv (nI i) x) (nn 2) ≤ 40) && decide (nn 3 + cnt (fun i => onB kn vv (vv 9 i) x) (nn 3) ≤ 60)) (nn 4)) = 0 then (pfV (wcF kn (nn 3) x y (nn 2) (vv, nn 2, nn 3)).1 (nn 4) 2 y (nI (cnt (fun i => onB kn vv (nI i) x) (nn 2))) (nI (cnt (fun i => onB kn vv (vv 9 i) x) (nn 3)))) else vv) (if (kAct (haB (kn 0) x && haB (kn 0) y && !decide (x = y)) (decide (nn 2 + cnt (fun i => onB kn vv (nI i) x) (nn 2) ≤ 40) && decide (nn 3 + cnt (fun i => onB kn vv (vv 9 i) x) (nn 3) ≤ 60)) (nn 4)) = 0 then vp_updL f 0 (((nI (cnt (fun i => onB kn vv (nI i) x) (nn 2)))).toInt64) else f)) H1 := by rw [if_neg hn0, if_neg hn0, if_neg hn0]; exact hP1
      exact W.iret (v := 1) hx hb hr (fun t ht hW => ⟨by rw [er], by rw [ht]; exact hPe, hS.F ht⟩) hS.2.2 d_L_copy_16
    · refine vx_catch (E := eIS) (name := eIS) hown [⟨0, 10, 13, 13⟩] ⟨0, 10, 17, 15⟩ [] htab (fun z h => by rcases List.mem_cons.mp h with rfl | h; exact Or.inr ⟨by decide, eIA, hts _ cl_L_13, hNc⟩; cases h) (by decide) (by decide) (hts _ cl_L_15) ((hT.2.2.1 _ (List.mem_of_getElem? (i := 4) rfl)).use rfl) hce hcv hcl ?_
      refine lv_astore (lv' := [(4, .ref q9), (0, .ref (aa 0)), (1, .int x), (2, .int y), (3, .ref o)]) hx hb d_L_copy_17 hl (by decide) rfl (fun ls hl => ?_)
      refine lv_iconst (v := 2) hx hb d_L_copy_19 (by decide) ?_
      have er : (some (.int (nI (kAct (haB (kn 0) x && haB (kn 0) y && !decide (x = y)) (decide (nn 2 + cnt (fun i => onB kn vv (nI i) x) (nn 2) ≤ 40) && decide (nn 3 + cnt (fun i => onB kn vv (vv 9 i) x) (nn 3) ≤ 60)) (nn 4)))) : Option Value) = some (.int 2) := by rw [hk]; rfl
      have hn0 : ¬ (kAct (haB (kn 0) x && haB (kn 0) y && !decide (x = y)) (decide (nn 2 + cnt (fun i => onB kn vv (nI i) x) (nn 2) ≤ 40) && decide (nn 3 + cnt (fun i => onB kn vv (vv 9 i) x) (nn 3) ≤ 60)) (nn 4)) = 0 := by rw [hk]; decide
      have hPe : va_P (dC, dI) classes (wL aa o cI cZ cJ (if (kAct (haB (kn 0) x && haB (kn 0) y && !decide (x = y)) (decide (nn 2 + cnt (fun i => onB kn vv (nI i) x) (nn 2) ≤ 40) && decide (nn 3 + cnt (fun i => onB kn vv (vv 9 i) x) (nn 3) ≤ 60)) (nn 4)) = 0 then (pfK kn (wcF kn (nn 3) x y (nn 2) (vv, nn 2, nn 3)).1 (nn 4) 2 y (nI (cnt (fun i => onB kn vv (nI i) x) (nn 2))) (nI (cnt (fun i => onB kn vv (vv 9 i) x) (nn 3)))) else kn) (if (kAct (haB (kn 0) x && haB (kn 0) y && !decide (x = y)) (decide (nn 2 + cnt (fun i => onB kn vv (nI i) x) (nn 2) ≤ 40) && decide (nn 3 + cnt (fun i => onB kn vv (vv 9 i) x) (nn 3) ≤ 60)) (nn 4)) = 0 then (pfV (wcF kn (nn 3) x y (nn 2) (vv, nn 2, nn 3)).1 (nn 4) 2 y (nI (cnt (fun i => onB kn vv (nI i) x) (nn 2))) (nI (cnt (fun i => onB kn vv (vv 9 i) x) (nn 3)))) else vv) (if (kAct (haB (kn 0) x && haB (kn 0) y && !decide (x = y)) (decide (nn 2 + cnt (fun i => onB kn vv (nI i) x) (nn 2) ≤ 40) && decide (nn 3 + cnt (fun i => onB kn vv (vv 9 i) x) (nn 3) ≤ 60)) (nn 4)) = 0 then vp_updL f 0 (((nI (cnt (fun i => onB kn vv (nI i) x) (nn 2)))).toInt64) else f)) H1 := by rw [if_neg hn0, if_neg hn0, if_neg hn0]; exact hP1
      exact W.iret (v := 2) hx hb hr (fun t ht hW => ⟨by rw [er], by rw [ht]; exact hPe, hS.F ht⟩) hS.2.2 d_L_copy_20
  · have hP : va_P (dC, dI) classes (wL aa o cI cZ cJ (pfK kn (wcF kn (nn 3) x y (nn 2) (vv, nn 2, nn 3)).1 (nn 4) 2 y (nI (cnt (fun i => onB kn vv (nI i) x) (nn 2))) (nI (cnt (fun i => onB kn vv (vv 9 i) x) (nn 3)))) (pfV (wcF kn (nn 3) x y (nn 2) (vv, nn 2, nn 3)).1 (nn 4) 2 y (nI (cnt (fun i => onB kn vv (nI i) x) (nn 2))) (nI (cnt (fun i => onB kn vv (vv 9 i) x) (nn 3)))) f) H1 := wL_mk hP1 ((hP 22 _ rfl).kept (hkp o (hP 22 _ rfl).lt (fun h => h.elim fun i hi => ho i hi.1 hi.2.symm)))
    have hD : va_D (aO aa o) (wL aa o cI cZ cJ (pfK kn (wcF kn (nn 3) x y (nn 2) (vv, nn 2, nn 3)).1 (nn 4) 2 y (nI (cnt (fun i => onB kn vv (nI i) x) (nn 2))) (nI (cnt (fun i => onB kn vv (vv 9 i) x) (nn 3)))) (pfV (wcF kn (nn 3) x y (nn 2) (vv, nn 2, nn 3)).1 (nn 4) 2 y (nI (cnt (fun i => onB kn vv (nI i) x) (nn 2))) (nI (cnt (fun i => onB kn vv (vv 9 i) x) (nn 3)))) f) := wL_D hdD ho
    refine lv_i2l (v := ((nI (cnt (fun i => onB kn vv (nI i) x) (nn 2)))).toInt64) hx hb d_L_copy_8 rfl ?_
    refine va_last hx hb hK hP hD hS 22 2 rfl rfl (vp_in_nI (n := 0) (by decide) (by decide)) d_L_copy_9 (fun H locs hP hD hS => ?_)
    have hP : va_P (dC, dI) classes (wL aa o cI cZ cJ (pfK kn (wcF kn (nn 3) x y (nn 2) (vv, nn 2, nn 3)).1 (nn 4) 2 y (nI (cnt (fun i => onB kn vv (nI i) x) (nn 2))) (nI (cnt (fun i => onB kn vv (vv 9 i) x) (nn 3)))) (pfV (wcF kn (nn 3) x y (nn 2) (vv, nn 2, nn 3)).1 (nn 4) 2 y (nI (cnt (fun i => onB kn vv (nI i) x) (nn 2))) (nI (cnt (fun i => onB kn vv (vv 9 i) x) (nn 3)))) (vp_updL f 0 (((nI (cnt (fun i => onB kn vv (nI i) x) (nn 2)))).toInt64))) H := hP
    refine lv_goto (tgt := 21) hx hb d_L_copy_10 (by decide) ?_
    refine lv_iconst (v := 0) hx hb d_L_copy_21 (by decide) ?_
    have er : (some (.int (nI (kAct (haB (kn 0) x && haB (kn 0) y && !decide (x = y)) (decide (nn 2 + cnt (fun i => onB kn vv (nI i) x) (nn 2) ≤ 40) && decide (nn 3 + cnt (fun i => onB kn vv (vv 9 i) x) (nn 3) ≤ 60)) (nn 4)))) : Option Value) = some (.int 0) := by rw [hk0]; rfl
    have hPe : va_P (dC, dI) classes (wL aa o cI cZ cJ (if (kAct (haB (kn 0) x && haB (kn 0) y && !decide (x = y)) (decide (nn 2 + cnt (fun i => onB kn vv (nI i) x) (nn 2) ≤ 40) && decide (nn 3 + cnt (fun i => onB kn vv (vv 9 i) x) (nn 3) ≤ 60)) (nn 4)) = 0 then (pfK kn (wcF kn (nn 3) x y (nn 2) (vv, nn 2, nn 3)).1 (nn 4) 2 y (nI (cnt (fun i => onB kn vv (nI i) x) (nn 2))) (nI (cnt (fun i => onB kn vv (vv 9 i) x) (nn 3)))) else kn) (if (kAct (haB (kn 0) x && haB (kn 0) y && !decide (x = y)) (decide (nn 2 + cnt (fun i => onB kn vv (nI i) x) (nn 2) ≤ 40) && decide (nn 3 + cnt (fun i => onB kn vv (vv 9 i) x) (nn 3) ≤ 60)) (nn 4)) = 0 then (pfV (wcF kn (nn 3) x y (nn 2) (vv, nn 2, nn 3)).1 (nn 4) 2 y (nI (cnt (fun i => onB kn vv (nI i) x) (nn 2))) (nI (cnt (fun i => onB kn vv (vv 9 i) x) (nn 3)))) else vv) (if (kAct (haB (kn 0) x && haB (kn 0) y && !decide (x = y)) (decide (nn 2 + cnt (fun i => onB kn vv (nI i) x) (nn 2) ≤ 40) && decide (nn 3 + cnt (fun i => onB kn vv (vv 9 i) x) (nn 3) ≤ 60)) (nn 4)) = 0 then vp_updL f 0 (((nI (cnt (fun i => onB kn vv (nI i) x) (nn 2)))).toInt64) else f)) H := by rw [if_pos hk0, if_pos hk0, if_pos hk0]; exact hP
    exact W.iret (v := 0) hx hb hr (fun t ht hW => ⟨by rw [er], by rw [ht]; exact hPe, hS.F ht⟩) hS.2.2 d_L_copy_22
set_option maxRecDepth 100000 in
set_option maxHeartbeats 4000000 in
theorem c_L_acts (hlt : l.stackTraces = false) (hP : va_P (dC, dI) classes (wL aa o cI cZ cJ kn vv f) H) (hdD : dD noT aa 22) (ho : ∀ i, i < 22 → ¬ aa i = o) (hI : okC kn nn) (x : Int32) : Met l y_L_acts (wBW y_L_acts b_L_acts 4 (some .int) [(0, 9, 12, 13)]) ({ frames := 7, cells := 1, slots := 6, locals := 111 } : Room) (rP [.ref (aa 0), .int x, .ref o] H (kL dC dI cI cZ cJ (aO aa o))) (qW (some (.int (nI (kTell (swB x 1))))) (aO aa o) (fun H1 => va_P (dC, dI) classes (wL aa o cI cZ cJ (if (kTell (swB x 1)) = 0 then kn else kn) (if (kTell (swB x 1)) = 0 then vv else vv) (if (kTell (swB x 1)) = 0 then vp_updL f 0 (((if x = 0 then kn 4 else kn 5 - kn 4)).toInt64) else f)) H1)) 1 6 (aO aa o) := by
  refine va_MetW (cc := b_L_acts) (maxL := 4) (ret := (some .int)) (hh := [(0, 9, 12, 13)]) (by decide) rfl ?_
  intro p e s m args below meth c s₁ B hml hv
  obtain ⟨rfl, rfl, hK, hT, hNc⟩ := hv
  have hx := B.exec
  have hb := B.bytes
  have hr := B.returns
  have hts0 := atoms_spec (ws := (wBW y_L_acts b_L_acts 4 (some .int) [(0, 9, 12, 13)])) B.pre
  have htab := vx_table (x := y_L_acts) B (hts0 _ List.mem_cons_self)
  have hts : ∀ w9 ∈ BG, w9.before [.ref (aa 0), .int x, .ref o].toArray s = true := fun w9 hw9 => hts0 w9 (List.mem_cons_of_mem _ hw9)
  have hown : s.vm.findClass R_L = some m.cls := findClass_of_methodNamed B.named
  have hlocks := B.notSynchronized
  have hK : va_K (dC, dI) classes [(cI, .int), (cZ, .boolean), (cJ, .long)] s := hK
  have hS : va_S (aO aa o) s.heap s.heap [] := va_S.rf
  have hl := lv_entry ([.ref (aa 0), .int x, .ref o]) (n := 4) (Nat.le_of_ble_eq_true rfl)
  rw [lg_entry_eq]
  generalize (lg_sl ([.ref (aa 0), .int x, .ref o]) ++ List.replicate (4 - (lg_sl ([.ref (aa 0), .int x, .ref o])).length) Slot.unset).toArray = ls at hl ⊢
  have hl : lv_has ls 4 [(0, .ref (aa 0)), (1, .int x), (2, .ref o)] := hl
  refine lv_aload_n hx hb d_L_acts_0 rfl (lv_at hl 2 rfl) ?_
  refine lv_iconst (v := 0) hx hb d_L_acts_1 (by decide) ?_
  refine lv_aload_n hx hb d_L_acts_2 rfl (lv_at hl 0 rfl) ?_
  refine lv_iload_n hx hb d_L_acts_3 rfl (lv_at hl 1 rfl) ?_
  refine cT (vx_runV (As := [.int x]) (rest := [.int 0, .ref o]) ⟨hx, hb, hml, hown, hts⟩ (c_C_acts hlt (wL_l hP) hdD hI x) (cwV 1 hts (wB_goodV (fun _ h => h) ml_L_50 im_C_acts se_C_acts ini_C co_C_acts) rfl rfl rfl (by decide +kernel) ⟨Nat.le_of_ble_eq_true rfl, Nat.le_of_ble_eq_true rfl⟩) (pVL hK hT (fun q h => Or.inl h) hS (wL_l hP) (ci := 0) (q0 := 0) rfl rfl _) rfl rfl hl.1 rfl (lv_room (Nat.le_of_ble_eq_true rfl)) d_L_acts_4 ⟨Nat.le_of_ble_eq_true rfl, Nat.le_of_ble_eq_true rfl⟩) hS (fun q h => Or.inl h) (fun E ce q9 H1 locs1 hE hz hkp hS hce hcv hcl => ?_) (fun hk0 H1 locs1 hP1 hS hz hkp => ?_)
  · have hP1 : va_P (dC, dI) classes (wL aa o cI cZ cJ kn vv f) H1 := hP.kept (fun k q hk => hkp q.1 (hP k q hk).lt)
    rcases hE with ⟨hk, rfl⟩ | ⟨hk, rfl⟩
    · refine vx_catch (E := eIA) (name := eIA) hown [] ⟨0, 9, 12, 13⟩ [] htab (fun z h => by cases h) (by decide) (by decide) (hts _ cl_L_13) ((hT.2.2.1 _ (List.mem_of_getElem? (i := 3) rfl)).use rfl) hce hcv hcl ?_
      refine lv_astore_n (lv' := [(3, .ref q9), (0, .ref (aa 0)), (1, .int x), (2, .ref o)]) hx hb d_L_acts_12 rfl hl (by decide) rfl (fun ls hl => ?_)
      refine lv_iconst (v := 1) hx hb d_L_acts_13 (by decide) ?_
      have er : (some (.int (nI (kTell (swB x 1)))) : Option Value) = some (.int 1) := by rw [hk]; rfl
      have hn0 : ¬ (kTell (swB x 1)) = 0 := by rw [hk]; decide
      have hPe : va_P (dC, dI) classes (wL aa o cI cZ cJ (if (kTell (swB x 1)) = 0 then kn else kn) (if (kTell (swB x 1)) = 0 then vv else vv) (if (kTell (swB x 1)) = 0 then vp_updL f 0 (((if x = 0 then kn 4 else kn 5 - kn 4)).toInt64) else f)) H1 := by rw [if_neg hn0, if_neg hn0, if_neg hn0]; exact hP1
      exact W.iret (v := 1) hx hb hr (fun t ht hW => ⟨by rw [er], by rw [ht]; exact hPe, hS.F ht⟩) hS.2.2 d_L_acts_14
    · exact absurd hk kTell_2
  · have hP : va_P (dC, dI) classes (wL aa o cI cZ cJ kn vv f) H1 := wL_mk hP1 ((hP 22 _ rfl).kept (hkp o (hP 22 _ rfl).lt (fun h => h.elim fun i hi => ho i hi.1 hi.2.symm)))
    have hD : va_D (aO aa o) (wL aa o cI cZ cJ kn vv f) := wL_D hdD ho
    refine lv_i2l (v := ((if x = 0 then kn 4 else kn 5 - kn 4)).toInt64) hx hb d_L_acts_7 rfl ?_
    refine va_last hx hb hK hP hD hS 22 2 rfl rfl (vp_in_nI (n := 0) (by decide) (by decide)) d_L_acts_8 (fun H locs hP hD hS => ?_)
    have hP : va_P (dC, dI) classes (wL aa o cI cZ cJ kn vv (vp_updL f 0 (((if x = 0 then kn 4 else kn 5 - kn 4)).toInt64))) H := hP
    refine lv_goto (tgt := 15) hx hb d_L_acts_9 (by decide) ?_
    refine lv_iconst (v := 0) hx hb d_L_acts_15 (by decide) ?_
    have er : (some (.int (nI (kTell (swB x 1)))) : Option Value) = some (.int 0) := by rw [hk0]; rfl
    have hPe : va_P (dC, dI) classes (wL aa o cI cZ cJ (if (kTell (swB x 1)) = 0 then kn else kn) (if (kTell (swB x 1)) = 0 then vv else vv) (if (kTell (swB x 1)) = 0 then vp_updL f 0 (((if x = 0 then kn 4 else kn 5 - kn 4)).toInt64) else f)) H := by rw [if_pos hk0, if_pos hk0, if_pos hk0]; exact hP
    exact W.iret (v := 0) hx hb hr (fun t ht hW => ⟨by rw [er], by rw [ht]; exact hPe, hS.F ht⟩) hS.2.2 d_L_acts_16
set_option maxRecDepth 100000 in
set_option maxHeartbeats 4000000 in
theorem c_L_many (hlt : l.stackTraces = false) (hP : va_P (dC, dI) classes (wL aa o cI cZ cJ kn vv f) H) (hdD : dD noT aa 22) (ho : ∀ i, i < 22 → ¬ aa i = o) (hI : okC kn nn) (x : Int32) : Met l y_L_many (wBW y_L_many b_L_many 4 (some .int) [(0, 9, 12, 13)]) ({ frames := 7, cells := 1, slots := 6, locals := 111 } : Room) (rP [.ref (aa 0), .int x, .ref o] H (kL dC dI cI cZ cJ (aO aa o))) (qW (some (.int (nI (kTell (swB x 3))))) (aO aa o) (fun H1 => va_P (dC, dI) classes (wL aa o cI cZ cJ (if (kTell (swB x 3)) = 0 then kn else kn) (if (kTell (swB x 3)) = 0 then vv else vv) (if (kTell (swB x 3)) = 0 then vp_updL f 0 (((if x = 0 then kn 0 else if x = 1 then kn 1 else if x = 2 then kn 2 else kn 3)).toInt64) else f)) H1)) 1 6 (aO aa o) := by
  refine va_MetW (cc := b_L_many) (maxL := 4) (ret := (some .int)) (hh := [(0, 9, 12, 13)]) (by decide) rfl ?_
  intro p e s m args below meth c s₁ B hml hv
  obtain ⟨rfl, rfl, hK, hT, hNc⟩ := hv
  have hx := B.exec
  have hb := B.bytes
  have hr := B.returns
  have hts0 := atoms_spec (ws := (wBW y_L_many b_L_many 4 (some .int) [(0, 9, 12, 13)])) B.pre
  have htab := vx_table (x := y_L_many) B (hts0 _ List.mem_cons_self)
  have hts : ∀ w9 ∈ BG, w9.before [.ref (aa 0), .int x, .ref o].toArray s = true := fun w9 hw9 => hts0 w9 (List.mem_cons_of_mem _ hw9)
  have hown : s.vm.findClass R_L = some m.cls := findClass_of_methodNamed B.named
  have hlocks := B.notSynchronized
  have hK : va_K (dC, dI) classes [(cI, .int), (cZ, .boolean), (cJ, .long)] s := hK
  have hS : va_S (aO aa o) s.heap s.heap [] := va_S.rf
  have hl := lv_entry ([.ref (aa 0), .int x, .ref o]) (n := 4) (Nat.le_of_ble_eq_true rfl)
  rw [lg_entry_eq]
  generalize (lg_sl ([.ref (aa 0), .int x, .ref o]) ++ List.replicate (4 - (lg_sl ([.ref (aa 0), .int x, .ref o])).length) Slot.unset).toArray = ls at hl ⊢
  have hl : lv_has ls 4 [(0, .ref (aa 0)), (1, .int x), (2, .ref o)] := hl
  refine lv_aload_n hx hb d_L_many_0 rfl (lv_at hl 2 rfl) ?_
  refine lv_iconst (v := 0) hx hb d_L_many_1 (by decide) ?_
  refine lv_aload_n hx hb d_L_many_2 rfl (lv_at hl 0 rfl) ?_
  refine lv_iload_n hx hb d_L_many_3 rfl (lv_at hl 1 rfl) ?_
  refine cT (vx_runV (As := [.int x]) (rest := [.int 0, .ref o]) ⟨hx, hb, hml, hown, hts⟩ (c_C_many hlt (wL_l hP) hdD hI x) (cwV 1 hts (wB_goodV (fun _ h => h) ml_L_53 im_C_many se_C_many ini_C co_C_many) rfl rfl rfl (by decide +kernel) ⟨Nat.le_of_ble_eq_true rfl, Nat.le_of_ble_eq_true rfl⟩) (pVL hK hT (fun q h => Or.inl h) hS (wL_l hP) (ci := 0) (q0 := 0) rfl rfl _) rfl rfl hl.1 rfl (lv_room (Nat.le_of_ble_eq_true rfl)) d_L_many_4 ⟨Nat.le_of_ble_eq_true rfl, Nat.le_of_ble_eq_true rfl⟩) hS (fun q h => Or.inl h) (fun E ce q9 H1 locs1 hE hz hkp hS hce hcv hcl => ?_) (fun hk0 H1 locs1 hP1 hS hz hkp => ?_)
  · have hP1 : va_P (dC, dI) classes (wL aa o cI cZ cJ kn vv f) H1 := hP.kept (fun k q hk => hkp q.1 (hP k q hk).lt)
    rcases hE with ⟨hk, rfl⟩ | ⟨hk, rfl⟩
    · refine vx_catch (E := eIA) (name := eIA) hown [] ⟨0, 9, 12, 13⟩ [] htab (fun z h => by cases h) (by decide) (by decide) (hts _ cl_L_13) ((hT.2.2.1 _ (List.mem_of_getElem? (i := 3) rfl)).use rfl) hce hcv hcl ?_
      refine lv_astore_n (lv' := [(3, .ref q9), (0, .ref (aa 0)), (1, .int x), (2, .ref o)]) hx hb d_L_many_12 rfl hl (by decide) rfl (fun ls hl => ?_)
      refine lv_iconst (v := 1) hx hb d_L_many_13 (by decide) ?_
      have er : (some (.int (nI (kTell (swB x 3)))) : Option Value) = some (.int 1) := by rw [hk]; rfl
      have hn0 : ¬ (kTell (swB x 3)) = 0 := by rw [hk]; decide
      have hPe : va_P (dC, dI) classes (wL aa o cI cZ cJ (if (kTell (swB x 3)) = 0 then kn else kn) (if (kTell (swB x 3)) = 0 then vv else vv) (if (kTell (swB x 3)) = 0 then vp_updL f 0 (((if x = 0 then kn 0 else if x = 1 then kn 1 else if x = 2 then kn 2 else kn 3)).toInt64) else f)) H1 := by rw [if_neg hn0, if_neg hn0, if_neg hn0]; exact hP1
      exact W.iret (v := 1) hx hb hr (fun t ht hW => ⟨by rw [er], by rw [ht]; exact hPe, hS.F ht⟩) hS.2.2 d_L_many_14
    · exact absurd hk kTell_2
  · have hP : va_P (dC, dI) classes (wL aa o cI cZ cJ kn vv f) H1 := wL_mk hP1 ((hP 22 _ rfl).kept (hkp o (hP 22 _ rfl).lt (fun h => h.elim fun i hi => ho i hi.1 hi.2.symm)))
    have hD : va_D (aO aa o) (wL aa o cI cZ cJ kn vv f) := wL_D hdD ho
    refine lv_i2l (v := ((if x = 0 then kn 0 else if x = 1 then kn 1 else if x = 2 then kn 2 else kn 3)).toInt64) hx hb d_L_many_7 rfl ?_
    refine va_last hx hb hK hP hD hS 22 2 rfl rfl (vp_in_nI (n := 0) (by decide) (by decide)) d_L_many_8 (fun H locs hP hD hS => ?_)
    have hP : va_P (dC, dI) classes (wL aa o cI cZ cJ kn vv (vp_updL f 0 (((if x = 0 then kn 0 else if x = 1 then kn 1 else if x = 2 then kn 2 else kn 3)).toInt64))) H := hP
    refine lv_goto (tgt := 15) hx hb d_L_many_9 (by decide) ?_
    refine lv_iconst (v := 0) hx hb d_L_many_15 (by decide) ?_
    have er : (some (.int (nI (kTell (swB x 3)))) : Option Value) = some (.int 0) := by rw [hk0]; rfl
    have hPe : va_P (dC, dI) classes (wL aa o cI cZ cJ (if (kTell (swB x 3)) = 0 then kn else kn) (if (kTell (swB x 3)) = 0 then vv else vv) (if (kTell (swB x 3)) = 0 then vp_updL f 0 (((if x = 0 then kn 0 else if x = 1 then kn 1 else if x = 2 then kn 2 else kn 3)).toInt64) else f)) H := by rw [if_pos hk0, if_pos hk0, if_pos hk0]; exact hP
    exact W.iret (v := 0) hx hb hr (fun t ht hW => ⟨by rw [er], by rw [ht]; exact hPe, hS.F ht⟩) hS.2.2 d_L_many_16
set_option maxRecDepth 100000 in
set_option maxHeartbeats 4000000 in
theorem c_L_wallAt (hlt : l.stackTraces = false) (hP : va_P (dC, dI) classes (wL aa o cI cZ cJ kn vv f) H) (hdD : dD noT aa 22) (ho : ∀ i, i < 22 → ¬ aa i = o) (hI : okC kn nn) (hV : okV nn vv) (x y : Int32) : Met l y_L_wallAt (wBW y_L_wallAt b_L_wallAt 5 (some .int) [(0, 9, 12, 13)]) ({ frames := 8, cells := 1, slots := 6, locals := 135 } : Room) (rP [.ref (aa 0), .int x, .int y, .ref o] H (kL dC dI cI cZ cJ (aO aa o))) (qW (some (.int (nI (kTell (tW kn vv x && swB y 9))))) (aO aa o) (fun H1 => va_P (dC, dI) classes (wL aa o cI cZ cJ (if (kTell (tW kn vv x && swB y 9)) = 0 then kn else kn) (if (kTell (tW kn vv x && swB y 9)) = 0 then vv else vv) (if (kTell (tW kn vv x && swB y 9)) = 0 then vp_updL f 0 ((waR kn vv nn x.toNatClampNeg y)) else f)) H1)) 1 6 (aO aa o) := by
  refine va_MetW (cc := b_L_wallAt) (maxL := 5) (ret := (some .int)) (hh := [(0, 9, 12, 13)]) (by decide) rfl ?_
  intro p e s m args below meth c s₁ B hml hv
  obtain ⟨rfl, rfl, hK, hT, hNc⟩ := hv
  have hx := B.exec
  have hb := B.bytes
  have hr := B.returns
  have hts0 := atoms_spec (ws := (wBW y_L_wallAt b_L_wallAt 5 (some .int) [(0, 9, 12, 13)])) B.pre
  have htab := vx_table (x := y_L_wallAt) B (hts0 _ List.mem_cons_self)
  have hts : ∀ w9 ∈ BG, w9.before [.ref (aa 0), .int x, .int y, .ref o].toArray s = true := fun w9 hw9 => hts0 w9 (List.mem_cons_of_mem _ hw9)
  have hown : s.vm.findClass R_L = some m.cls := findClass_of_methodNamed B.named
  have hlocks := B.notSynchronized
  have hK : va_K (dC, dI) classes [(cI, .int), (cZ, .boolean), (cJ, .long)] s := hK
  have hS : va_S (aO aa o) s.heap s.heap [] := va_S.rf
  have hl := lv_entry ([.ref (aa 0), .int x, .int y, .ref o]) (n := 5) (Nat.le_of_ble_eq_true rfl)
  rw [lg_entry_eq]
  generalize (lg_sl ([.ref (aa 0), .int x, .int y, .ref o]) ++ List.replicate (5 - (lg_sl ([.ref (aa 0), .int x, .int y, .ref o])).length) Slot.unset).toArray = ls at hl ⊢
  have hl : lv_has ls 5 [(0, .ref (aa 0)), (1, .int x), (2, .int y), (3, .ref o)] := hl
  refine lv_aload_n hx hb d_L_wallAt_0 rfl (lv_at hl 3 rfl) ?_
  refine lv_iconst (v := 0) hx hb d_L_wallAt_1 (by decide) ?_
  refine lv_aload_n hx hb d_L_wallAt_2 rfl (lv_at hl 0 rfl) ?_
  refine lv_iload_n hx hb d_L_wallAt_3 rfl (lv_at hl 1 rfl) ?_
  refine lv_iload_n hx hb d_L_wallAt_4 rfl (lv_at hl 2 rfl) ?_
  refine cT (vx_runV (As := [.int x, .int y]) (rest := [.int 0, .ref o]) ⟨hx, hb, hml, hown, hts⟩ (c_C_wallAt hlt (wL_l hP) hdD hI hV x y) (cwV 2 hts (wB_goodV (fun _ h => h) ml_L_56 im_C_wallAt se_C_wallAt ini_C co_C_wallAt) rfl rfl rfl (by decide +kernel) ⟨Nat.le_of_ble_eq_true rfl, Nat.le_of_ble_eq_true rfl⟩) (pVL hK hT (fun q h => Or.inl h) hS (wL_l hP) (ci := 0) (q0 := 0) rfl rfl _) rfl rfl hl.1 rfl (lv_room (Nat.le_of_ble_eq_true rfl)) d_L_wallAt_5 ⟨Nat.le_of_ble_eq_true rfl, Nat.le_of_ble_eq_true rfl⟩) hS (fun q h => Or.inl h) (fun E ce q9 H1 locs1 hE hz hkp hS hce hcv hcl => ?_) (fun hk0 H1 locs1 hP1 hS hz hkp => ?_)
  · have hP1 : va_P (dC, dI) classes (wL aa o cI cZ cJ kn vv f) H1 := hP.kept (fun k q hk => hkp q.1 (hP k q hk).lt)
    rcases hE with ⟨hk, rfl⟩ | ⟨hk, rfl⟩
    · refine vx_catch (E := eIA) (name := eIA) hown [] ⟨0, 9, 12, 13⟩ [] htab (fun z h => by cases h) (by decide) (by decide) (hts _ cl_L_13) ((hT.2.2.1 _ (List.mem_of_getElem? (i := 3) rfl)).use rfl) hce hcv hcl ?_
      refine lv_astore (lv' := [(4, .ref q9), (0, .ref (aa 0)), (1, .int x), (2, .int y), (3, .ref o)]) hx hb d_L_wallAt_12 hl (by decide) rfl (fun ls hl => ?_)
      refine lv_iconst (v := 1) hx hb d_L_wallAt_14 (by decide) ?_
      have er : (some (.int (nI (kTell (tW kn vv x && swB y 9)))) : Option Value) = some (.int 1) := by rw [hk]; rfl
      have hn0 : ¬ (kTell (tW kn vv x && swB y 9)) = 0 := by rw [hk]; decide
      have hPe : va_P (dC, dI) classes (wL aa o cI cZ cJ (if (kTell (tW kn vv x && swB y 9)) = 0 then kn else kn) (if (kTell (tW kn vv x && swB y 9)) = 0 then vv else vv) (if (kTell (tW kn vv x && swB y 9)) = 0 then vp_updL f 0 ((waR kn vv nn x.toNatClampNeg y)) else f)) H1 := by rw [if_neg hn0, if_neg hn0, if_neg hn0]; exact hP1
      exact W.iret (v := 1) hx hb hr (fun t ht hW => ⟨by rw [er], by rw [ht]; exact hPe, hS.F ht⟩) hS.2.2 d_L_wallAt_15
    · exact absurd hk kTell_2
  · have hP : va_P (dC, dI) classes (wL aa o cI cZ cJ kn vv f) H1 := wL_mk hP1 ((hP 22 _ rfl).kept (hkp o (hP 22 _ rfl).lt (fun h => h.elim fun i hi => ho i hi.1 hi.2.symm)))
    have hD : va_D (aO aa o) (wL aa o cI cZ cJ kn vv f) := wL_D hdD ho
    refine va_last hx hb hK hP hD hS 22 2 rfl rfl (vp_in_nI (n := 0) (by decide) (by decide)) d_L_wallAt_8 (fun H locs hP hD hS => ?_)
    have hP : va_P (dC, dI) classes (wL aa o cI cZ cJ kn vv (vp_updL f 0 ((waR kn vv nn x.toNatClampNeg y)))) H := hP
    refine lv_goto (tgt := 16) hx hb d_L_wallAt_9 (by decide) ?_
    refine lv_iconst (v := 0) hx hb d_L_wallAt_16 (by decide) ?_
    have er : (some (.int (nI (kTell (tW kn vv x && swB y 9)))) : Option Value) = some (.int 0) := by rw [hk0]; rfl
    have hPe : va_P (dC, dI) classes (wL aa o cI cZ cJ (if (kTell (tW kn vv x && swB y 9)) = 0 then kn else kn) (if (kTell (tW kn vv x && swB y 9)) = 0 then vv else vv) (if (kTell (tW kn vv x && swB y 9)) = 0 then vp_updL f 0 ((waR kn vv nn x.toNatClampNeg y)) else f)) H := by rw [if_pos hk0, if_pos hk0, if_pos hk0]; exact hP
    exact W.iret (v := 0) hx hb hr (fun t ht hW => ⟨by rw [er], by rw [ht]; exact hPe, hS.F ht⟩) hS.2.2 d_L_wallAt_17
set_option maxRecDepth 100000 in
set_option maxHeartbeats 4000000 in
theorem c_L_openingAt (hlt : l.stackTraces = false) (hP : va_P (dC, dI) classes (wL aa o cI cZ cJ kn vv f) H) (hdD : dD noT aa 22) (ho : ∀ i, i < 22 → ¬ aa i = o) (hI : okC kn nn) (x y : Int32) : Met l y_L_openingAt (wBW y_L_openingAt b_L_openingAt 5 (some .int) [(0, 10, 13, 13)]) ({ frames := 7, cells := 1, slots := 6, locals := 112 } : Room) (rP [.ref (aa 0), .int x, .int y, .ref o] H (kL dC dI cI cZ cJ (aO aa o))) (qW (some (.int (nI (kTell (haB (kn 3) x && tW kn vv (vv 9 x.toNatClampNeg) && swB y 2))))) (aO aa o) (fun H1 => va_P (dC, dI) classes (wL aa o cI cZ cJ (if (kTell (haB (kn 3) x && tW kn vv (vv 9 x.toNatClampNeg) && swB y 2)) = 0 then kn else kn) (if (kTell (haB (kn 3) x && tW kn vv (vv 9 x.toNatClampNeg) && swB y 2)) = 0 then vv else vv) (if (kTell (haB (kn 3) x && tW kn vv (vv 9 x.toNatClampNeg) && swB y 2)) = 0 then vp_updL f 0 (((opR vv x.toNatClampNeg y)).toInt64) else f)) H1)) 1 6 (aO aa o) := by
  refine va_MetW (cc := b_L_openingAt) (maxL := 5) (ret := (some .int)) (hh := [(0, 10, 13, 13)]) (by decide) rfl ?_
  intro p e s m args below meth c s₁ B hml hv
  obtain ⟨rfl, rfl, hK, hT, hNc⟩ := hv
  have hx := B.exec
  have hb := B.bytes
  have hr := B.returns
  have hts0 := atoms_spec (ws := (wBW y_L_openingAt b_L_openingAt 5 (some .int) [(0, 10, 13, 13)])) B.pre
  have htab := vx_table (x := y_L_openingAt) B (hts0 _ List.mem_cons_self)
  have hts : ∀ w9 ∈ BG, w9.before [.ref (aa 0), .int x, .int y, .ref o].toArray s = true := fun w9 hw9 => hts0 w9 (List.mem_cons_of_mem _ hw9)
  have hown : s.vm.findClass R_L = some m.cls := findClass_of_methodNamed B.named
  have hlocks := B.notSynchronized
  have hK : va_K (dC, dI) classes [(cI, .int), (cZ, .boolean), (cJ, .long)] s := hK
  have hS : va_S (aO aa o) s.heap s.heap [] := va_S.rf
  have hl := lv_entry ([.ref (aa 0), .int x, .int y, .ref o]) (n := 5) (Nat.le_of_ble_eq_true rfl)
  rw [lg_entry_eq]
  generalize (lg_sl ([.ref (aa 0), .int x, .int y, .ref o]) ++ List.replicate (5 - (lg_sl ([.ref (aa 0), .int x, .int y, .ref o])).length) Slot.unset).toArray = ls at hl ⊢
  have hl : lv_has ls 5 [(0, .ref (aa 0)), (1, .int x), (2, .int y), (3, .ref o)] := hl
  refine lv_aload_n hx hb d_L_openingAt_0 rfl (lv_at hl 3 rfl) ?_
  refine lv_iconst (v := 0) hx hb d_L_openingAt_1 (by decide) ?_
  refine lv_aload_n hx hb d_L_openingAt_2 rfl (lv_at hl 0 rfl) ?_
  refine lv_iload_n hx hb d_L_openingAt_3 rfl (lv_at hl 1 rfl) ?_
  refine lv_iload_n hx hb d_L_openingAt_4 rfl (lv_at hl 2 rfl) ?_
  refine cT (vx_runV (As := [.int x, .int y]) (rest := [.int 0, .ref o]) ⟨hx, hb, hml, hown, hts⟩ (c_C_openingAt hlt (wL_l hP) hdD hI x y) (cwV 2 hts (wB_goodV (fun _ h => h) ml_L_60 im_C_openingAt se_C_openingAt ini_C co_C_openingAt) rfl rfl rfl (by decide +kernel) ⟨Nat.le_of_ble_eq_true rfl, Nat.le_of_ble_eq_true rfl⟩) (pVL hK hT (fun q h => Or.inl h) hS (wL_l hP) (ci := 0) (q0 := 0) rfl rfl _) rfl rfl hl.1 rfl (lv_room (Nat.le_of_ble_eq_true rfl)) d_L_openingAt_5 ⟨Nat.le_of_ble_eq_true rfl, Nat.le_of_ble_eq_true rfl⟩) hS (fun q h => Or.inl h) (fun E ce q9 H1 locs1 hE hz hkp hS hce hcv hcl => ?_) (fun hk0 H1 locs1 hP1 hS hz hkp => ?_)
  · have hP1 : va_P (dC, dI) classes (wL aa o cI cZ cJ kn vv f) H1 := hP.kept (fun k q hk => hkp q.1 (hP k q hk).lt)
    rcases hE with ⟨hk, rfl⟩ | ⟨hk, rfl⟩
    · refine vx_catch (E := eIA) (name := eIA) hown [] ⟨0, 10, 13, 13⟩ [] htab (fun z h => by cases h) (by decide) (by decide) (hts _ cl_L_13) ((hT.2.2.1 _ (List.mem_of_getElem? (i := 3) rfl)).use rfl) hce hcv hcl ?_
      refine lv_astore (lv' := [(4, .ref q9), (0, .ref (aa 0)), (1, .int x), (2, .int y), (3, .ref o)]) hx hb d_L_openingAt_13 hl (by decide) rfl (fun ls hl => ?_)
      refine lv_iconst (v := 1) hx hb d_L_openingAt_15 (by decide) ?_
      have er : (some (.int (nI (kTell (haB (kn 3) x && tW kn vv (vv 9 x.toNatClampNeg) && swB y 2)))) : Option Value) = some (.int 1) := by rw [hk]; rfl
      have hn0 : ¬ (kTell (haB (kn 3) x && tW kn vv (vv 9 x.toNatClampNeg) && swB y 2)) = 0 := by rw [hk]; decide
      have hPe : va_P (dC, dI) classes (wL aa o cI cZ cJ (if (kTell (haB (kn 3) x && tW kn vv (vv 9 x.toNatClampNeg) && swB y 2)) = 0 then kn else kn) (if (kTell (haB (kn 3) x && tW kn vv (vv 9 x.toNatClampNeg) && swB y 2)) = 0 then vv else vv) (if (kTell (haB (kn 3) x && tW kn vv (vv 9 x.toNatClampNeg) && swB y 2)) = 0 then vp_updL f 0 (((opR vv x.toNatClampNeg y)).toInt64) else f)) H1 := by rw [if_neg hn0, if_neg hn0, if_neg hn0]; exact hP1
      exact W.iret (v := 1) hx hb hr (fun t ht hW => ⟨by rw [er], by rw [ht]; exact hPe, hS.F ht⟩) hS.2.2 d_L_openingAt_16
    · exact absurd hk kTell_2
  · have hP : va_P (dC, dI) classes (wL aa o cI cZ cJ kn vv f) H1 := wL_mk hP1 ((hP 22 _ rfl).kept (hkp o (hP 22 _ rfl).lt (fun h => h.elim fun i hi => ho i hi.1 hi.2.symm)))
    have hD : va_D (aO aa o) (wL aa o cI cZ cJ kn vv f) := wL_D hdD ho
    refine lv_i2l (v := ((opR vv x.toNatClampNeg y)).toInt64) hx hb d_L_openingAt_8 rfl ?_
    refine va_last hx hb hK hP hD hS 22 2 rfl rfl (vp_in_nI (n := 0) (by decide) (by decide)) d_L_openingAt_9 (fun H locs hP hD hS => ?_)
    have hP : va_P (dC, dI) classes (wL aa o cI cZ cJ kn vv (vp_updL f 0 (((opR vv x.toNatClampNeg y)).toInt64))) H := hP
    refine lv_goto (tgt := 17) hx hb d_L_openingAt_10 (by decide) ?_
    refine lv_iconst (v := 0) hx hb d_L_openingAt_17 (by decide) ?_
    have er : (some (.int (nI (kTell (haB (kn 3) x && tW kn vv (vv 9 x.toNatClampNeg) && swB y 2)))) : Option Value) = some (.int 0) := by rw [hk0]; rfl
    have hPe : va_P (dC, dI) classes (wL aa o cI cZ cJ (if (kTell (haB (kn 3) x && tW kn vv (vv 9 x.toNatClampNeg) && swB y 2)) = 0 then kn else kn) (if (kTell (haB (kn 3) x && tW kn vv (vv 9 x.toNatClampNeg) && swB y 2)) = 0 then vv else vv) (if (kTell (haB (kn 3) x && tW kn vv (vv 9 x.toNatClampNeg) && swB y 2)) = 0 then vp_updL f 0 (((opR vv x.toNatClampNeg y)).toInt64) else f)) H := by rw [if_pos hk0, if_pos hk0, if_pos hk0]; exact hP
    exact W.iret (v := 0) hx hb hr (fun t ht hW => ⟨by rw [er], by rw [ht]; exact hPe, hS.F ht⟩) hS.2.2 d_L_openingAt_18
set_option maxRecDepth 100000 in
set_option maxHeartbeats 4000000 in
theorem c_L_storeyAt (hlt : l.stackTraces = false) (hP : va_P (dC, dI) classes (wL aa o cI cZ cJ kn vv f) H) (hdD : dD noT aa 22) (ho : ∀ i, i < 22 → ¬ aa i = o) (hI : okC kn nn) (hV : okV nn vv) (x y : Int32) : Met l y_L_storeyAt (wBW y_L_storeyAt b_L_storeyAt 5 (some .int) [(0, 9, 12, 13)]) ({ frames := 8, cells := 1, slots := 6, locals := 159 } : Room) (rP [.ref (aa 0), .int x, .int y, .ref o] H (kL dC dI cI cZ cJ (aO aa o))) (qW (some (.int (nI (kTell (haB (kn 0) x && swB y 3))))) (aO aa o) (fun H1 => va_P (dC, dI) classes (wL aa o cI cZ cJ (if (kTell (haB (kn 0) x && swB y 3)) = 0 then kn else kn) (if (kTell (haB (kn 0) x && swB y 3)) = 0 then vv else vv) (if (kTell (haB (kn 0) x && swB y 3)) = 0 then vp_updL f 0 ((srR kn vv nn x y)) else f)) H1)) 1 6 (aO aa o) := by
  refine va_MetW (cc := b_L_storeyAt) (maxL := 5) (ret := (some .int)) (hh := [(0, 9, 12, 13)]) (by decide) rfl ?_
  intro p e s m args below meth c s₁ B hml hv
  obtain ⟨rfl, rfl, hK, hT, hNc⟩ := hv
  have hx := B.exec
  have hb := B.bytes
  have hr := B.returns
  have hts0 := atoms_spec (ws := (wBW y_L_storeyAt b_L_storeyAt 5 (some .int) [(0, 9, 12, 13)])) B.pre
  have htab := vx_table (x := y_L_storeyAt) B (hts0 _ List.mem_cons_self)
  have hts : ∀ w9 ∈ BG, w9.before [.ref (aa 0), .int x, .int y, .ref o].toArray s = true := fun w9 hw9 => hts0 w9 (List.mem_cons_of_mem _ hw9)
  have hown : s.vm.findClass R_L = some m.cls := findClass_of_methodNamed B.named
  have hlocks := B.notSynchronized
  have hK : va_K (dC, dI) classes [(cI, .int), (cZ, .boolean), (cJ, .long)] s := hK
  have hS : va_S (aO aa o) s.heap s.heap [] := va_S.rf
  have hl := lv_entry ([.ref (aa 0), .int x, .int y, .ref o]) (n := 5) (Nat.le_of_ble_eq_true rfl)
  rw [lg_entry_eq]
  generalize (lg_sl ([.ref (aa 0), .int x, .int y, .ref o]) ++ List.replicate (5 - (lg_sl ([.ref (aa 0), .int x, .int y, .ref o])).length) Slot.unset).toArray = ls at hl ⊢
  have hl : lv_has ls 5 [(0, .ref (aa 0)), (1, .int x), (2, .int y), (3, .ref o)] := hl
  refine lv_aload_n hx hb d_L_storeyAt_0 rfl (lv_at hl 3 rfl) ?_
  refine lv_iconst (v := 0) hx hb d_L_storeyAt_1 (by decide) ?_
  refine lv_aload_n hx hb d_L_storeyAt_2 rfl (lv_at hl 0 rfl) ?_
  refine lv_iload_n hx hb d_L_storeyAt_3 rfl (lv_at hl 1 rfl) ?_
  refine lv_iload_n hx hb d_L_storeyAt_4 rfl (lv_at hl 2 rfl) ?_
  refine cT (vx_runV (As := [.int x, .int y]) (rest := [.int 0, .ref o]) ⟨hx, hb, hml, hown, hts⟩ (c_C_storeyAt hlt (wL_l hP) hdD hI hV x y) (cwV 2 hts (wB_goodV (fun _ h => h) ml_L_63 im_C_storeyAt se_C_storeyAt ini_C co_C_storeyAt) rfl rfl rfl (by decide +kernel) ⟨Nat.le_of_ble_eq_true rfl, Nat.le_of_ble_eq_true rfl⟩) (pVL hK hT (fun q h => Or.inl h) hS (wL_l hP) (ci := 0) (q0 := 0) rfl rfl _) rfl rfl hl.1 rfl (lv_room (Nat.le_of_ble_eq_true rfl)) d_L_storeyAt_5 ⟨Nat.le_of_ble_eq_true rfl, Nat.le_of_ble_eq_true rfl⟩) hS (fun q h => Or.inl h) (fun E ce q9 H1 locs1 hE hz hkp hS hce hcv hcl => ?_) (fun hk0 H1 locs1 hP1 hS hz hkp => ?_)
  · have hP1 : va_P (dC, dI) classes (wL aa o cI cZ cJ kn vv f) H1 := hP.kept (fun k q hk => hkp q.1 (hP k q hk).lt)
    rcases hE with ⟨hk, rfl⟩ | ⟨hk, rfl⟩
    · refine vx_catch (E := eIA) (name := eIA) hown [] ⟨0, 9, 12, 13⟩ [] htab (fun z h => by cases h) (by decide) (by decide) (hts _ cl_L_13) ((hT.2.2.1 _ (List.mem_of_getElem? (i := 3) rfl)).use rfl) hce hcv hcl ?_
      refine lv_astore (lv' := [(4, .ref q9), (0, .ref (aa 0)), (1, .int x), (2, .int y), (3, .ref o)]) hx hb d_L_storeyAt_12 hl (by decide) rfl (fun ls hl => ?_)
      refine lv_iconst (v := 1) hx hb d_L_storeyAt_14 (by decide) ?_
      have er : (some (.int (nI (kTell (haB (kn 0) x && swB y 3)))) : Option Value) = some (.int 1) := by rw [hk]; rfl
      have hn0 : ¬ (kTell (haB (kn 0) x && swB y 3)) = 0 := by rw [hk]; decide
      have hPe : va_P (dC, dI) classes (wL aa o cI cZ cJ (if (kTell (haB (kn 0) x && swB y 3)) = 0 then kn else kn) (if (kTell (haB (kn 0) x && swB y 3)) = 0 then vv else vv) (if (kTell (haB (kn 0) x && swB y 3)) = 0 then vp_updL f 0 ((srR kn vv nn x y)) else f)) H1 := by rw [if_neg hn0, if_neg hn0, if_neg hn0]; exact hP1
      exact W.iret (v := 1) hx hb hr (fun t ht hW => ⟨by rw [er], by rw [ht]; exact hPe, hS.F ht⟩) hS.2.2 d_L_storeyAt_15
    · exact absurd hk kTell_2
  · have hP : va_P (dC, dI) classes (wL aa o cI cZ cJ kn vv f) H1 := wL_mk hP1 ((hP 22 _ rfl).kept (hkp o (hP 22 _ rfl).lt (fun h => h.elim fun i hi => ho i hi.1 hi.2.symm)))
    have hD : va_D (aO aa o) (wL aa o cI cZ cJ kn vv f) := wL_D hdD ho
    refine va_last hx hb hK hP hD hS 22 2 rfl rfl (vp_in_nI (n := 0) (by decide) (by decide)) d_L_storeyAt_8 (fun H locs hP hD hS => ?_)
    have hP : va_P (dC, dI) classes (wL aa o cI cZ cJ kn vv (vp_updL f 0 ((srR kn vv nn x y)))) H := hP
    refine lv_goto (tgt := 16) hx hb d_L_storeyAt_9 (by decide) ?_
    refine lv_iconst (v := 0) hx hb d_L_storeyAt_16 (by decide) ?_
    have er : (some (.int (nI (kTell (haB (kn 0) x && swB y 3)))) : Option Value) = some (.int 0) := by rw [hk0]; rfl
    have hPe : va_P (dC, dI) classes (wL aa o cI cZ cJ (if (kTell (haB (kn 0) x && swB y 3)) = 0 then kn else kn) (if (kTell (haB (kn 0) x && swB y 3)) = 0 then vv else vv) (if (kTell (haB (kn 0) x && swB y 3)) = 0 then vp_updL f 0 ((srR kn vv nn x y)) else f)) H := by rw [if_pos hk0, if_pos hk0, if_pos hk0]; exact hP
    exact W.iret (v := 0) hx hb hr (fun t ht hW => ⟨by rw [er], by rw [ht]; exact hPe, hS.F ht⟩) hS.2.2 d_L_storeyAt_17
set_option maxRecDepth 100000 in
set_option maxHeartbeats 4000000 in
theorem c_L_typeAt (hlt : l.stackTraces = false) (hP : va_P (dC, dI) classes (wL aa o cI cZ cJ kn vv f) H) (hdD : dD noT aa 22) (ho : ∀ i, i < 22 → ¬ aa i = o) (hI : okC kn nn) (hV : okV nn vv) (x y : Int32) : Met l y_L_typeAt (wBW y_L_typeAt b_L_typeAt 5 (some .int) [(0, 9, 12, 13)]) ({ frames := 8, cells := 1, slots := 6, locals := 136 } : Room) (rP [.ref (aa 0), .int x, .int y, .ref o] H (kL dC dI cI cZ cJ (aO aa o))) (qW (some (.int (nI (kTell (haB (kn 1) x && swB y 2))))) (aO aa o) (fun H1 => va_P (dC, dI) classes (wL aa o cI cZ cJ (if (kTell (haB (kn 1) x && swB y 2)) = 0 then kn else kn) (if (kTell (haB (kn 1) x && swB y 2)) = 0 then vv else vv) (if (kTell (haB (kn 1) x && swB y 2)) = 0 then vp_updL f 0 ((tyR kn vv nn x y)) else f)) H1)) 1 6 (aO aa o) := by
  refine va_MetW (cc := b_L_typeAt) (maxL := 5) (ret := (some .int)) (hh := [(0, 9, 12, 13)]) (by decide) rfl ?_
  intro p e s m args below meth c s₁ B hml hv
  obtain ⟨rfl, rfl, hK, hT, hNc⟩ := hv
  have hx := B.exec
  have hb := B.bytes
  have hr := B.returns
  have hts0 := atoms_spec (ws := (wBW y_L_typeAt b_L_typeAt 5 (some .int) [(0, 9, 12, 13)])) B.pre
  have htab := vx_table (x := y_L_typeAt) B (hts0 _ List.mem_cons_self)
  have hts : ∀ w9 ∈ BG, w9.before [.ref (aa 0), .int x, .int y, .ref o].toArray s = true := fun w9 hw9 => hts0 w9 (List.mem_cons_of_mem _ hw9)
  have hown : s.vm.findClass R_L = some m.cls := findClass_of_methodNamed B.named
  have hlocks := B.notSynchronized
  have hK : va_K (dC, dI) classes [(cI, .int), (cZ, .boolean), (cJ, .long)] s := hK
  have hS : va_S (aO aa o) s.heap s.heap [] := va_S.rf
  have hl := lv_entry ([.ref (aa 0), .int x, .int y, .ref o]) (n := 5) (Nat.le_of_ble_eq_true rfl)
  rw [lg_entry_eq]
  generalize (lg_sl ([.ref (aa 0), .int x, .int y, .ref o]) ++ List.replicate (5 - (lg_sl ([.ref (aa 0), .int x, .int y, .ref o])).length) Slot.unset).toArray = ls at hl ⊢
  have hl : lv_has ls 5 [(0, .ref (aa 0)), (1, .int x), (2, .int y), (3, .ref o)] := hl
  refine lv_aload_n hx hb d_L_typeAt_0 rfl (lv_at hl 3 rfl) ?_
  refine lv_iconst (v := 0) hx hb d_L_typeAt_1 (by decide) ?_
  refine lv_aload_n hx hb d_L_typeAt_2 rfl (lv_at hl 0 rfl) ?_
  refine lv_iload_n hx hb d_L_typeAt_3 rfl (lv_at hl 1 rfl) ?_
  refine lv_iload_n hx hb d_L_typeAt_4 rfl (lv_at hl 2 rfl) ?_
  refine cT (vx_runV (As := [.int x, .int y]) (rest := [.int 0, .ref o]) ⟨hx, hb, hml, hown, hts⟩ (c_C_typeAt hlt (wL_l hP) hdD hI hV x y) (cwV 2 hts (wB_goodV (fun _ h => h) ml_L_66 im_C_typeAt se_C_typeAt ini_C co_C_typeAt) rfl rfl rfl (by decide +kernel) ⟨Nat.le_of_ble_eq_true rfl, Nat.le_of_ble_eq_true rfl⟩) (pVL hK hT (fun q h => Or.inl h) hS (wL_l hP) (ci := 0) (q0 := 0) rfl rfl _) rfl rfl hl.1 rfl (lv_room (Nat.le_of_ble_eq_true rfl)) d_L_typeAt_5 ⟨Nat.le_of_ble_eq_true rfl, Nat.le_of_ble_eq_true rfl⟩) hS (fun q h => Or.inl h) (fun E ce q9 H1 locs1 hE hz hkp hS hce hcv hcl => ?_) (fun hk0 H1 locs1 hP1 hS hz hkp => ?_)
  · have hP1 : va_P (dC, dI) classes (wL aa o cI cZ cJ kn vv f) H1 := hP.kept (fun k q hk => hkp q.1 (hP k q hk).lt)
    rcases hE with ⟨hk, rfl⟩ | ⟨hk, rfl⟩
    · refine vx_catch (E := eIA) (name := eIA) hown [] ⟨0, 9, 12, 13⟩ [] htab (fun z h => by cases h) (by decide) (by decide) (hts _ cl_L_13) ((hT.2.2.1 _ (List.mem_of_getElem? (i := 3) rfl)).use rfl) hce hcv hcl ?_
      refine lv_astore (lv' := [(4, .ref q9), (0, .ref (aa 0)), (1, .int x), (2, .int y), (3, .ref o)]) hx hb d_L_typeAt_12 hl (by decide) rfl (fun ls hl => ?_)
      refine lv_iconst (v := 1) hx hb d_L_typeAt_14 (by decide) ?_
      have er : (some (.int (nI (kTell (haB (kn 1) x && swB y 2)))) : Option Value) = some (.int 1) := by rw [hk]; rfl
      have hn0 : ¬ (kTell (haB (kn 1) x && swB y 2)) = 0 := by rw [hk]; decide
      have hPe : va_P (dC, dI) classes (wL aa o cI cZ cJ (if (kTell (haB (kn 1) x && swB y 2)) = 0 then kn else kn) (if (kTell (haB (kn 1) x && swB y 2)) = 0 then vv else vv) (if (kTell (haB (kn 1) x && swB y 2)) = 0 then vp_updL f 0 ((tyR kn vv nn x y)) else f)) H1 := by rw [if_neg hn0, if_neg hn0, if_neg hn0]; exact hP1
      exact W.iret (v := 1) hx hb hr (fun t ht hW => ⟨by rw [er], by rw [ht]; exact hPe, hS.F ht⟩) hS.2.2 d_L_typeAt_15
    · exact absurd hk kTell_2
  · have hP : va_P (dC, dI) classes (wL aa o cI cZ cJ kn vv f) H1 := wL_mk hP1 ((hP 22 _ rfl).kept (hkp o (hP 22 _ rfl).lt (fun h => h.elim fun i hi => ho i hi.1 hi.2.symm)))
    have hD : va_D (aO aa o) (wL aa o cI cZ cJ kn vv f) := wL_D hdD ho
    refine va_last hx hb hK hP hD hS 22 2 rfl rfl (vp_in_nI (n := 0) (by decide) (by decide)) d_L_typeAt_8 (fun H locs hP hD hS => ?_)
    have hP : va_P (dC, dI) classes (wL aa o cI cZ cJ kn vv (vp_updL f 0 ((tyR kn vv nn x y)))) H := hP
    refine lv_goto (tgt := 16) hx hb d_L_typeAt_9 (by decide) ?_
    refine lv_iconst (v := 0) hx hb d_L_typeAt_16 (by decide) ?_
    have er : (some (.int (nI (kTell (haB (kn 1) x && swB y 2)))) : Option Value) = some (.int 0) := by rw [hk0]; rfl
    have hPe : va_P (dC, dI) classes (wL aa o cI cZ cJ (if (kTell (haB (kn 1) x && swB y 2)) = 0 then kn else kn) (if (kTell (haB (kn 1) x && swB y 2)) = 0 then vv else vv) (if (kTell (haB (kn 1) x && swB y 2)) = 0 then vp_updL f 0 ((tyR kn vv nn x y)) else f)) H := by rw [if_pos hk0, if_pos hk0, if_pos hk0]; exact hP
    exact W.iret (v := 0) hx hb hr (fun t ht hW => ⟨by rw [er], by rw [ht]; exact hPe, hS.F ht⟩) hS.2.2 d_L_typeAt_17
set_option maxRecDepth 100000 in
set_option maxHeartbeats 4000000 in
theorem c_L_body (hlt : l.stackTraces = false) (hP : va_P (dC, dI) classes (wL aa o cI cZ cJ kn vv f) H) (hdD : dD noT aa 22) (ho : ∀ i, i < 22 → ¬ aa i = o) (hI : okC kn nn) (hV : okV nn vv) (x1 x2 x3 x4 : Int32) : Met l y_L_body (wBW y_L_body b_L_body 7 (some .int) [(0, 14, 17, 13)]) ({ frames := 8, cells := 1, slots := 6, locals := 139 } : Room) (rP [.ref (aa 0), .int x1, .int x2, .int x3, .int x4, .ref o] H (kL dC dI cI cZ cJ (aO aa o))) (qW (some (.int (nI (kTell (haB (kn 0) x1 && plB x2.toInt64 x3.toInt64 && !decide (x4 < 0)))))) (aO aa o) (fun H1 => va_P (dC, dI) classes (wL aa o cI cZ cJ (if (kTell (haB (kn 0) x1 && plB x2.toInt64 x3.toInt64 && !decide (x4 < 0))) = 0 then kn else kn) (if (kTell (haB (kn 0) x1 && plB x2.toInt64 x3.toInt64 && !decide (x4 < 0))) = 0 then vv else vv) (if (kTell (haB (kn 0) x1 && plB x2.toInt64 x3.toInt64 && !decide (x4 < 0))) = 0 then vp_updL f 0 (((oI (kth (bdB kn vv x1 x2 x3) x4.toNatClampNeg (nn 2)))).toInt64) else f)) H1)) 1 6 (aO aa o) := by
  refine va_MetW (cc := b_L_body) (maxL := 7) (ret := (some .int)) (hh := [(0, 14, 17, 13)]) (by decide) rfl ?_
  intro p e s m args below meth c s₁ B hml hv
  obtain ⟨rfl, rfl, hK, hT, hNc⟩ := hv
  have hx := B.exec
  have hb := B.bytes
  have hr := B.returns
  have hts0 := atoms_spec (ws := (wBW y_L_body b_L_body 7 (some .int) [(0, 14, 17, 13)])) B.pre
  have htab := vx_table (x := y_L_body) B (hts0 _ List.mem_cons_self)
  have hts : ∀ w9 ∈ BG, w9.before [.ref (aa 0), .int x1, .int x2, .int x3, .int x4, .ref o].toArray s = true := fun w9 hw9 => hts0 w9 (List.mem_cons_of_mem _ hw9)
  have hown : s.vm.findClass R_L = some m.cls := findClass_of_methodNamed B.named
  have hlocks := B.notSynchronized
  have hK : va_K (dC, dI) classes [(cI, .int), (cZ, .boolean), (cJ, .long)] s := hK
  have hS : va_S (aO aa o) s.heap s.heap [] := va_S.rf
  have hl := lv_entry ([.ref (aa 0), .int x1, .int x2, .int x3, .int x4, .ref o]) (n := 7) (Nat.le_of_ble_eq_true rfl)
  rw [lg_entry_eq]
  generalize (lg_sl ([.ref (aa 0), .int x1, .int x2, .int x3, .int x4, .ref o]) ++ List.replicate (7 - (lg_sl ([.ref (aa 0), .int x1, .int x2, .int x3, .int x4, .ref o])).length) Slot.unset).toArray = ls at hl ⊢
  have hl : lv_has ls 7 [(0, .ref (aa 0)), (1, .int x1), (2, .int x2), (3, .int x3), (4, .int x4), (5, .ref o)] := hl
  refine lv_aload hx hb d_L_body_0 (lv_at hl 5 rfl) ?_
  refine lv_iconst (v := 0) hx hb d_L_body_2 (by decide) ?_
  refine lv_aload_n hx hb d_L_body_3 rfl (lv_at hl 0 rfl) ?_
  refine lv_iload_n hx hb d_L_body_4 rfl (lv_at hl 1 rfl) ?_
  refine lv_iload_n hx hb d_L_body_5 rfl (lv_at hl 2 rfl) ?_
  refine lv_iload_n hx hb d_L_body_6 rfl (lv_at hl 3 rfl) ?_
  refine lv_iload hx hb d_L_body_7 (lv_at hl 4 rfl) ?_
  refine cT (vx_runV (As := [.int x1, .int x2, .int x3, .int x4]) (rest := [.int 0, .ref o]) ⟨hx, hb, hml, hown, hts⟩ (c_C_body hlt (wL_l hP) hdD hI hV x1 x2 x3 x4) (cwV 4 hts (wB_goodV (fun _ h => h) ml_L_69 im_C_body se_C_body ini_C co_C_body) rfl rfl rfl (by decide +kernel) ⟨Nat.le_of_ble_eq_true rfl, Nat.le_of_ble_eq_true rfl⟩) (pVL hK hT (fun q h => Or.inl h) hS (wL_l hP) (ci := 0) (q0 := 0) rfl rfl _) rfl rfl hl.1 rfl (lv_room (Nat.le_of_ble_eq_true rfl)) d_L_body_9 ⟨Nat.le_of_ble_eq_true rfl, Nat.le_of_ble_eq_true rfl⟩) hS (fun q h => Or.inl h) (fun E ce q9 H1 locs1 hE hz hkp hS hce hcv hcl => ?_) (fun hk0 H1 locs1 hP1 hS hz hkp => ?_)
  · have hP1 : va_P (dC, dI) classes (wL aa o cI cZ cJ kn vv f) H1 := hP.kept (fun k q hk => hkp q.1 (hP k q hk).lt)
    rcases hE with ⟨hk, rfl⟩ | ⟨hk, rfl⟩
    · refine vx_catch (E := eIA) (name := eIA) hown [] ⟨0, 14, 17, 13⟩ [] htab (fun z h => by cases h) (by decide) (by decide) (hts _ cl_L_13) ((hT.2.2.1 _ (List.mem_of_getElem? (i := 3) rfl)).use rfl) hce hcv hcl ?_
      refine lv_astore (lv' := [(6, .ref q9), (0, .ref (aa 0)), (1, .int x1), (2, .int x2), (3, .int x3), (4, .int x4), (5, .ref o)]) hx hb d_L_body_17 hl (by decide) rfl (fun ls hl => ?_)
      refine lv_iconst (v := 1) hx hb d_L_body_19 (by decide) ?_
      have er : (some (.int (nI (kTell (haB (kn 0) x1 && plB x2.toInt64 x3.toInt64 && !decide (x4 < 0))))) : Option Value) = some (.int 1) := by rw [hk]; rfl
      have hn0 : ¬ (kTell (haB (kn 0) x1 && plB x2.toInt64 x3.toInt64 && !decide (x4 < 0))) = 0 := by rw [hk]; decide
      have hPe : va_P (dC, dI) classes (wL aa o cI cZ cJ (if (kTell (haB (kn 0) x1 && plB x2.toInt64 x3.toInt64 && !decide (x4 < 0))) = 0 then kn else kn) (if (kTell (haB (kn 0) x1 && plB x2.toInt64 x3.toInt64 && !decide (x4 < 0))) = 0 then vv else vv) (if (kTell (haB (kn 0) x1 && plB x2.toInt64 x3.toInt64 && !decide (x4 < 0))) = 0 then vp_updL f 0 (((oI (kth (bdB kn vv x1 x2 x3) x4.toNatClampNeg (nn 2)))).toInt64) else f)) H1 := by rw [if_neg hn0, if_neg hn0, if_neg hn0]; exact hP1
      exact W.iret (v := 1) hx hb hr (fun t ht hW => ⟨by rw [er], by rw [ht]; exact hPe, hS.F ht⟩) hS.2.2 d_L_body_20
    · exact absurd hk kTell_2
  · have hP : va_P (dC, dI) classes (wL aa o cI cZ cJ kn vv f) H1 := wL_mk hP1 ((hP 22 _ rfl).kept (hkp o (hP 22 _ rfl).lt (fun h => h.elim fun i hi => ho i hi.1 hi.2.symm)))
    have hD : va_D (aO aa o) (wL aa o cI cZ cJ kn vv f) := wL_D hdD ho
    refine lv_i2l (v := ((oI (kth (bdB kn vv x1 x2 x3) x4.toNatClampNeg (nn 2)))).toInt64) hx hb d_L_body_12 rfl ?_
    refine va_last hx hb hK hP hD hS 22 2 rfl rfl (vp_in_nI (n := 0) (by decide) (by decide)) d_L_body_13 (fun H locs hP hD hS => ?_)
    have hP : va_P (dC, dI) classes (wL aa o cI cZ cJ kn vv (vp_updL f 0 (((oI (kth (bdB kn vv x1 x2 x3) x4.toNatClampNeg (nn 2)))).toInt64))) H := hP
    refine lv_goto (tgt := 21) hx hb d_L_body_14 (by decide) ?_
    refine lv_iconst (v := 0) hx hb d_L_body_21 (by decide) ?_
    have er : (some (.int (nI (kTell (haB (kn 0) x1 && plB x2.toInt64 x3.toInt64 && !decide (x4 < 0))))) : Option Value) = some (.int 0) := by rw [hk0]; rfl
    have hPe : va_P (dC, dI) classes (wL aa o cI cZ cJ (if (kTell (haB (kn 0) x1 && plB x2.toInt64 x3.toInt64 && !decide (x4 < 0))) = 0 then kn else kn) (if (kTell (haB (kn 0) x1 && plB x2.toInt64 x3.toInt64 && !decide (x4 < 0))) = 0 then vv else vv) (if (kTell (haB (kn 0) x1 && plB x2.toInt64 x3.toInt64 && !decide (x4 < 0))) = 0 then vp_updL f 0 (((oI (kth (bdB kn vv x1 x2 x3) x4.toNatClampNeg (nn 2)))).toInt64) else f)) H := by rw [if_pos hk0, if_pos hk0, if_pos hk0]; exact hP
    exact W.iret (v := 0) hx hb hr (fun t ht hW => ⟨by rw [er], by rw [ht]; exact hPe, hS.F ht⟩) hS.2.2 d_L_body_22
end
