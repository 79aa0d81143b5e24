section
variable {l : Launch} {dC : Nat → ClassId} {dI : Nat → Nat → Nat} {H : Heap} {aa : Nat → Nat} {cI cZ cJ : ClassId} {kn : Nat → Int32} {vv : Nat → Nat → Int32} {nn : Nat → Nat} {AX : Nat → Prop}
set_option maxRecDepth 100000 in
set_option maxHeartbeats 4000000 in
theorem c_W_shift (hP : va_P (dC, dI) classes (wC aa cI cZ kn vv) H) (hdD : dD noT aa 22) {w : Nat} (hw : w < 40) (x y : Int32) : Met l y_W_shift (wB y_W_shift b_W_shift 4 none) ({ frames := 0, cells := 0, slots := 0, locals := 0 } : Room) (rP [.ref (aa 3), .int (nI w), .int x, .int y] H (kK dC dI cI cZ cJ)) (qW none (aN aa 22) (fun H1 => va_P (dC, dI) classes (wC aa cI cZ kn (shV vv w x y)) H1)) 0 0 (aN aa 22) := by
  refine Met.ofW (cc := b_W_shift) (maxL := 4) (ret := none) (by decide) rfl ?_
  intro p e s m args below meth c s₁ B hml hv
  obtain ⟨rfl, rfl, hK⟩ := hv
  have hx := B.exec
  have hb := B.bytes
  have hr := B.returns
  have hts0 := atoms_spec (ws := (wB y_W_shift b_W_shift 4 none)) B.pre
  have hts : ∀ w9 ∈ BG, w9.before [.ref (aa 3), .int (nI w), .int x, .int y].toArray s = true := fun w9 hw9 => hts0 w9 (List.mem_cons_of_mem _ hw9)
  have hown : s.vm.findClass R_W = some m.cls := findClass_of_methodNamed B.named
  have hlocks := B.notSynchronized
  have hK : va_K (dC, dI) classes [(cI, .int), (cZ, .boolean), (cJ, .long)] s := hK
  have hD : va_D (aN aa 22) (wC aa cI cZ kn vv) := wC_D (dD_aN hdD)
  have hS : va_S (aN aa 22) s.heap s.heap [] := va_S.rf
  have hl := lv_entry ([.ref (aa 3), .int (nI w), .int x, .int y]) (n := 4) (Nat.le_of_ble_eq_true rfl)
  rw [lg_entry_eq]
  generalize (lg_sl ([.ref (aa 3), .int (nI w), .int x, .int y]) ++ List.replicate (4 - (lg_sl ([.ref (aa 3), .int (nI w), .int x, .int y])).length) Slot.unset).toArray = ls at hl ⊢
  have hl : lv_has ls 4 [(0, .ref (aa 3)), (1, .int (nI w)), (2, .int x), (3, .int y)] := hl
  refine lv_aload_n hx hb d_W_shift_0 rfl (lv_at hl 0 rfl) ?_
  refine va_get (D := (dC, dI)) (ci := 5) (v := .ref (aa 10)) (C := R_W) (T := F_W) (N := 8) hx hb hts i_W hown hK hP 3 rfl rfl 2 (by decide) (hts _ fl_W_18) (fun _ h9 => h9) rfl d_W_shift_1 ?_
  refine lv_iload_n hx hb d_W_shift_4 rfl (lv_at hl 1 rfl) ?_
  refine lv_dup2_11 hx hb d_W_shift_5 rfl rfl ?_
  refine va_iald hx hb hK hP 10 0 rfl rfl (vp_in_nI (by omega) (by omega)) d_W_shift_6 ?_
  rw [nI_clamp (show w < 2 ^ 31 by omega)]
  refine lv_iload_n hx hb d_W_shift_7 rfl (lv_at hl 2 rfl) ?_
  refine lv_iadd hx hb d_W_shift_8 ?_
  refine va_iast hx hb hK hP hD hS 10 0 rfl rfl (vp_in_nI (by omega) (by omega)) d_W_shift_9 (fun H locs hP hD hS => ?_)
  rw [nI_clamp (show w < 2 ^ 31 by omega)] at hP hD
  have hP : va_P (dC, dI) classes (wC aa cI cZ kn (va_up vv 4 (upd (vv 4) w (((vv 4) w) + x)))) H := hP
  have hD : va_D (aN aa 22) (wC aa cI cZ kn (va_up vv 4 (upd (vv 4) w (((vv 4) w) + x)))) := hD
  refine lv_aload_n hx hb d_W_shift_10 rfl (lv_at hl 0 rfl) ?_
  refine va_get (D := (dC, dI)) (ci := 5) (v := .ref (aa 11)) (C := R_W) (T := F_W) (N := 8) hx hb hts i_W hown hK hP 3 rfl rfl 3 (by decide) (hts _ fl_W_21) (fun _ h9 => h9) rfl d_W_shift_11 ?_
  refine lv_iload_n hx hb d_W_shift_14 rfl (lv_at hl 1 rfl) ?_
  refine lv_dup2_11 hx hb d_W_shift_15 rfl rfl ?_
  refine va_iald hx hb hK hP 11 0 rfl rfl (vp_in_nI (by omega) (by omega)) d_W_shift_16 ?_
  rw [nI_clamp (show w < 2 ^ 31 by omega)]
  refine lv_iload_n hx hb d_W_shift_17 rfl (lv_at hl 3 rfl) ?_
  refine lv_iadd hx hb d_W_shift_18 ?_
  refine va_iast hx hb hK hP hD hS 11 0 rfl rfl (vp_in_nI (by omega) (by omega)) d_W_shift_19 (fun H locs hP hD hS => ?_)
  rw [nI_clamp (show w < 2 ^ 31 by omega)] at hP hD
  have hP : va_P (dC, dI) classes (wC aa cI cZ kn (va_up (va_up vv 4 (upd (vv 4) w (((vv 4) w) + x))) 5 (upd (vv 5) w (((vv 5) w) + y)))) H := hP
  have hD : va_D (aN aa 22) (wC aa cI cZ kn (va_up (va_up vv 4 (upd (vv 4) w (((vv 4) w) + x))) 5 (upd (vv 5) w (((vv 5) w) + y)))) := hD
  refine lv_aload_n hx hb d_W_shift_20 rfl (lv_at hl 0 rfl) ?_
  refine va_get (D := (dC, dI)) (ci := 5) (v := .ref (aa 12)) (C := R_W) (T := F_W) (N := 8) hx hb hts i_W hown hK hP 3 rfl rfl 4 (by decide) (hts _ fl_W_24) (fun _ h9 => h9) rfl d_W_shift_21 ?_
  refine lv_iload_n hx hb d_W_shift_24 rfl (lv_at hl 1 rfl) ?_
  refine lv_dup2_11 hx hb d_W_shift_25 rfl rfl ?_
  refine va_iald hx hb hK hP 12 0 rfl rfl (vp_in_nI (by omega) (by omega)) d_W_shift_26 ?_
  rw [nI_clamp (show w < 2 ^ 31 by omega)]
  refine lv_iload_n hx hb d_W_shift_27 rfl (lv_at hl 2 rfl) ?_
  refine lv_iadd hx hb d_W_shift_28 ?_
  refine va_iast hx hb hK hP hD hS 12 0 rfl rfl (vp_in_nI (by omega) (by omega)) d_W_shift_29 (fun H locs hP hD hS => ?_)
  rw [nI_clamp (show w < 2 ^ 31 by omega)] at hP hD
  have hP : va_P (dC, dI) classes (wC aa cI cZ kn (va_up (va_up (va_up vv 4 (upd (vv 4) w (((vv 4) w) + x))) 5 (upd (vv 5) w (((vv 5) w) + y))) 6 (upd (vv 6) w (((vv 6) w) + x)))) H := hP
  have hD : va_D (aN aa 22) (wC aa cI cZ kn (va_up (va_up (va_up vv 4 (upd (vv 4) w (((vv 4) w) + x))) 5 (upd (vv 5) w (((vv 5) w) + y))) 6 (upd (vv 6) w (((vv 6) w) + x)))) := hD
  refine lv_aload_n hx hb d_W_shift_30 rfl (lv_at hl 0 rfl) ?_
  refine va_get (D := (dC, dI)) (ci := 5) (v := .ref (aa 13)) (C := R_W) (T := F_W) (N := 8) hx hb hts i_W hown hK hP 3 rfl rfl 5 (by decide) (hts _ fl_W_27) (fun _ h9 => h9) rfl d_W_shift_31 ?_
  refine lv_iload_n hx hb d_W_shift_34 rfl (lv_at hl 1 rfl) ?_
  refine lv_dup2_11 hx hb d_W_shift_35 rfl rfl ?_
  refine va_iald hx hb hK hP 13 0 rfl rfl (vp_in_nI (by omega) (by omega)) d_W_shift_36 ?_
  rw [nI_clamp (show w < 2 ^ 31 by omega)]
  refine lv_iload_n hx hb d_W_shift_37 rfl (lv_at hl 3 rfl) ?_
  refine lv_iadd hx hb d_W_shift_38 ?_
  refine va_iast hx hb hK hP hD hS 13 0 rfl rfl (vp_in_nI (by omega) (by omega)) d_W_shift_39 (fun H locs hP hD hS => ?_)
  rw [nI_clamp (show w < 2 ^ 31 by omega)] at hP hD
  have hP : va_P (dC, dI) classes (wC aa cI cZ kn (va_up (va_up (va_up (va_up vv 4 (upd (vv 4) w (((vv 4) w) + x))) 5 (upd (vv 5) w (((vv 5) w) + y))) 6 (upd (vv 6) w (((vv 6) w) + x))) 7 (upd (vv 7) w (((vv 7) w) + y)))) H := hP
  have hD : va_D (aN aa 22) (wC aa cI cZ kn (va_up (va_up (va_up (va_up vv 4 (upd (vv 4) w (((vv 4) w) + x))) 5 (upd (vv 5) w (((vv 5) w) + y))) 6 (upd (vv 6) w (((vv 6) w) + x))) 7 (upd (vv 7) w (((vv 7) w) + y)))) := hD
  have er : (none : Option Value) = none := by rfl
  have hPe : va_P (dC, dI) classes (wC aa cI cZ kn (shV vv w x y)) H := by exact hP
  exact W.vret hx hb hr (fun t ht hW => ⟨by rw [er], by rw [ht]; exact hPe, hS.F ht⟩) hS.2.2 d_W_shift_40
set_option maxRecDepth 100000 in
set_option maxHeartbeats 4000000 in
theorem c_W_writeNext (hP : va_P (dC, dI) classes (wC aa cI cZ kn vv) H) (hdD : dD noT aa 22) {r : Nat} (e2 : kn 2 = nI r) (hr2 : r < 40) (x1 x2 x3 x4 x5 x6 : Int32) : Met l y_W_writeNext (wB y_W_writeNext b_W_writeNext 7 none) ({ frames := 0, cells := 0, slots := 0, locals := 0 } : Room) (rP [.ref (aa 3), .int x1, .int x2, .int x3, .int x4, .int x5, .int x6] H (kK dC dI cI cZ cJ)) (qW none (aN aa 22) (fun H1 => va_P (dC, dI) classes (wC aa cI cZ kn (nwV vv r x1 x2 x3 x4 x5 x6)) H1)) 0 0 (aN aa 22) := by
  refine Met.ofW (cc := b_W_writeNext) (maxL := 7) (ret := none) (by decide) rfl ?_
  intro p e s m args below meth c s₁ B hml hv
  obtain ⟨rfl, rfl, hK⟩ := hv
  have hx := B.exec
  have hb := B.bytes
  have hr := B.returns
  have hts0 := atoms_spec (ws := (wB y_W_writeNext b_W_writeNext 7 none)) B.pre
  have hts : ∀ w9 ∈ BG, w9.before [.ref (aa 3), .int x1, .int x2, .int x3, .int x4, .int x5, .int x6].toArray s = true := fun w9 hw9 => hts0 w9 (List.mem_cons_of_mem _ hw9)
  have hown : s.vm.findClass R_W = some m.cls := findClass_of_methodNamed B.named
  have hlocks := B.notSynchronized
  have hK : va_K (dC, dI) classes [(cI, .int), (cZ, .boolean), (cJ, .long)] s := hK
  have hD : va_D (aN aa 22) (wC aa cI cZ kn vv) := wC_D (dD_aN hdD)
  have hS : va_S (aN aa 22) s.heap s.heap [] := va_S.rf
  have hl := lv_entry ([.ref (aa 3), .int x1, .int x2, .int x3, .int x4, .int x5, .int x6]) (n := 7) (Nat.le_of_ble_eq_true rfl)
  rw [lg_entry_eq]
  generalize (lg_sl ([.ref (aa 3), .int x1, .int x2, .int x3, .int x4, .int x5, .int x6]) ++ List.replicate (7 - (lg_sl ([.ref (aa 3), .int x1, .int x2, .int x3, .int x4, .int x5, .int x6])).length) Slot.unset).toArray = ls at hl ⊢
  have hl : lv_has ls 7 [(0, .ref (aa 3)), (1, .int x1), (2, .int x2), (3, .int x3), (4, .int x4), (5, .int x5), (6, .int x6)] := hl
  refine lv_aload_n hx hb d_W_writeNext_0 rfl (lv_at hl 0 rfl) ?_
  refine va_get (D := (dC, dI)) (ci := 5) (v := .ref (aa 8)) (C := R_W) (T := F_W) (N := 8) hx hb hts i_W hown hK hP 3 rfl rfl 0 (by decide) (hts _ fl_W_9) (fun _ h9 => h9) rfl d_W_writeNext_1 ?_
  refine lv_aload_n hx hb d_W_writeNext_4 rfl (lv_at hl 0 rfl) ?_
  refine va_get (D := (dC, dI)) (ci := 5) (v := .int (nI r)) (C := R_W) (T := F_W) (N := 8) hx hb hts i_W hown hK hP 3 rfl rfl 7 (by decide) (hts _ fl_W_34) (fun _ h9 => h9) (by rw [← e2]; rfl) d_W_writeNext_5 ?_
  refine lv_iload_n hx hb d_W_writeNext_8 rfl (lv_at hl 1 rfl) ?_
  refine va_iast hx hb hK hP hD hS 8 0 rfl rfl (vp_in_nI (by omega) (by omega)) d_W_writeNext_9 (fun H locs hP hD hS => ?_)
  rw [nI_clamp (show r < 2 ^ 31 by omega)] at hP hD
  have hP : va_P (dC, dI) classes (wC aa cI cZ kn (va_up vv 2 (upd (vv 2) r x1))) H := hP
  have hD : va_D (aN aa 22) (wC aa cI cZ kn (va_up vv 2 (upd (vv 2) r x1))) := hD
  refine lv_aload_n hx hb d_W_writeNext_10 rfl (lv_at hl 0 rfl) ?_
  refine va_get (D := (dC, dI)) (ci := 5) (v := .ref (aa 9)) (C := R_W) (T := F_W) (N := 8) hx hb hts i_W hown hK hP 3 rfl rfl 1 (by decide) (hts _ fl_W_15) (fun _ h9 => h9) rfl d_W_writeNext_11 ?_
  refine lv_aload_n hx hb d_W_writeNext_14 rfl (lv_at hl 0 rfl) ?_
  refine va_get (D := (dC, dI)) (ci := 5) (v := .int (nI r)) (C := R_W) (T := F_W) (N := 8) hx hb hts i_W hown hK hP 3 rfl rfl 7 (by decide) (hts _ fl_W_34) (fun _ h9 => h9) (by rw [← e2]; rfl) d_W_writeNext_15 ?_
  refine lv_iload_n hx hb d_W_writeNext_18 rfl (lv_at hl 2 rfl) ?_
  refine va_iast hx hb hK hP hD hS 9 0 rfl rfl (vp_in_nI (by omega) (by omega)) d_W_writeNext_19 (fun H locs hP hD hS => ?_)
  rw [nI_clamp (show r < 2 ^ 31 by omega)] at hP hD
  have hP : va_P (dC, dI) classes (wC aa cI cZ kn (va_up (va_up vv 2 (upd (vv 2) r x1)) 3 (upd (vv 3) r x2))) H := hP
  have hD : va_D (aN aa 22) (wC aa cI cZ kn (va_up (va_up vv 2 (upd (vv 2) r x1)) 3 (upd (vv 3) r x2))) := hD
  refine lv_aload_n hx hb d_W_writeNext_20 rfl (lv_at hl 0 rfl) ?_
  refine va_get (D := (dC, dI)) (ci := 5) (v := .ref (aa 10)) (C := R_W) (T := F_W) (N := 8) hx hb hts i_W hown hK hP 3 rfl rfl 2 (by decide) (hts _ fl_W_18) (fun _ h9 => h9) rfl d_W_writeNext_21 ?_
  refine lv_aload_n hx hb d_W_writeNext_24 rfl (lv_at hl 0 rfl) ?_
  refine va_get (D := (dC, dI)) (ci := 5) (v := .int (nI r)) (C := R_W) (T := F_W) (N := 8) hx hb hts i_W hown hK hP 3 rfl rfl 7 (by decide) (hts _ fl_W_34) (fun _ h9 => h9) (by rw [← e2]; rfl) d_W_writeNext_25 ?_
  refine lv_iload_n hx hb d_W_writeNext_28 rfl (lv_at hl 3 rfl) ?_
  refine va_iast hx hb hK hP hD hS 10 0 rfl rfl (vp_in_nI (by omega) (by omega)) d_W_writeNext_29 (fun H locs hP hD hS => ?_)
  rw [nI_clamp (show r < 2 ^ 31 by omega)] at hP hD
  have hP : va_P (dC, dI) classes (wC aa cI cZ kn (va_up (va_up (va_up vv 2 (upd (vv 2) r x1)) 3 (upd (vv 3) r x2)) 4 (upd (vv 4) r x3))) H := hP
  have hD : va_D (aN aa 22) (wC aa cI cZ kn (va_up (va_up (va_up vv 2 (upd (vv 2) r x1)) 3 (upd (vv 3) r x2)) 4 (upd (vv 4) r x3))) := hD
  refine lv_aload_n hx hb d_W_writeNext_30 rfl (lv_at hl 0 rfl) ?_
  refine va_get (D := (dC, dI)) (ci := 5) (v := .ref (aa 11)) (C := R_W) (T := F_W) (N := 8) hx hb hts i_W hown hK hP 3 rfl rfl 3 (by decide) (hts _ fl_W_21) (fun _ h9 => h9) rfl d_W_writeNext_31 ?_
  refine lv_aload_n hx hb d_W_writeNext_34 rfl (lv_at hl 0 rfl) ?_
  refine va_get (D := (dC, dI)) (ci := 5) (v := .int (nI r)) (C := R_W) (T := F_W) (N := 8) hx hb hts i_W hown hK hP 3 rfl rfl 7 (by decide) (hts _ fl_W_34) (fun _ h9 => h9) (by rw [← e2]; rfl) d_W_writeNext_35 ?_
  refine lv_iload hx hb d_W_writeNext_38 (lv_at hl 4 rfl) ?_
  refine va_iast hx hb hK hP hD hS 11 0 rfl rfl (vp_in_nI (by omega) (by omega)) d_W_writeNext_40 (fun H locs hP hD hS => ?_)
  rw [nI_clamp (show r < 2 ^ 31 by omega)] at hP hD
  have hP : va_P (dC, dI) classes (wC aa cI cZ kn (va_up (va_up (va_up (va_up vv 2 (upd (vv 2) r x1)) 3 (upd (vv 3) r x2)) 4 (upd (vv 4) r x3)) 5 (upd (vv 5) r x4))) H := hP
  have hD : va_D (aN aa 22) (wC aa cI cZ kn (va_up (va_up (va_up (va_up vv 2 (upd (vv 2) r x1)) 3 (upd (vv 3) r x2)) 4 (upd (vv 4) r x3)) 5 (upd (vv 5) r x4))) := hD
  refine lv_aload_n hx hb d_W_writeNext_41 rfl (lv_at hl 0 rfl) ?_
  refine va_get (D := (dC, dI)) (ci := 5) (v := .ref (aa 12)) (C := R_W) (T := F_W) (N := 8) hx hb hts i_W hown hK hP 3 rfl rfl 4 (by decide) (hts _ fl_W_24) (fun _ h9 => h9) rfl d_W_writeNext_42 ?_
  refine lv_aload_n hx hb d_W_writeNext_45 rfl (lv_at hl 0 rfl) ?_
  refine va_get (D := (dC, dI)) (ci := 5) (v := .int (nI r)) (C := R_W) (T := F_W) (N := 8) hx hb hts i_W hown hK hP 3 rfl rfl 7 (by decide) (hts _ fl_W_34) (fun _ h9 => h9) (by rw [← e2]; rfl) d_W_writeNext_46 ?_
  refine lv_iload hx hb d_W_writeNext_49 (lv_at hl 5 rfl) ?_
  refine va_iast hx hb hK hP hD hS 12 0 rfl rfl (vp_in_nI (by omega) (by omega)) d_W_writeNext_51 (fun H locs hP hD hS => ?_)
  rw [nI_clamp (show r < 2 ^ 31 by omega)] at hP hD
  have hP : va_P (dC, dI) classes (wC aa cI cZ kn (va_up (va_up (va_up (va_up (va_up vv 2 (upd (vv 2) r x1)) 3 (upd (vv 3) r x2)) 4 (upd (vv 4) r x3)) 5 (upd (vv 5) r x4)) 6 (upd (vv 6) r x5))) H := hP
  have hD : va_D (aN aa 22) (wC aa cI cZ kn (va_up (va_up (va_up (va_up (va_up vv 2 (upd (vv 2) r x1)) 3 (upd (vv 3) r x2)) 4 (upd (vv 4) r x3)) 5 (upd (vv 5) r x4)) 6 (upd (vv 6) r x5))) := hD
  refine lv_aload_n hx hb d_W_writeNext_52 rfl (lv_at hl 0 rfl) ?_
  refine va_get (D := (dC, dI)) (ci := 5) (v := .ref (aa 13)) (C := R_W) (T := F_W) (N := 8) hx hb hts i_W hown hK hP 3 rfl rfl 5 (by decide) (hts _ fl_W_27) (fun _ h9 => h9) rfl d_W_writeNext_53 ?_
  refine lv_aload_n hx hb d_W_writeNext_56 rfl (lv_at hl 0 rfl) ?_
  refine va_get (D := (dC, dI)) (ci := 5) (v := .int (nI r)) (C := R_W) (T := F_W) (N := 8) hx hb hts i_W hown hK hP 3 rfl rfl 7 (by decide) (hts _ fl_W_34) (fun _ h9 => h9) (by rw [← e2]; rfl) d_W_writeNext_57 ?_
  refine lv_iload hx hb d_W_writeNext_60 (lv_at hl 6 rfl) ?_
  refine va_iast hx hb hK hP hD hS 13 0 rfl rfl (vp_in_nI (by omega) (by omega)) d_W_writeNext_62 (fun H locs hP hD hS => ?_)
  rw [nI_clamp (show r < 2 ^ 31 by omega)] at hP hD
  have hP : va_P (dC, dI) classes (wC aa cI cZ kn (va_up (va_up (va_up (va_up (va_up (va_up vv 2 (upd (vv 2) r x1)) 3 (upd (vv 3) r x2)) 4 (upd (vv 4) r x3)) 5 (upd (vv 5) r x4)) 6 (upd (vv 6) r x5)) 7 (upd (vv 7) r x6))) H := hP
  have hD : va_D (aN aa 22) (wC aa cI cZ kn (va_up (va_up (va_up (va_up (va_up (va_up vv 2 (upd (vv 2) r x1)) 3 (upd (vv 3) r x2)) 4 (upd (vv 4) r x3)) 5 (upd (vv 5) r x4)) 6 (upd (vv 6) r x5)) 7 (upd (vv 7) r x6))) := hD
  refine lv_aload_n hx hb d_W_writeNext_63 rfl (lv_at hl 0 rfl) ?_
  refine va_get (D := (dC, dI)) (ci := 5) (v := .ref (aa 14)) (C := R_W) (T := F_W) (N := 8) hx hb hts i_W hown hK hP 3 rfl rfl 6 (by decide) (hts _ fl_W_30) (fun _ h9 => h9) rfl d_W_writeNext_64 ?_
  refine lv_aload_n hx hb d_W_writeNext_67 rfl (lv_at hl 0 rfl) ?_
  refine va_get (D := (dC, dI)) (ci := 5) (v := .int (nI r)) (C := R_W) (T := F_W) (N := 8) hx hb hts i_W hown hK hP 3 rfl rfl 7 (by decide) (hts _ fl_W_34) (fun _ h9 => h9) (by rw [← e2]; rfl) d_W_writeNext_68 ?_
  refine lv_iconst (v := 0) hx hb d_W_writeNext_71 (by decide) ?_
  refine va_zast hx hb hK hP hD hS 14 1 rfl rfl (vp_in_nI (by omega) (by omega)) d_W_writeNext_72 (fun H locs hP hD hS => ?_)
  rw [show vp_nar .boolean 0 = 0 from rfl] at hP hD
  rw [nI_clamp (show r < 2 ^ 31 by omega)] at hP hD
  have hP : va_P (dC, dI) classes (wC aa cI cZ kn (va_up (va_up (va_up (va_up (va_up (va_up (va_up vv 2 (upd (vv 2) r x1)) 3 (upd (vv 3) r x2)) 4 (upd (vv 4) r x3)) 5 (upd (vv 5) r x4)) 6 (upd (vv 6) r x5)) 7 (upd (vv 7) r x6)) 8 (upd (vv 8) r 0))) H := hP
  have hD : va_D (aN aa 22) (wC aa cI cZ kn (va_up (va_up (va_up (va_up (va_up (va_up (va_up vv 2 (upd (vv 2) r x1)) 3 (upd (vv 3) r x2)) 4 (upd (vv 4) r x3)) 5 (upd (vv 5) r x4)) 6 (upd (vv 6) r x5)) 7 (upd (vv 7) r x6)) 8 (upd (vv 8) r 0))) := hD
  have er : (none : Option Value) = none := by rfl
  have hPe : va_P (dC, dI) classes (wC aa cI cZ kn (nwV vv r x1 x2 x3 x4 x5 x6)) H := by exact hP
  exact W.vret hx hb hr (fun t ht hW => ⟨by rw [er], by rw [ht]; exact hPe, hS.F ht⟩) hS.2.2 d_W_writeNext_73
set_option maxRecDepth 100000 in
set_option maxHeartbeats 4000000 in
theorem c_W_writeCopy (hP : va_P (dC, dI) classes (wC aa cI cZ kn vv) H) (hdD : dD noT aa 22) {w r : Nat} (hw : w < 40) (hr2 : r < 40) (x : Int32) : Met l y_W_writeCopy (wB y_W_writeCopy b_W_writeCopy 4 none) ({ frames := 0, cells := 0, slots := 0, locals := 0 } : Room) (rP [.ref (aa 3), .int (nI w), .int (nI r), .int x] H (kK dC dI cI cZ cJ)) (qW none (aN aa 22) (fun H1 => va_P (dC, dI) classes (wC aa cI cZ kn (nwV vv r x (vv 3 w) (vv 4 w) (vv 5 w) (vv 6 w) (vv 7 w))) H1)) 0 0 (aN aa 22) := by
  refine Met.ofW (cc := b_W_writeCopy) (maxL := 4) (ret := none) (by decide) rfl ?_
  intro p e s m args below meth c s₁ B hml hv
  obtain ⟨rfl, rfl, hK⟩ := hv
  have hx := B.exec
  have hb := B.bytes
  have hr := B.returns
  have hts0 := atoms_spec (ws := (wB y_W_writeCopy b_W_writeCopy 4 none)) B.pre
  have hts : ∀ w9 ∈ BG, w9.before [.ref (aa 3), .int (nI w), .int (nI r), .int x].toArray s = true := fun w9 hw9 => hts0 w9 (List.mem_cons_of_mem _ hw9)
  have hown : s.vm.findClass R_W = some m.cls := findClass_of_methodNamed B.named
  have hlocks := B.notSynchronized
  have hK : va_K (dC, dI) classes [(cI, .int), (cZ, .boolean), (cJ, .long)] s := hK
  have hD : va_D (aN aa 22) (wC aa cI cZ kn vv) := wC_D (dD_aN hdD)
  have hS : va_S (aN aa 22) s.heap s.heap [] := va_S.rf
  have hl := lv_entry ([.ref (aa 3), .int (nI w), .int (nI r), .int x]) (n := 4) (Nat.le_of_ble_eq_true rfl)
  rw [lg_entry_eq]
  generalize (lg_sl ([.ref (aa 3), .int (nI w), .int (nI r), .int x]) ++ List.replicate (4 - (lg_sl ([.ref (aa 3), .int (nI w), .int (nI r), .int x])).length) Slot.unset).toArray = ls at hl ⊢
  have hl : lv_has ls 4 [(0, .ref (aa 3)), (1, .int (nI w)), (2, .int (nI r)), (3, .int x)] := hl
  refine lv_aload_n hx hb d_W_writeCopy_0 rfl (lv_at hl 0 rfl) ?_
  refine va_get (D := (dC, dI)) (ci := 5) (v := .ref (aa 8)) (C := R_W) (T := F_W) (N := 8) hx hb hts i_W hown hK hP 3 rfl rfl 0 (by decide) (hts _ fl_W_9) (fun _ h9 => h9) rfl d_W_writeCopy_1 ?_
  refine lv_iload_n hx hb d_W_writeCopy_4 rfl (lv_at hl 2 rfl) ?_
  refine lv_iload_n hx hb d_W_writeCopy_5 rfl (lv_at hl 3 rfl) ?_
  refine va_iast hx hb hK hP hD hS 8 0 rfl rfl (vp_in_nI (by omega) (by omega)) d_W_writeCopy_6 (fun H locs hP hD hS => ?_)
  rw [nI_clamp (show r < 2 ^ 31 by omega)] at hP hD
  have hP : va_P (dC, dI) classes (wC aa cI cZ kn (va_up vv 2 (upd (vv 2) r x))) H := hP
  have hD : va_D (aN aa 22) (wC aa cI cZ kn (va_up vv 2 (upd (vv 2) r x))) := hD
  refine lv_aload_n hx hb d_W_writeCopy_7 rfl (lv_at hl 0 rfl) ?_
  refine va_get (D := (dC, dI)) (ci := 5) (v := .ref (aa 9)) (C := R_W) (T := F_W) (N := 8) hx hb hts i_W hown hK hP 3 rfl rfl 1 (by decide) (hts _ fl_W_15) (fun _ h9 => h9) rfl d_W_writeCopy_8 ?_
  refine lv_iload_n hx hb d_W_writeCopy_11 rfl (lv_at hl 2 rfl) ?_
  refine lv_aload_n hx hb d_W_writeCopy_12 rfl (lv_at hl 0 rfl) ?_
  refine va_get (D := (dC, dI)) (ci := 5) (v := .ref (aa 9)) (C := R_W) (T := F_W) (N := 8) hx hb hts i_W hown hK hP 3 rfl rfl 1 (by decide) (hts _ fl_W_15) (fun _ h9 => h9) rfl d_W_writeCopy_13 ?_
  refine lv_iload_n hx hb d_W_writeCopy_16 rfl (lv_at hl 1 rfl) ?_
  refine va_iald hx hb hK hP 9 0 rfl rfl (vp_in_nI (by omega) (by omega)) d_W_writeCopy_17 ?_
  rw [nI_clamp (show w < 2 ^ 31 by omega)]
  refine va_iast hx hb hK hP hD hS 9 0 rfl rfl (vp_in_nI (by omega) (by omega)) d_W_writeCopy_18 (fun H locs hP hD hS => ?_)
  rw [nI_clamp (show r < 2 ^ 31 by omega)] at hP hD
  have hP : va_P (dC, dI) classes (wC aa cI cZ kn (va_up (va_up vv 2 (upd (vv 2) r x)) 3 (upd (vv 3) r ((vv 3) w)))) H := hP
  have hD : va_D (aN aa 22) (wC aa cI cZ kn (va_up (va_up vv 2 (upd (vv 2) r x)) 3 (upd (vv 3) r ((vv 3) w)))) := hD
  refine lv_aload_n hx hb d_W_writeCopy_19 rfl (lv_at hl 0 rfl) ?_
  refine va_get (D := (dC, dI)) (ci := 5) (v := .ref (aa 10)) (C := R_W) (T := F_W) (N := 8) hx hb hts i_W hown hK hP 3 rfl rfl 2 (by decide) (hts _ fl_W_18) (fun _ h9 => h9) rfl d_W_writeCopy_20 ?_
  refine lv_iload_n hx hb d_W_writeCopy_23 rfl (lv_at hl 2 rfl) ?_
  refine lv_aload_n hx hb d_W_writeCopy_24 rfl (lv_at hl 0 rfl) ?_
  refine va_get (D := (dC, dI)) (ci := 5) (v := .ref (aa 10)) (C := R_W) (T := F_W) (N := 8) hx hb hts i_W hown hK hP 3 rfl rfl 2 (by decide) (hts _ fl_W_18) (fun _ h9 => h9) rfl d_W_writeCopy_25 ?_
  refine lv_iload_n hx hb d_W_writeCopy_28 rfl (lv_at hl 1 rfl) ?_
  refine va_iald hx hb hK hP 10 0 rfl rfl (vp_in_nI (by omega) (by omega)) d_W_writeCopy_29 ?_
  rw [nI_clamp (show w < 2 ^ 31 by omega)]
  refine va_iast hx hb hK hP hD hS 10 0 rfl rfl (vp_in_nI (by omega) (by omega)) d_W_writeCopy_30 (fun H locs hP hD hS => ?_)
  rw [nI_clamp (show r < 2 ^ 31 by omega)] at hP hD
  have hP : va_P (dC, dI) classes (wC aa cI cZ kn (va_up (va_up (va_up vv 2 (upd (vv 2) r x)) 3 (upd (vv 3) r ((vv 3) w))) 4 (upd (vv 4) r ((vv 4) w)))) H := hP
  have hD : va_D (aN aa 22) (wC aa cI cZ kn (va_up (va_up (va_up vv 2 (upd (vv 2) r x)) 3 (upd (vv 3) r ((vv 3) w))) 4 (upd (vv 4) r ((vv 4) w)))) := hD
  refine lv_aload_n hx hb d_W_writeCopy_31 rfl (lv_at hl 0 rfl) ?_
  refine va_get (D := (dC, dI)) (ci := 5) (v := .ref (aa 11)) (C := R_W) (T := F_W) (N := 8) hx hb hts i_W hown hK hP 3 rfl rfl 3 (by decide) (hts _ fl_W_21) (fun _ h9 => h9) rfl d_W_writeCopy_32 ?_
  refine lv_iload_n hx hb d_W_writeCopy_35 rfl (lv_at hl 2 rfl) ?_
  refine lv_aload_n hx hb d_W_writeCopy_36 rfl (lv_at hl 0 rfl) ?_
  refine va_get (D := (dC, dI)) (ci := 5) (v := .ref (aa 11)) (C := R_W) (T := F_W) (N := 8) hx hb hts i_W hown hK hP 3 rfl rfl 3 (by decide) (hts _ fl_W_21) (fun _ h9 => h9) rfl d_W_writeCopy_37 ?_
  refine lv_iload_n hx hb d_W_writeCopy_40 rfl (lv_at hl 1 rfl) ?_
  refine va_iald hx hb hK hP 11 0 rfl rfl (vp_in_nI (by omega) (by omega)) d_W_writeCopy_41 ?_
  rw [nI_clamp (show w < 2 ^ 31 by omega)]
  refine va_iast hx hb hK hP hD hS 11 0 rfl rfl (vp_in_nI (by omega) (by omega)) d_W_writeCopy_42 (fun H locs hP hD hS => ?_)
  rw [nI_clamp (show r < 2 ^ 31 by omega)] at hP hD
  have hP : va_P (dC, dI) classes (wC aa cI cZ kn (va_up (va_up (va_up (va_up vv 2 (upd (vv 2) r x)) 3 (upd (vv 3) r ((vv 3) w))) 4 (upd (vv 4) r ((vv 4) w))) 5 (upd (vv 5) r ((vv 5) w)))) H := hP
  have hD : va_D (aN aa 22) (wC aa cI cZ kn (va_up (va_up (va_up (va_up vv 2 (upd (vv 2) r x)) 3 (upd (vv 3) r ((vv 3) w))) 4 (upd (vv 4) r ((vv 4) w))) 5 (upd (vv 5) r ((vv 5) w)))) := hD
  refine lv_aload_n hx hb d_W_writeCopy_43 rfl (lv_at hl 0 rfl) ?_
  refine va_get (D := (dC, dI)) (ci := 5) (v := .ref (aa 12)) (C := R_W) (T := F_W) (N := 8) hx hb hts i_W hown hK hP 3 rfl rfl 4 (by decide) (hts _ fl_W_24) (fun _ h9 => h9) rfl d_W_writeCopy_44 ?_
  refine lv_iload_n hx hb d_W_writeCopy_47 rfl (lv_at hl 2 rfl) ?_
  refine lv_aload_n hx hb d_W_writeCopy_48 rfl (lv_at hl 0 rfl) ?_
  refine va_get (D := (dC, dI)) (ci := 5) (v := .ref (aa 12)) (C := R_W) (T := F_W) (N := 8) hx hb hts i_W hown hK hP 3 rfl rfl 4 (by decide) (hts _ fl_W_24) (fun _ h9 => h9) rfl d_W_writeCopy_49 ?_
  refine lv_iload_n hx hb d_W_writeCopy_52 rfl (lv_at hl 1 rfl) ?_
  refine va_iald hx hb hK hP 12 0 rfl rfl (vp_in_nI (by omega) (by omega)) d_W_writeCopy_53 ?_
  rw [nI_clamp (show w < 2 ^ 31 by omega)]
  refine va_iast hx hb hK hP hD hS 12 0 rfl rfl (vp_in_nI (by omega) (by omega)) d_W_writeCopy_54 (fun H locs hP hD hS => ?_)
  rw [nI_clamp (show r < 2 ^ 31 by omega)] at hP hD
  have hP : va_P (dC, dI) classes (wC aa cI cZ kn (va_up (va_up (va_up (va_up (va_up vv 2 (upd (vv 2) r x)) 3 (upd (vv 3) r ((vv 3) w))) 4 (upd (vv 4) r ((vv 4) w))) 5 (upd (vv 5) r ((vv 5) w))) 6 (upd (vv 6) r ((vv 6) w)))) H := hP
  have hD : va_D (aN aa 22) (wC aa cI cZ kn (va_up (va_up (va_up (va_up (va_up vv 2 (upd (vv 2) r x)) 3 (upd (vv 3) r ((vv 3) w))) 4 (upd (vv 4) r ((vv 4) w))) 5 (upd (vv 5) r ((vv 5) w))) 6 (upd (vv 6) r ((vv 6) w)))) := hD
  refine lv_aload_n hx hb d_W_writeCopy_55 rfl (lv_at hl 0 rfl) ?_
  refine va_get (D := (dC, dI)) (ci := 5) (v := .ref (aa 13)) (C := R_W) (T := F_W) (N := 8) hx hb hts i_W hown hK hP 3 rfl rfl 5 (by decide) (hts _ fl_W_27) (fun _ h9 => h9) rfl d_W_writeCopy_56 ?_
  refine lv_iload_n hx hb d_W_writeCopy_59 rfl (lv_at hl 2 rfl) ?_
  refine lv_aload_n hx hb d_W_writeCopy_60 rfl (lv_at hl 0 rfl) ?_
  refine va_get (D := (dC, dI)) (ci := 5) (v := .ref (aa 13)) (C := R_W) (T := F_W) (N := 8) hx hb hts i_W hown hK hP 3 rfl rfl 5 (by decide) (hts _ fl_W_27) (fun _ h9 => h9) rfl d_W_writeCopy_61 ?_
  refine lv_iload_n hx hb d_W_writeCopy_64 rfl (lv_at hl 1 rfl) ?_
  refine va_iald hx hb hK hP 13 0 rfl rfl (vp_in_nI (by omega) (by omega)) d_W_writeCopy_65 ?_
  rw [nI_clamp (show w < 2 ^ 31 by omega)]
  refine va_iast hx hb hK hP hD hS 13 0 rfl rfl (vp_in_nI (by omega) (by omega)) d_W_writeCopy_66 (fun H locs hP hD hS => ?_)
  rw [nI_clamp (show r < 2 ^ 31 by omega)] at hP hD
  have hP : va_P (dC, dI) classes (wC aa cI cZ kn (va_up (va_up (va_up (va_up (va_up (va_up vv 2 (upd (vv 2) r x)) 3 (upd (vv 3) r ((vv 3) w))) 4 (upd (vv 4) r ((vv 4) w))) 5 (upd (vv 5) r ((vv 5) w))) 6 (upd (vv 6) r ((vv 6) w))) 7 (upd (vv 7) r ((vv 7) w)))) H := hP
  have hD : va_D (aN aa 22) (wC aa cI cZ kn (va_up (va_up (va_up (va_up (va_up (va_up vv 2 (upd (vv 2) r x)) 3 (upd (vv 3) r ((vv 3) w))) 4 (upd (vv 4) r ((vv 4) w))) 5 (upd (vv 5) r ((vv 5) w))) 6 (upd (vv 6) r ((vv 6) w))) 7 (upd (vv 7) r ((vv 7) w)))) := hD
  refine lv_aload_n hx hb d_W_writeCopy_67 rfl (lv_at hl 0 rfl) ?_
  refine va_get (D := (dC, dI)) (ci := 5) (v := .ref (aa 14)) (C := R_W) (T := F_W) (N := 8) hx hb hts i_W hown hK hP 3 rfl rfl 6 (by decide) (hts _ fl_W_30) (fun _ h9 => h9) rfl d_W_writeCopy_68 ?_
  refine lv_iload_n hx hb d_W_writeCopy_71 rfl (lv_at hl 2 rfl) ?_
  refine lv_iconst (v := 0) hx hb d_W_writeCopy_72 (by decide) ?_
  refine va_zast hx hb hK hP hD hS 14 1 rfl rfl (vp_in_nI (by omega) (by omega)) d_W_writeCopy_73 (fun H locs hP hD hS => ?_)
  rw [show vp_nar .boolean 0 = 0 from rfl] at hP hD
  rw [nI_clamp (show r < 2 ^ 31 by omega)] at hP hD
  have hP : va_P (dC, dI) classes (wC aa cI cZ kn (va_up (va_up (va_up (va_up (va_up (va_up (va_up vv 2 (upd (vv 2) r x)) 3 (upd (vv 3) r ((vv 3) w))) 4 (upd (vv 4) r ((vv 4) w))) 5 (upd (vv 5) r ((vv 5) w))) 6 (upd (vv 6) r ((vv 6) w))) 7 (upd (vv 7) r ((vv 7) w))) 8 (upd (vv 8) r 0))) H := hP
  have hD : va_D (aN aa 22) (wC aa cI cZ kn (va_up (va_up (va_up (va_up (va_up (va_up (va_up vv 2 (upd (vv 2) r x)) 3 (upd (vv 3) r ((vv 3) w))) 4 (upd (vv 4) r ((vv 4) w))) 5 (upd (vv 5) r ((vv 5) w))) 6 (upd (vv 6) r ((vv 6) w))) 7 (upd (vv 7) r ((vv 7) w))) 8 (upd (vv 8) r 0))) := hD
  have er : (none : Option Value) = none := by rfl
  have hPe : va_P (dC, dI) classes (wC aa cI cZ kn (nwV vv r x (vv 3 w) (vv 4 w) (vv 5 w) (vv 6 w) (vv 7 w))) H := by exact hP
  exact W.vret hx hb hr (fun t ht hW => ⟨by rw [er], by rw [ht]; exact hPe, hS.F ht⟩) hS.2.2 d_W_writeCopy_74
set_option maxRecDepth 100000 in
set_option maxHeartbeats 4000000 in
theorem c_O_write (hP : va_P (dC, dI) classes (wC aa cI cZ kn vv) H) (hdD : dD noT aa 22) {r : Nat} (hr2 : r < 60) (x y z : Int32) : Met l y_O_write (wB y_O_write b_O_write 5 none) ({ frames := 0, cells := 0, slots := 0, locals := 0 } : Room) (rP [.ref (aa 4), .int (nI r), .int x, .int y, .int z] H (kK dC dI cI cZ cJ)) (qW none (aN aa 22) (fun H1 => va_P (dC, dI) classes (wC aa cI cZ kn (owV vv r x y z)) H1)) 0 0 (aN aa 22) := by
  refine Met.ofW (cc := b_O_write) (maxL := 5) (ret := none) (by decide) rfl ?_
  intro p e s m args below meth c s₁ B hml hv
  obtain ⟨rfl, rfl, hK⟩ := hv
  have hx := B.exec
  have hb := B.bytes
  have hr := B.returns
  have hts0 := atoms_spec (ws := (wB y_O_write b_O_write 5 none)) B.pre
  have hts : ∀ w9 ∈ BG, w9.before [.ref (aa 4), .int (nI r), .int x, .int y, .int z].toArray s = true := fun w9 hw9 => hts0 w9 (List.mem_cons_of_mem _ hw9)
  have hown : s.vm.findClass R_O = some m.cls := findClass_of_methodNamed B.named
  have hlocks := B.notSynchronized
  have hK : va_K (dC, dI) classes [(cI, .int), (cZ, .boolean), (cJ, .long)] s := hK
  have hD : va_D (aN aa 22) (wC aa cI cZ kn vv) := wC_D (dD_aN hdD)
  have hS : va_S (aN aa 22) s.heap s.heap [] := va_S.rf
  have hl := lv_entry ([.ref (aa 4), .int (nI r), .int x, .int y, .int z]) (n := 5) (Nat.le_of_ble_eq_true rfl)
  rw [lg_entry_eq]
  generalize (lg_sl ([.ref (aa 4), .int (nI r), .int x, .int y, .int z]) ++ List.replicate (5 - (lg_sl ([.ref (aa 4), .int (nI r), .int x, .int y, .int z])).length) Slot.unset).toArray = ls at hl ⊢
  have hl : lv_has ls 5 [(0, .ref (aa 4)), (1, .int (nI r)), (2, .int x), (3, .int y), (4, .int z)] := hl
  refine lv_aload_n hx hb d_O_write_0 rfl (lv_at hl 0 rfl) ?_
  refine va_get (D := (dC, dI)) (ci := 2) (v := .ref (aa 15)) (C := R_O) (T := F_O) (N := 4) hx hb hts i_O hown hK hP 4 rfl rfl 0 (by decide) (hts _ fl_O_9) (fun _ h9 => h9) rfl d_O_write_1 ?_
  refine lv_iload_n hx hb d_O_write_4 rfl (lv_at hl 1 rfl) ?_
  refine lv_iload_n hx hb d_O_write_5 rfl (lv_at hl 2 rfl) ?_
  refine va_iast hx hb hK hP hD hS 15 0 rfl rfl (vp_in_nI (by omega) (by omega)) d_O_write_6 (fun H locs hP hD hS => ?_)
  rw [nI_clamp (show r < 2 ^ 31 by omega)] at hP hD
  have hP : va_P (dC, dI) classes (wC aa cI cZ kn (va_up vv 9 (upd (vv 9) r x))) H := hP
  have hD : va_D (aN aa 22) (wC aa cI cZ kn (va_up vv 9 (upd (vv 9) r x))) := hD
  refine lv_aload_n hx hb d_O_write_7 rfl (lv_at hl 0 rfl) ?_
  refine va_get (D := (dC, dI)) (ci := 2) (v := .ref (aa 16)) (C := R_O) (T := F_O) (N := 4) hx hb hts i_O hown hK hP 4 rfl rfl 1 (by decide) (hts _ fl_O_15) (fun _ h9 => h9) rfl d_O_write_8 ?_
  refine lv_iload_n hx hb d_O_write_11 rfl (lv_at hl 1 rfl) ?_
  refine lv_iload_n hx hb d_O_write_12 rfl (lv_at hl 3 rfl) ?_
  refine va_iast hx hb hK hP hD hS 16 0 rfl rfl (vp_in_nI (by omega) (by omega)) d_O_write_13 (fun H locs hP hD hS => ?_)
  rw [nI_clamp (show r < 2 ^ 31 by omega)] at hP hD
  have hP : va_P (dC, dI) classes (wC aa cI cZ kn (va_up (va_up vv 9 (upd (vv 9) r x)) 10 (upd (vv 10) r y))) H := hP
  have hD : va_D (aN aa 22) (wC aa cI cZ kn (va_up (va_up vv 9 (upd (vv 9) r x)) 10 (upd (vv 10) r y))) := hD
  refine lv_aload_n hx hb d_O_write_14 rfl (lv_at hl 0 rfl) ?_
  refine va_get (D := (dC, dI)) (ci := 2) (v := .ref (aa 17)) (C := R_O) (T := F_O) (N := 4) hx hb hts i_O hown hK hP 4 rfl rfl 2 (by decide) (hts _ fl_O_18) (fun _ h9 => h9) rfl d_O_write_15 ?_
  refine lv_iload_n hx hb d_O_write_18 rfl (lv_at hl 1 rfl) ?_
  refine lv_iload hx hb d_O_write_19 (lv_at hl 4 rfl) ?_
  refine va_iast hx hb hK hP hD hS 17 0 rfl rfl (vp_in_nI (by omega) (by omega)) d_O_write_21 (fun H locs hP hD hS => ?_)
  rw [nI_clamp (show r < 2 ^ 31 by omega)] at hP hD
  have hP : va_P (dC, dI) classes (wC aa cI cZ kn (va_up (va_up (va_up vv 9 (upd (vv 9) r x)) 10 (upd (vv 10) r y)) 11 (upd (vv 11) r z))) H := hP
  have hD : va_D (aN aa 22) (wC aa cI cZ kn (va_up (va_up (va_up vv 9 (upd (vv 9) r x)) 10 (upd (vv 10) r y)) 11 (upd (vv 11) r z))) := hD
  have er : (none : Option Value) = none := by rfl
  have hPe : va_P (dC, dI) classes (wC aa cI cZ kn (owV vv r x y z)) H := by exact hP
  exact W.vret hx hb hr (fun t ht hW => ⟨by rw [er], by rw [ht]; exact hPe, hS.F ht⟩) hS.2.2 d_O_write_22
set_option maxRecDepth 100000 in
set_option maxHeartbeats 4000000 in
theorem c_H_write (hP : va_P (dC, dI) classes (wC aa cI cZ kn vv) H) (hdD : dD noT aa 22) {d : Nat} (e4 : kn 4 = nI d) (hd : d < 200) (x y z u : Int32) : Met l y_H_write (wB y_H_write b_H_write 5 none) ({ frames := 0, cells := 0, slots := 0, locals := 0 } : Room) (rP [.ref (aa 5), .int x, .int y, .int z, .int u] H (kK dC dI cI cZ cJ)) (qW none (aN aa 22) (fun H1 => va_P (dC, dI) classes (wC aa cI cZ (va_up kn 5 (nI d + 1)) (hwV vv d x y z u)) H1)) 0 0 (aN aa 22) := by
  refine Met.ofW (cc := b_H_write) (maxL := 5) (ret := none) (by decide) rfl ?_
  intro p e s m args below meth c s₁ B hml hv
  obtain ⟨rfl, rfl, hK⟩ := hv
  have hx := B.exec
  have hb := B.bytes
  have hr := B.returns
  have hts0 := atoms_spec (ws := (wB y_H_write b_H_write 5 none)) B.pre
  have hts : ∀ w9 ∈ BG, w9.before [.ref (aa 5), .int x, .int y, .int z, .int u].toArray s = true := fun w9 hw9 => hts0 w9 (List.mem_cons_of_mem _ hw9)
  have hown : s.vm.findClass R_H = some m.cls := findClass_of_methodNamed B.named
  have hlocks := B.notSynchronized
  have hK : va_K (dC, dI) classes [(cI, .int), (cZ, .boolean), (cJ, .long)] s := hK
  have hD : va_D (aN aa 22) (wC aa cI cZ kn vv) := wC_D (dD_aN hdD)
  have hS : va_S (aN aa 22) s.heap s.heap [] := va_S.rf
  have hl := lv_entry ([.ref (aa 5), .int x, .int y, .int z, .int u]) (n := 5) (Nat.le_of_ble_eq_true rfl)
  rw [lg_entry_eq]
  generalize (lg_sl ([.ref (aa 5), .int x, .int y, .int z, .int u]) ++ List.replicate (5 - (lg_sl ([.ref (aa 5), .int x, .int y, .int z, .int u])).length) Slot.unset).toArray = ls at hl ⊢
  have hl : lv_has ls 5 [(0, .ref (aa 5)), (1, .int x), (2, .int y), (3, .int z), (4, .int u)] := hl
  refine lv_aload_n hx hb d_H_write_0 rfl (lv_at hl 0 rfl) ?_
  refine va_get (D := (dC, dI)) (ci := 1) (v := .ref (aa 18)) (C := R_H) (T := F_H) (N := 6) hx hb hts i_H hown hK hP 5 rfl rfl 0 (by decide) (hts _ fl_H_9) (fun _ h9 => h9) rfl d_H_write_1 ?_
  refine lv_aload_n hx hb d_H_write_4 rfl (lv_at hl 0 rfl) ?_
  refine va_get (D := (dC, dI)) (ci := 1) (v := .int (nI d)) (C := R_H) (T := F_H) (N := 6) hx hb hts i_H hown hK hP 5 rfl rfl 4 (by decide) (hts _ fl_H_24) (fun _ h9 => h9) (by rw [← e4]; rfl) d_H_write_5 ?_
  refine lv_iload_n hx hb d_H_write_8 rfl (lv_at hl 1 rfl) ?_
  refine va_iast hx hb hK hP hD hS 18 0 rfl rfl (vp_in_nI (by omega) (by omega)) d_H_write_9 (fun H locs hP hD hS => ?_)
  rw [nI_clamp (show d < 2 ^ 31 by omega)] at hP hD
  have hP : va_P (dC, dI) classes (wC aa cI cZ kn (va_up vv 12 (upd (vv 12) d x))) H := hP
  have hD : va_D (aN aa 22) (wC aa cI cZ kn (va_up vv 12 (upd (vv 12) d x))) := hD
  refine lv_aload_n hx hb d_H_write_10 rfl (lv_at hl 0 rfl) ?_
  refine va_get (D := (dC, dI)) (ci := 1) (v := .ref (aa 19)) (C := R_H) (T := F_H) (N := 6) hx hb hts i_H hown hK hP 5 rfl rfl 1 (by decide) (hts _ fl_H_15) (fun _ h9 => h9) rfl d_H_write_11 ?_
  refine lv_aload_n hx hb d_H_write_14 rfl (lv_at hl 0 rfl) ?_
  refine va_get (D := (dC, dI)) (ci := 1) (v := .int (nI d)) (C := R_H) (T := F_H) (N := 6) hx hb hts i_H hown hK hP 5 rfl rfl 4 (by decide) (hts _ fl_H_24) (fun _ h9 => h9) (by rw [← e4]; rfl) d_H_write_15 ?_
  refine lv_iload_n hx hb d_H_write_18 rfl (lv_at hl 2 rfl) ?_
  refine va_iast hx hb hK hP hD hS 19 0 rfl rfl (vp_in_nI (by omega) (by omega)) d_H_write_19 (fun H locs hP hD hS => ?_)
  rw [nI_clamp (show d < 2 ^ 31 by omega)] at hP hD
  have hP : va_P (dC, dI) classes (wC aa cI cZ kn (va_up (va_up vv 12 (upd (vv 12) d x)) 13 (upd (vv 13) d y))) H := hP
  have hD : va_D (aN aa 22) (wC aa cI cZ kn (va_up (va_up vv 12 (upd (vv 12) d x)) 13 (upd (vv 13) d y))) := hD
  refine lv_aload_n hx hb d_H_write_20 rfl (lv_at hl 0 rfl) ?_
  refine va_get (D := (dC, dI)) (ci := 1) (v := .ref (aa 20)) (C := R_H) (T := F_H) (N := 6) hx hb hts i_H hown hK hP 5 rfl rfl 2 (by decide) (hts _ fl_H_18) (fun _ h9 => h9) rfl d_H_write_21 ?_
  refine lv_aload_n hx hb d_H_write_24 rfl (lv_at hl 0 rfl) ?_
  refine va_get (D := (dC, dI)) (ci := 1) (v := .int (nI d)) (C := R_H) (T := F_H) (N := 6) hx hb hts i_H hown hK hP 5 rfl rfl 4 (by decide) (hts _ fl_H_24) (fun _ h9 => h9) (by rw [← e4]; rfl) d_H_write_25 ?_
  refine lv_iload_n hx hb d_H_write_28 rfl (lv_at hl 3 rfl) ?_
  refine va_iast hx hb hK hP hD hS 20 0 rfl rfl (vp_in_nI (by omega) (by omega)) d_H_write_29 (fun H locs hP hD hS => ?_)
  rw [nI_clamp (show d < 2 ^ 31 by omega)] at hP hD
  have hP : va_P (dC, dI) classes (wC aa cI cZ kn (va_up (va_up (va_up vv 12 (upd (vv 12) d x)) 13 (upd (vv 13) d y)) 14 (upd (vv 14) d z))) H := hP
  have hD : va_D (aN aa 22) (wC aa cI cZ kn (va_up (va_up (va_up vv 12 (upd (vv 12) d x)) 13 (upd (vv 13) d y)) 14 (upd (vv 14) d z))) := hD
  refine lv_aload_n hx hb d_H_write_30 rfl (lv_at hl 0 rfl) ?_
  refine va_get (D := (dC, dI)) (ci := 1) (v := .ref (aa 21)) (C := R_H) (T := F_H) (N := 6) hx hb hts i_H hown hK hP 5 rfl rfl 3 (by decide) (hts _ fl_H_21) (fun _ h9 => h9) rfl d_H_write_31 ?_
  refine lv_aload_n hx hb d_H_write_34 rfl (lv_at hl 0 rfl) ?_
  refine va_get (D := (dC, dI)) (ci := 1) (v := .int (nI d)) (C := R_H) (T := F_H) (N := 6) hx hb hts i_H hown hK hP 5 rfl rfl 4 (by decide) (hts _ fl_H_24) (fun _ h9 => h9) (by rw [← e4]; rfl) d_H_write_35 ?_
  refine lv_iload hx hb d_H_write_38 (lv_at hl 4 rfl) ?_
  refine va_iast hx hb hK hP hD hS 21 0 rfl rfl (vp_in_nI (by omega) (by omega)) d_H_write_40 (fun H locs hP hD hS => ?_)
  rw [nI_clamp (show d < 2 ^ 31 by omega)] at hP hD
  have hP : va_P (dC, dI) classes (wC aa cI cZ kn (va_up (va_up (va_up (va_up vv 12 (upd (vv 12) d x)) 13 (upd (vv 13) d y)) 14 (upd (vv 14) d z)) 15 (upd (vv 15) d u))) H := hP
  have hD : va_D (aN aa 22) (wC aa cI cZ kn (va_up (va_up (va_up (va_up vv 12 (upd (vv 12) d x)) 13 (upd (vv 13) d y)) 14 (upd (vv 14) d z)) 15 (upd (vv 15) d u))) := hD
  refine lv_aload_n hx hb d_H_write_41 rfl (lv_at hl 0 rfl) ?_
  refine lv_aload_n hx hb d_H_write_42 rfl (lv_at hl 0 rfl) ?_
  refine va_get (D := (dC, dI)) (ci := 1) (v := .int (nI d)) (C := R_H) (T := F_H) (N := 6) hx hb hts i_H hown hK hP 5 rfl rfl 4 (by decide) (hts _ fl_H_24) (fun _ h9 => h9) (by rw [← e4]; rfl) d_H_write_43 ?_
  refine lv_iconst (v := 1) hx hb d_H_write_46 (by decide) ?_
  refine lv_iadd hx hb d_H_write_47 ?_
  refine va_put (D := (dC, dI)) (ci := 1) (v := .int ((nI d) + 1)) (ty := .int) (C := R_H) (T := F_H) (N := 6) hx hb hts i_H ty_H tok_H n_H hown hK hP hD hS 5 rfl rfl 5 (by decide) (hts _ fl_H_28) (fun _ h9 => h9) rfl (by decide +kernel) rfl rfl (Nat.le_of_ble_eq_true rfl) d_H_write_48 (fun H locs hP hD hS => ?_)
  have hP : va_P (dC, dI) classes (wC aa cI cZ (va_up kn 5 ((nI d) + 1)) (va_up (va_up (va_up (va_up vv 12 (upd (vv 12) d x)) 13 (upd (vv 13) d y)) 14 (upd (vv 14) d z)) 15 (upd (vv 15) d u))) H := hP
  have hD : va_D (aN aa 22) (wC aa cI cZ (va_up kn 5 ((nI d) + 1)) (va_up (va_up (va_up (va_up vv 12 (upd (vv 12) d x)) 13 (upd (vv 13) d y)) 14 (upd (vv 14) d z)) 15 (upd (vv 15) d u))) := hD
  have er : (none : Option Value) = none := by rfl
  have hPe : va_P (dC, dI) classes (wC aa cI cZ (va_up kn 5 (nI d + 1)) (hwV vv d x y z u)) H := by exact hP
  exact W.vret hx hb hr (fun t ht hW => ⟨by rw [er], by rw [ht]; exact hPe, hS.F ht⟩) hS.2.2 d_H_write_51
set_option maxRecDepth 100000 in
set_option maxHeartbeats 4000000 in
theorem c_C_exchange (hP : va_P (dC, dI) classes (wC aa cI cZ kn vv) H) (hdD : dD noT aa 22) {t : Nat} (x y : Int32) (h3 : x = 3 → t < 6) (h4 : x = 4 → t < 8) (h5 : t < 40) : Met l y_C_exchange (wB y_C_exchange b_C_exchange 5 (some .int)) ({ frames := 0, cells := 0, slots := 0, locals := 0 } : Room) (rP [.ref (aa 0), .int x, .int (nI t), .int y] H (kK dC dI cI cZ cJ)) (qW (some (.int (exR vv x t))) (aN aa 22) (fun H1 => va_P (dC, dI) classes (wC aa cI cZ kn (exV vv x t y)) H1)) 0 0 (aN aa 22) := by
  refine Met.ofW (cc := b_C_exchange) (maxL := 5) (ret := (some .int)) (by decide) rfl ?_
  intro p e s m args below meth c s₁ B hml hv
  obtain ⟨rfl, rfl, hK⟩ := hv
  have hx := B.exec
  have hb := B.bytes
  have hr := B.returns
  have hts0 := atoms_spec (ws := (wB y_C_exchange b_C_exchange 5 (some .int))) B.pre
  have hts : ∀ w9 ∈ BG, w9.before [.ref (aa 0), .int x, .int (nI t), .int y].toArray s = true := fun w9 hw9 => hts0 w9 (List.mem_cons_of_mem _ hw9)
  have hown : s.vm.findClass R_C = some m.cls := findClass_of_methodNamed B.named
  have hlocks := B.notSynchronized
  have hK : va_K (dC, dI) classes [(cI, .int), (cZ, .boolean), (cJ, .long)] s := hK
  have hD : va_D (aN aa 22) (wC aa cI cZ kn vv) := wC_D (dD_aN hdD)
  have hS : va_S (aN aa 22) s.heap s.heap [] := va_S.rf
  have hl := lv_entry ([.ref (aa 0), .int x, .int (nI t), .int y]) (n := 5) (Nat.le_of_ble_eq_true rfl)
  rw [lg_entry_eq]
  generalize (lg_sl ([.ref (aa 0), .int x, .int (nI t), .int y]) ++ List.replicate (5 - (lg_sl ([.ref (aa 0), .int x, .int (nI t), .int y])).length) Slot.unset).toArray = ls at hl ⊢
  have hl : lv_has ls 5 [(0, .ref (aa 0)), (1, .int x), (2, .int (nI t)), (3, .int y)] := hl
  refine lv_iload_n hx hb d_C_exchange_0 rfl (lv_at hl 1 rfl) ?_
  refine lv_iconst (v := 3) hx hb d_C_exchange_1 (by decide) ?_
  refine lv_icmp_ne (tgt := 29) hx hb d_C_exchange_2 (by decide) (fun c_2 => ?_) (fun c_2 => ?_)
  · refine lv_iload_n hx hb d_C_exchange_29 rfl (lv_at hl 1 rfl) ?_
    refine lv_iconst (v := 4) hx hb d_C_exchange_30 (by decide) ?_
    refine lv_icmp_ne (tgt := 58) hx hb d_C_exchange_31 (by decide) (fun c_31 => ?_) (fun c_31 => ?_)
    · refine lv_aload_n hx hb d_C_exchange_58 rfl (lv_at hl 0 rfl) ?_
      refine va_get (D := (dC, dI)) (ci := 0) (v := .ref (aa 3)) (C := R_C) (T := F_C) (N := 5) hx hb hts i_C hown hK hP 0 rfl rfl 2 (by decide) (hts _ fl_C_26) (fun _ h9 => h9) rfl d_C_exchange_59 ?_
      refine va_get (D := (dC, dI)) (ci := 5) (v := .ref (aa 9)) (C := R_W) (T := F_W) (N := 8) hx hb hts i_W hown hK hP 3 rfl rfl 1 (by decide) (hts _ fl_C_168) (fun _ h9 => h9) rfl d_C_exchange_62 ?_
      refine lv_iload_n hx hb d_C_exchange_65 rfl (lv_at hl 2 rfl) ?_
      refine va_iald hx hb hK hP 9 0 rfl rfl (vp_in_nI (by omega) (by omega)) d_C_exchange_66 ?_
      rw [nI_clamp (show t < 2 ^ 31 by omega)]
      refine lv_istore (lv' := [(4, .int ((vv 3) t)), (0, .ref (aa 0)), (1, .int x), (2, .int (nI t)), (3, .int y)]) hx hb d_C_exchange_67 hl (by decide) rfl (fun ls hl => ?_)
      refine lv_aload_n hx hb d_C_exchange_69 rfl (lv_at hl 1 rfl) ?_
      refine va_get (D := (dC, dI)) (ci := 0) (v := .ref (aa 3)) (C := R_C) (T := F_C) (N := 5) hx hb hts i_C hown hK hP 0 rfl rfl 2 (by decide) (hts _ fl_C_26) (fun _ h9 => h9) rfl d_C_exchange_70 ?_
      refine va_get (D := (dC, dI)) (ci := 5) (v := .ref (aa 9)) (C := R_W) (T := F_W) (N := 8) hx hb hts i_W hown hK hP 3 rfl rfl 1 (by decide) (hts _ fl_C_168) (fun _ h9 => h9) rfl d_C_exchange_73 ?_
      refine lv_iload_n hx hb d_C_exchange_76 rfl (lv_at hl 3 rfl) ?_
      refine lv_iload_n hx hb d_C_exchange_77 rfl (lv_at hl 4 rfl) ?_
      refine va_iast hx hb hK hP hD hS 9 0 rfl rfl (vp_in_nI (by omega) (by omega)) d_C_exchange_78 (fun H locs hP hD hS => ?_)
      rw [nI_clamp (show t < 2 ^ 31 by omega)] at hP hD
      have hP : va_P (dC, dI) classes (wC aa cI cZ kn (va_up vv 3 (upd (vv 3) t y))) H := hP
      have hD : va_D (aN aa 22) (wC aa cI cZ kn (va_up vv 3 (upd (vv 3) t y))) := hD
      refine lv_iload hx hb d_C_exchange_79 (lv_at hl 0 rfl) ?_
      have er : ((some (.int (exR vv x t))) : Option Value) = some (.int ((vv 3) t)) := by simp [exR, c_2, c_31]
      have hPe : va_P (dC, dI) classes (wC aa cI cZ kn (exV vv x t y)) H := by first | (rw [exV, if_pos c_2]; exact hP) | (rw [exV, if_neg c_2, if_pos c_31]; exact hP) | (rw [exV, if_neg c_2, if_neg c_31]; exact hP)
      exact W.iret (v := ((vv 3) t)) hx hb hr (fun t ht hW => ⟨by rw [er], by rw [ht]; exact hPe, hS.F ht⟩) hS.2.2 d_C_exchange_81
    · have c_31 : x = 4 := by simpa using c_31
      have h9 : t < 8 := h4 c_31
      refine lv_aload_n hx hb d_C_exchange_34 rfl (lv_at hl 0 rfl) ?_
      refine va_get (D := (dC, dI)) (ci := 0) (v := .ref (aa 2)) (C := R_C) (T := F_C) (N := 5) hx hb hts i_C hown hK hP 0 rfl rfl 1 (by decide) (hts _ fl_C_19) (fun _ h9 => h9) rfl d_C_exchange_35 ?_
      refine va_get (D := (dC, dI)) (ci := 4) (v := .ref (aa 7)) (C := R_T) (T := F_T) (N := 2) hx hb hts i_T hown hK hP 2 rfl rfl 0 (by decide) (hts _ fl_C_80) (fun _ h9 => h9) rfl d_C_exchange_38 ?_
      refine lv_iload_n hx hb d_C_exchange_41 rfl (lv_at hl 2 rfl) ?_
      refine va_iald hx hb hK hP 7 0 rfl rfl (vp_in_nI (by omega) (by omega)) d_C_exchange_42 ?_
      rw [nI_clamp (show t < 2 ^ 31 by omega)]
      refine lv_istore (lv' := [(4, .int ((vv 1) t)), (0, .ref (aa 0)), (1, .int x), (2, .int (nI t)), (3, .int y)]) hx hb d_C_exchange_43 hl (by decide) rfl (fun ls hl => ?_)
      refine lv_aload_n hx hb d_C_exchange_45 rfl (lv_at hl 1 rfl) ?_
      refine va_get (D := (dC, dI)) (ci := 0) (v := .ref (aa 2)) (C := R_C) (T := F_C) (N := 5) hx hb hts i_C hown hK hP 0 rfl rfl 1 (by decide) (hts _ fl_C_19) (fun _ h9 => h9) rfl d_C_exchange_46 ?_
      refine va_get (D := (dC, dI)) (ci := 4) (v := .ref (aa 7)) (C := R_T) (T := F_T) (N := 2) hx hb hts i_T hown hK hP 2 rfl rfl 0 (by decide) (hts _ fl_C_80) (fun _ h9 => h9) rfl d_C_exchange_49 ?_
      refine lv_iload_n hx hb d_C_exchange_52 rfl (lv_at hl 3 rfl) ?_
      refine lv_iload_n hx hb d_C_exchange_53 rfl (lv_at hl 4 rfl) ?_
      refine va_iast hx hb hK hP hD hS 7 0 rfl rfl (vp_in_nI (by omega) (by omega)) d_C_exchange_54 (fun H locs hP hD hS => ?_)
      rw [nI_clamp (show t < 2 ^ 31 by omega)] at hP hD
      have hP : va_P (dC, dI) classes (wC aa cI cZ kn (va_up vv 1 (upd (vv 1) t y))) H := hP
      have hD : va_D (aN aa 22) (wC aa cI cZ kn (va_up vv 1 (upd (vv 1) t y))) := hD
      refine lv_goto (tgt := 79) hx hb d_C_exchange_55 (by decide) ?_
      refine lv_iload hx hb d_C_exchange_79 (lv_at hl 0 rfl) ?_
      have er : ((some (.int (exR vv x t))) : Option Value) = some (.int ((vv 1) t)) := by simp [exR, c_2, c_31]
      have hPe : va_P (dC, dI) classes (wC aa cI cZ kn (exV vv x t y)) H := by first | (rw [exV, if_pos c_2]; exact hP) | (rw [exV, if_neg c_2, if_pos c_31]; exact hP) | (rw [exV, if_neg c_2, if_neg c_31]; exact hP)
      exact W.iret (v := ((vv 1) t)) hx hb hr (fun t ht hW => ⟨by rw [er], by rw [ht]; exact hPe, hS.F ht⟩) hS.2.2 d_C_exchange_81
  · have c_2 : x = 3 := by simpa using c_2
    have h9 : t < 6 := h3 c_2
    refine lv_aload_n hx hb d_C_exchange_5 rfl (lv_at hl 0 rfl) ?_
    refine va_get (D := (dC, dI)) (ci := 0) (v := .ref (aa 1)) (C := R_C) (T := F_C) (N := 5) hx hb hts i_C hown hK hP 0 rfl rfl 0 (by decide) (hts _ fl_C_10) (fun _ h9 => h9) rfl d_C_exchange_6 ?_
    refine va_get (D := (dC, dI)) (ci := 3) (v := .ref (aa 6)) (C := R_S) (T := F_S) (N := 2) hx hb hts i_S hown hK hP 1 rfl rfl 0 (by decide) (hts _ fl_C_62) (fun _ h9 => h9) rfl d_C_exchange_9 ?_
    refine lv_iload_n hx hb d_C_exchange_12 rfl (lv_at hl 2 rfl) ?_
    refine va_iald hx hb hK hP 6 0 rfl rfl (vp_in_nI (h3 c_2) (by decide)) d_C_exchange_13 ?_
    rw [nI_clamp (show t < 2 ^ 31 by omega)]
    refine lv_istore (lv' := [(4, .int ((vv 0) t)), (0, .ref (aa 0)), (1, .int x), (2, .int (nI t)), (3, .int y)]) hx hb d_C_exchange_14 hl (by decide) rfl (fun ls hl => ?_)
    refine lv_aload_n hx hb d_C_exchange_16 rfl (lv_at hl 1 rfl) ?_
    refine va_get (D := (dC, dI)) (ci := 0) (v := .ref (aa 1)) (C := R_C) (T := F_C) (N := 5) hx hb hts i_C hown hK hP 0 rfl rfl 0 (by decide) (hts _ fl_C_10) (fun _ h9 => h9) rfl d_C_exchange_17 ?_
    refine va_get (D := (dC, dI)) (ci := 3) (v := .ref (aa 6)) (C := R_S) (T := F_S) (N := 2) hx hb hts i_S hown hK hP 1 rfl rfl 0 (by decide) (hts _ fl_C_62) (fun _ h9 => h9) rfl d_C_exchange_20 ?_
    refine lv_iload_n hx hb d_C_exchange_23 rfl (lv_at hl 3 rfl) ?_
    refine lv_iload_n hx hb d_C_exchange_24 rfl (lv_at hl 4 rfl) ?_
    refine va_iast hx hb hK hP hD hS 6 0 rfl rfl (vp_in_nI (by omega) (by omega)) d_C_exchange_25 (fun H locs hP hD hS => ?_)
    rw [nI_clamp (show t < 2 ^ 31 by omega)] at hP hD
    have hP : va_P (dC, dI) classes (wC aa cI cZ kn (va_up vv 0 (upd (vv 0) t y))) H := hP
    have hD : va_D (aN aa 22) (wC aa cI cZ kn (va_up vv 0 (upd (vv 0) t y))) := hD
    refine lv_goto (tgt := 79) hx hb d_C_exchange_26 (by decide) ?_
    refine lv_iload hx hb d_C_exchange_79 (lv_at hl 0 rfl) ?_
    have er : ((some (.int (exR vv x t))) : Option Value) = some (.int ((vv 0) t)) := by simp [exR, c_2]
    have hPe : va_P (dC, dI) classes (wC aa cI cZ kn (exV vv x t y)) H := by first | (rw [exV, if_pos c_2]; exact hP) | (rw [exV, if_neg c_2, if_pos c_31]; exact hP) | (rw [exV, if_neg c_2, if_neg c_31]; exact hP)
    exact W.iret (v := ((vv 0) t)) hx hb hr (fun t ht hW => ⟨by rw [er], by rw [ht]; exact hPe, hS.F ht⟩) hS.2.2 d_C_exchange_81
set_option maxRecDepth 100000 in
set_option maxHeartbeats 4000000 in
theorem c_O_writeCopies (hP : va_P (dC, dI) classes (wC aa cI cZ kn vv) H) (hdD : dD noT aa 22) (hI : okC kn nn) (x y : Int32) {r : Nat} (hB : (ocF x y (nn 3) (vv, r)).2 ≤ 60) : Met l y_O_writeCopies (wB y_O_writeCopies b_O_writeCopies 6 (some .int)) ({ frames := 1, cells := 0, slots := 0, locals := 24 } : Room) (rP [.ref (aa 4), .int x, .int y, .int (nI r)] H (kK dC dI cI cZ cJ)) (qW (some (.int (nI (ocF x y (nn 3) (vv, r)).2))) (aN aa 22) (fun H1 => va_P (dC, dI) classes (wC aa cI cZ kn (ocF x y (nn 3) (vv, r)).1) H1)) 0 0 (aN aa 22) := by
  refine Met.ofW (cc := b_O_writeCopies) (maxL := 6) (ret := (some .int)) (by decide) rfl ?_
  intro p e s m args below meth c s₁ B hml hv
  obtain ⟨rfl, rfl, hK⟩ := hv
  have hx := B.exec
  have hb := B.bytes
  have hr := B.returns
  have hts0 := atoms_spec (ws := (wB y_O_writeCopies b_O_writeCopies 6 (some .int))) B.pre
  have hts : ∀ w9 ∈ BG, w9.before [.ref (aa 4), .int x, .int y, .int (nI r)].toArray s = true := fun w9 hw9 => hts0 w9 (List.mem_cons_of_mem _ hw9)
  have hown : s.vm.findClass R_O = some m.cls := findClass_of_methodNamed B.named
  have hlocks := B.notSynchronized
  have hK : va_K (dC, dI) classes [(cI, .int), (cZ, .boolean), (cJ, .long)] s := hK
  have hD : va_D (aN aa 22) (wC aa cI cZ kn vv) := wC_D (dD_aN hdD)
  have hS : va_S (aN aa 22) s.heap s.heap [] := va_S.rf
  have hl := lv_entry ([.ref (aa 4), .int x, .int y, .int (nI r)]) (n := 6) (Nat.le_of_ble_eq_true rfl)
  rw [lg_entry_eq]
  generalize (lg_sl ([.ref (aa 4), .int x, .int y, .int (nI r)]) ++ List.replicate (6 - (lg_sl ([.ref (aa 4), .int x, .int y, .int (nI r)])).length) Slot.unset).toArray = ls at hl ⊢
  have hl : lv_has ls 6 [(0, .ref (aa 4)), (1, .int x), (2, .int y), (3, .int (nI r))] := hl
  obtain ⟨eK, b0, b1, b2, b3, b4, b5⟩ := id hI
  refine lv_iload_n hx hb d_O_writeCopies_0 rfl (lv_at hl 3 rfl) ?_
  refine lv_istore (lv' := [(4, .int (nI r)), (0, .ref (aa 4)), (1, .int x), (2, .int y), (3, .int (nI r))]) hx hb d_O_writeCopies_1 hl (by decide) rfl (fun ls hl => ?_)
  refine lv_iconst (v := 0) hx hb d_O_writeCopies_3 (by decide) ?_
  refine lv_istore (lv' := [(5, .int 0), (4, .int (nI r)), (0, .ref (aa 4)), (1, .int x), (2, .int y), (3, .int (nI r))]) hx hb d_O_writeCopies_4 hl (by decide) rfl (fun ls hl => ?_)
  have loop_6 : ∀ (k9 i : Nat), nn 3 + 1 ≤ i + k9 → i ≤ nn 3 → ∀ (H : Heap) (locs : List Loc), va_P (dC, dI) classes (wC aa cI cZ kn (ocF x y i (vv, r)).1) H → va_S (aN aa 22) s.heap H locs → ∀ (ls : Array Slot), lv_has ls 6 [(0, .ref (aa 4)), (1, .int x), (2, .int y), (3, .int (nI r)), (4, .int (nI (ocF x y i (vv, r)).2)), (5, .int (nI i))] → W p l e (headSpec (wB y_O_writeCopies b_O_writeCopies 6 (some .int)) ({ frames := 1, cells := 0, slots := 0, locals := 24 } : Room)).room s m [.ref (aa 4), .int x, .int y, .int (nI r)].toArray below meth c H locs 0 0 (MQ below (qW (some (.int (nI (ocF x y (nn 3) (vv, r)).2))) (aN aa 22) (fun H1 => va_P (dC, dI) classes (wC aa cI cZ kn (ocF x y (nn 3) (vv, r)).1) H1)) [.ref (aa 4), .int x, .int y, .int (nI r)].toArray s 0 0 (aN aa 22)) (F0 m 6 ls []) := by
    intro k9_6
    induction k9_6 with
    | zero => intro i  hk_6 hi H locs hP hS ls hl; exact absurd hk_6 (by omega)
    | succ k9_6 ih_6 =>
      intro i  hk_6 hi H locs hP hS ls hl
      have hD : va_D (aN aa 22) (wC aa cI cZ kn (ocF x y i (vv, r)).1) := wC_D (dD_aN hdD)
      refine lv_iload hx hb d_O_writeCopies_6 (lv_at hl 5 rfl) ?_
      refine lv_aload_n hx hb d_O_writeCopies_8 rfl (lv_at hl 0 rfl) ?_
      refine va_get (D := (dC, dI)) (ci := 2) (v := .int (kn 3)) (C := R_O) (T := F_O) (N := 4) hx hb hts i_O hown hK hP 4 rfl rfl 3 (by decide) (hts _ fl_O_21) (fun _ h9 => h9) rfl d_O_writeCopies_9 ?_
      refine lv_icmp_ge (tgt := 56) hx hb d_O_writeCopies_12 (by decide) (fun c_12 => ?_) (fun c_12 => ?_)
      · have hi2 : i = nn 3 := Nat.le_antisymm hi (geC (eK 3 (by decide)) c_12 (by omega) (by omega))
        refine lv_iload hx hb d_O_writeCopies_56 (lv_at hl 4 rfl) ?_
        have er : ((some (.int (nI (ocF x y (nn 3) (vv, r)).2))) : Option Value) = some (.int (nI (ocF x y i (vv, r)).2)) := by rw [← hi2]
        have hPe : va_P (dC, dI) classes (wC aa cI cZ kn (ocF x y (nn 3) (vv, r)).1) H := by rw [← hi2]; exact hP
        exact W.iret (v := (nI (ocF x y i (vv, r)).2)) hx hb hr (fun t ht hW => ⟨by rw [er], by rw [ht]; exact hPe, hS.F ht⟩) hS.2.2 d_O_writeCopies_58
      · have hi2 : i < nn 3 := ltC (eK 3 (by decide)) c_12 (by omega) (by omega)
        refine lv_aload_n hx hb d_O_writeCopies_15 rfl (lv_at hl 0 rfl) ?_
        refine va_get (D := (dC, dI)) (ci := 2) (v := .ref (aa 15)) (C := R_O) (T := F_O) (N := 4) hx hb hts i_O hown hK hP 4 rfl rfl 0 (by decide) (hts _ fl_O_9) (fun _ h9 => h9) rfl d_O_writeCopies_16 ?_
        refine lv_iload hx hb d_O_writeCopies_19 (lv_at hl 5 rfl) ?_
        refine va_iald hx hb hK hP 15 0 rfl rfl (vp_in_nI (by omega) (by omega)) d_O_writeCopies_21 ?_
        rw [nI_clamp (show i < 2 ^ 31 by omega)]
        refine lv_iload_n hx hb d_O_writeCopies_22 rfl (lv_at hl 1 rfl) ?_
        refine lv_icmp_ne (tgt := 50) hx hb d_O_writeCopies_23 (by decide) (fun c_23 => ?_) (fun c_23 => ?_)
        · refine lv_iinc (v := (nI (i + 1))) (lv' := [(5, .int (nI (i + 1))), (0, .ref (aa 4)), (1, .int x), (2, .int y), (3, .int (nI r)), (4, .int (nI (ocF x y i (vv, r)).2))]) hx hb d_O_writeCopies_50 hl (k := 5) rfl (nI_1 _) (by decide) rfl (fun ls hl => ?_)
          refine lv_goto (tgt := 6) hx hb d_O_writeCopies_53 (by decide) ?_
          have eo := ocF_f (y := y) c_23
          rw [← eo] at hl hP
          exact ih_6 (i + 1) (by omega) (by omega) _ _ hP hS ls (lv_sub hl [1, 2, 3, 4, 5, 0] rfl)
        · have c_23 : (ocF x y i (vv, r)).1 9 i = x := by simpa using c_23
          have hr9 : (ocF x y i (vv, r)).2 < 60 := by
            have e1 := ocF_mono x y (vv, r) (i + 1) (nn 3 - (i + 1))
            rw [show i + 1 + (nn 3 - (i + 1)) = nn 3 by omega, ocF_t (y := y) c_23] at e1
            exact Nat.lt_of_lt_of_le (Nat.lt_succ_self _) (Nat.le_trans e1 hB)
          refine lv_aload_n hx hb d_O_writeCopies_26 rfl (lv_at hl 0 rfl) ?_
          refine lv_iload hx hb d_O_writeCopies_27 (lv_at hl 4 rfl) ?_
          refine lv_iload_n hx hb d_O_writeCopies_29 rfl (lv_at hl 2 rfl) ?_
          refine lv_aload_n hx hb d_O_writeCopies_30 rfl (lv_at hl 0 rfl) ?_
          refine va_get (D := (dC, dI)) (ci := 2) (v := .ref (aa 16)) (C := R_O) (T := F_O) (N := 4) hx hb hts i_O hown hK hP 4 rfl rfl 1 (by decide) (hts _ fl_O_15) (fun _ h9 => h9) rfl d_O_writeCopies_31 ?_
          refine lv_iload hx hb d_O_writeCopies_34 (lv_at hl 5 rfl) ?_
          refine va_iald hx hb hK hP 16 0 rfl rfl (vp_in_nI (by omega) (by omega)) d_O_writeCopies_36 ?_
          rw [nI_clamp (show i < 2 ^ 31 by omega)]
          refine lv_aload_n hx hb d_O_writeCopies_37 rfl (lv_at hl 0 rfl) ?_
          refine va_get (D := (dC, dI)) (ci := 2) (v := .ref (aa 17)) (C := R_O) (T := F_O) (N := 4) hx hb hts i_O hown hK hP 4 rfl rfl 2 (by decide) (hts _ fl_O_18) (fun _ h9 => h9) rfl d_O_writeCopies_38 ?_
          refine lv_iload hx hb d_O_writeCopies_41 (lv_at hl 5 rfl) ?_
          refine va_iald hx hb hK hP 17 0 rfl rfl (vp_in_nI (by omega) (by omega)) d_O_writeCopies_43 ?_
          rw [nI_clamp (show i < 2 ^ 31 by omega)]
          refine cW (W.runV (As := [.int (nI (ocF x y i (vv, r)).2), .int y, .int (((ocF x y i (vv, r)).1 10) i), .int (((ocF x y i (vv, r)).1 11) i)]) (rest := []) ⟨hx, hb, hml, hown, hts⟩ (c_O_write hP hdD hr9 y _ _) (cwV 4 hts (wB_goodV (fun _ h => h) ml_O_25 im_O_write se_O_write ini_O co_O_write) rfl rfl rfl (by decide +kernel) ⟨Nat.le_of_ble_eq_true rfl, Nat.le_of_ble_eq_true rfl⟩) (pV hK hP (ci := 2) (q0 := 4) rfl rfl _) rfl rfl hl.1 rfl (lv_room (Nat.le_of_ble_eq_true rfl)) d_O_writeCopies_44 ⟨Nat.zero_le _, Nat.zero_le _⟩) hS (fun _ h => h) (fun H locs hP hS _ _ => ?_)
          have hP : va_P (dC, dI) classes (wC aa cI cZ kn (owV (ocF x y i (vv, r)).1 ((ocF x y i (vv, r)).2) y (((ocF x y i (vv, r)).1 10) i) (((ocF x y i (vv, r)).1 11) i))) H := hP
          have hD : va_D (aN aa 22) (wC aa cI cZ kn (owV (ocF x y i (vv, r)).1 ((ocF x y i (vv, r)).2) y (((ocF x y i (vv, r)).1 10) i) (((ocF x y i (vv, r)).1 11) i))) := wC_D (dD_aN hdD)
          refine lv_iinc (v := (nI ((ocF x y i (vv, r)).2 + 1))) (lv' := [(4, .int (nI ((ocF x y i (vv, r)).2 + 1))), (0, .ref (aa 4)), (1, .int x), (2, .int y), (3, .int (nI r)), (5, .int (nI i))]) hx hb d_O_writeCopies_47 hl (k := 4) rfl (nI_1 _) (by decide) rfl (fun ls hl => ?_)
          refine lv_iinc (v := (nI (i + 1))) (lv' := [(5, .int (nI (i + 1))), (4, .int (nI ((ocF x y i (vv, r)).2 + 1))), (0, .ref (aa 4)), (1, .int x), (2, .int y), (3, .int (nI r))]) hx hb d_O_writeCopies_50 hl (k := 5) rfl (nI_1 _) (by decide) rfl (fun ls hl => ?_)
          refine lv_goto (tgt := 6) hx hb d_O_writeCopies_53 (by decide) ?_
          have eo := ocF_t (y := y) c_23
          rw [show (ocF x y i (vv, r)).2 + 1 = (ocF x y (i + 1) (vv, r)).2 by rw [eo]] at hl
          have hP : va_P (dC, dI) classes (wC aa cI cZ kn (ocF x y (i + 1) (vv, r)).1) H := by rw [eo]; exact hP
          exact ih_6 (i + 1) (by omega) (by omega) _ _ hP hS ls (lv_sub hl [2, 3, 4, 5, 1, 0] rfl)
  exact loop_6 (nn 3 + 1) 0 (by omega) (by omega) _ _ hP hS ls (lv_sub hl [2, 3, 4, 5, 1, 0] rfl)
end
