section
variable {l : Launch} {dC : Nat → ClassId} {dI : Nat → Nat → Nat} {H : Heap} {aa : Nat → Nat} {cI cZ cJ : ClassId} {kn : Nat → Int32} {vv : Nat → Nat → Int32} {nn : Nat → Nat} {AX : Nat → Prop}
set_option maxRecDepth 100000 in
set_option maxHeartbeats 4000000 in
theorem c_C_step_0 (hP : va_P (dC, dI) classes (wC aa cI cZ kn vv) H) (hdD : dD noT aa 22) {q : Nat} (hq : q < 200) (x : Int32) (ek : vv 12 q = 0)  : Met l y_C_step (wB y_C_step b_C_step 6 none) ({ frames := 1, cells := 0, slots := 0, locals := 24 } : Room) (rP [.ref (aa 0), .int (nI q), .int x] H (kK dC dI cI cZ cJ)) (qW none (aN aa 22) (fun H1 => va_P (dC, dI) classes (wC aa cI cZ (va_up kn 0 (kn 0 + x)) vv) H1)) 0 0 (aN aa 22) := by
  refine Met.ofW (cc := b_C_step) (maxL := 6) (ret := none) (by decide) rfl ?_
  intro p e s m args below meth c s₁ B hml hv
  obtain ⟨rfl, rfl, hK⟩ := hv
  have hx := B.exec
  have hb := B.bytes
  have hr := B.returns
  have hts0 := atoms_spec (ws := (wB y_C_step b_C_step 6 none)) B.pre
  have hts : ∀ w9 ∈ BG, w9.before [.ref (aa 0), .int (nI q), .int x].toArray s = true := fun w9 hw9 => hts0 w9 (List.mem_cons_of_mem _ hw9)
  have hown : s.vm.findClass R_C = some m.cls := findClass_of_methodNamed B.named
  have hlocks := B.notSynchronized
  have hK : va_K (dC, dI) classes [(cI, .int), (cZ, .boolean), (cJ, .long)] s := hK
  have hD : va_D (aN aa 22) (wC aa cI cZ kn vv) := wC_D (dD_aN hdD)
  have hS : va_S (aN aa 22) s.heap s.heap [] := va_S.rf
  have hl := lv_entry ([.ref (aa 0), .int (nI q), .int x]) (n := 6) (Nat.le_of_ble_eq_true rfl)
  rw [lg_entry_eq]
  generalize (lg_sl ([.ref (aa 0), .int (nI q), .int x]) ++ List.replicate (6 - (lg_sl ([.ref (aa 0), .int (nI q), .int x])).length) Slot.unset).toArray = ls at hl ⊢
  have hl : lv_has ls 6 [(0, .ref (aa 0)), (1, .int (nI q)), (2, .int x)] := hl
  refine lv_aload_n hx hb d_C_step_0 rfl (lv_at hl 0 rfl) ?_
  refine va_get (D := (dC, dI)) (ci := 0) (v := .ref (aa 5)) (C := R_C) (T := F_C) (N := 5) hx hb hts i_C hown hK hP 0 rfl rfl 4 (by decide) (hts _ fl_C_40) (fun _ h9 => h9) rfl d_C_step_1 ?_
  refine va_get (D := (dC, dI)) (ci := 1) (v := .ref (aa 19)) (C := R_H) (T := F_H) (N := 6) hx hb hts i_H hown hK hP 5 rfl rfl 1 (by decide) (hts _ fl_C_252) (fun _ h9 => h9) rfl d_C_step_4 ?_
  refine lv_iload_n hx hb d_C_step_7 rfl (lv_at hl 1 rfl) ?_
  refine va_iald hx hb hK hP 19 0 rfl rfl (vp_in_nI (by omega) (by omega)) d_C_step_8 ?_
  rw [nI_clamp (show q < 2 ^ 31 by omega)]
  refine lv_istore_n (lv' := [(3, .int ((vv 13) q)), (0, .ref (aa 0)), (1, .int (nI q)), (2, .int x)]) hx hb d_C_step_9 rfl hl (by decide) rfl (fun ls hl => ?_)
  refine lv_aload_n hx hb d_C_step_10 rfl (lv_at hl 1 rfl) ?_
  refine va_get (D := (dC, dI)) (ci := 0) (v := .ref (aa 5)) (C := R_C) (T := F_C) (N := 5) hx hb hts i_C hown hK hP 0 rfl rfl 4 (by decide) (hts _ fl_C_40) (fun _ h9 => h9) rfl d_C_step_11 ?_
  refine va_get (D := (dC, dI)) (ci := 1) (v := .ref (aa 20)) (C := R_H) (T := F_H) (N := 6) hx hb hts i_H hown hK hP 5 rfl rfl 2 (by decide) (hts _ fl_C_255) (fun _ h9 => h9) rfl d_C_step_14 ?_
  refine lv_iload_n hx hb d_C_step_17 rfl (lv_at hl 2 rfl) ?_
  refine va_iald hx hb hK hP 20 0 rfl rfl (vp_in_nI (by omega) (by omega)) d_C_step_18 ?_
  rw [nI_clamp (show q < 2 ^ 31 by omega)]
  refine lv_istore (lv' := [(4, .int ((vv 14) q)), (3, .int ((vv 13) q)), (0, .ref (aa 0)), (1, .int (nI q)), (2, .int x)]) hx hb d_C_step_19 hl (by decide) rfl (fun ls hl => ?_)
  refine lv_aload_n hx hb d_C_step_21 rfl (lv_at hl 2 rfl) ?_
  refine va_get (D := (dC, dI)) (ci := 0) (v := .ref (aa 5)) (C := R_C) (T := F_C) (N := 5) hx hb hts i_C hown hK hP 0 rfl rfl 4 (by decide) (hts _ fl_C_40) (fun _ h9 => h9) rfl d_C_step_22 ?_
  refine va_get (D := (dC, dI)) (ci := 1) (v := .ref (aa 21)) (C := R_H) (T := F_H) (N := 6) hx hb hts i_H hown hK hP 5 rfl rfl 3 (by decide) (hts _ fl_C_258) (fun _ h9 => h9) rfl d_C_step_25 ?_
  refine lv_iload_n hx hb d_C_step_28 rfl (lv_at hl 3 rfl) ?_
  refine va_iald hx hb hK hP 21 0 rfl rfl (vp_in_nI (by omega) (by omega)) d_C_step_29 ?_
  rw [nI_clamp (show q < 2 ^ 31 by omega)]
  refine lv_istore (lv' := [(5, .int ((vv 15) q)), (4, .int ((vv 14) q)), (3, .int ((vv 13) q)), (0, .ref (aa 0)), (1, .int (nI q)), (2, .int x)]) hx hb d_C_step_30 hl (by decide) rfl (fun ls hl => ?_)
  refine lv_aload_n hx hb d_C_step_32 rfl (lv_at hl 3 rfl) ?_
  refine va_get (D := (dC, dI)) (ci := 0) (v := .ref (aa 5)) (C := R_C) (T := F_C) (N := 5) hx hb hts i_C hown hK hP 0 rfl rfl 4 (by decide) (hts _ fl_C_40) (fun _ h9 => h9) rfl d_C_step_33 ?_
  refine va_get (D := (dC, dI)) (ci := 1) (v := .ref (aa 18)) (C := R_H) (T := F_H) (N := 6) hx hb hts i_H hown hK hP 5 rfl rfl 0 (by decide) (hts _ fl_C_261) (fun _ h9 => h9) rfl d_C_step_36 ?_
  refine lv_iload_n hx hb d_C_step_39 rfl (lv_at hl 4 rfl) ?_
  refine va_iald hx hb hK hP 18 0 rfl rfl (vp_in_nI (by omega) (by omega)) d_C_step_40 ?_
  rw [nI_clamp (show q < 2 ^ 31 by omega)]
  refine lv_tableIn (off := 47) (tgt := 88) hx hb d_C_step_41 (by rw [ek]; decide) (by rw [ek]; decide) (by rw [ek]; decide) (by decide) ?_
  refine lv_aload_n hx hb d_C_step_88 rfl (lv_at hl 3 rfl) ?_
  refine va_get (D := (dC, dI)) (ci := 0) (v := .ref (aa 1)) (C := R_C) (T := F_C) (N := 5) hx hb hts i_C hown hK hP 0 rfl rfl 0 (by decide) (hts _ fl_C_10) (fun _ h9 => h9) rfl d_C_step_89 ?_
  refine lv_dup hx hb d_C_step_92 rfl ?_
  refine va_get (D := (dC, dI)) (ci := 3) (v := .int (kn 0)) (C := R_S) (T := F_S) (N := 2) hx hb hts i_S hown hK hP 1 rfl rfl 1 (by decide) (hts _ fl_C_44) (fun _ h9 => h9) rfl d_C_step_93 ?_
  refine lv_iload_n hx hb d_C_step_96 rfl (lv_at hl 5 rfl) ?_
  refine lv_iadd hx hb d_C_step_97 ?_
  refine va_put (D := (dC, dI)) (ci := 3) (v := .int ((kn 0) + x)) (ty := .int) (C := R_S) (T := F_S) (N := 2) hx hb hts i_S ty_S tok_S n_S hown hK hP hD hS 1 rfl rfl 1 (by decide) (hts _ fl_C_44) (fun _ h9 => h9) rfl (by decide +kernel) rfl rfl (Nat.le_of_ble_eq_true rfl) d_C_step_98 (fun H locs hP hD hS => ?_)
  have hP : va_P (dC, dI) classes (wC aa cI cZ (va_up kn 0 ((kn 0) + x)) vv) H := hP
  have hD : va_D (aN aa 22) (wC aa cI cZ (va_up kn 0 ((kn 0) + x)) vv) := hD
  refine lv_goto (tgt := 221) hx hb d_C_step_101 (by decide) ?_
  have er : (none : Option Value) = none := by rfl
  have hPe : va_P (dC, dI) classes (wC aa cI cZ (va_up kn 0 (kn 0 + x)) vv) H := by exact hP
  exact W.vret hx hb hr (fun t ht hW => ⟨by rw [er], by rw [ht]; exact hPe, hS.F ht⟩) hS.2.2 d_C_step_221
set_option maxRecDepth 100000 in
set_option maxHeartbeats 4000000 in
theorem c_C_step_1 (hP : va_P (dC, dI) classes (wC aa cI cZ kn vv) H) (hdD : dD noT aa 22) {q : Nat} (hq : q < 200) (x : Int32) (ek : vv 12 q = 1)  : Met l y_C_step (wB y_C_step b_C_step 6 none) ({ frames := 1, cells := 0, slots := 0, locals := 24 } : Room) (rP [.ref (aa 0), .int (nI q), .int x] H (kK dC dI cI cZ cJ)) (qW none (aN aa 22) (fun H1 => va_P (dC, dI) classes (wC aa cI cZ (va_up kn 1 (kn 1 + x)) vv) H1)) 0 0 (aN aa 22) := by
  refine Met.ofW (cc := b_C_step) (maxL := 6) (ret := none) (by decide) rfl ?_
  intro p e s m args below meth c s₁ B hml hv
  obtain ⟨rfl, rfl, hK⟩ := hv
  have hx := B.exec
  have hb := B.bytes
  have hr := B.returns
  have hts0 := atoms_spec (ws := (wB y_C_step b_C_step 6 none)) B.pre
  have hts : ∀ w9 ∈ BG, w9.before [.ref (aa 0), .int (nI q), .int x].toArray s = true := fun w9 hw9 => hts0 w9 (List.mem_cons_of_mem _ hw9)
  have hown : s.vm.findClass R_C = some m.cls := findClass_of_methodNamed B.named
  have hlocks := B.notSynchronized
  have hK : va_K (dC, dI) classes [(cI, .int), (cZ, .boolean), (cJ, .long)] s := hK
  have hD : va_D (aN aa 22) (wC aa cI cZ kn vv) := wC_D (dD_aN hdD)
  have hS : va_S (aN aa 22) s.heap s.heap [] := va_S.rf
  have hl := lv_entry ([.ref (aa 0), .int (nI q), .int x]) (n := 6) (Nat.le_of_ble_eq_true rfl)
  rw [lg_entry_eq]
  generalize (lg_sl ([.ref (aa 0), .int (nI q), .int x]) ++ List.replicate (6 - (lg_sl ([.ref (aa 0), .int (nI q), .int x])).length) Slot.unset).toArray = ls at hl ⊢
  have hl : lv_has ls 6 [(0, .ref (aa 0)), (1, .int (nI q)), (2, .int x)] := hl
  refine lv_aload_n hx hb d_C_step_0 rfl (lv_at hl 0 rfl) ?_
  refine va_get (D := (dC, dI)) (ci := 0) (v := .ref (aa 5)) (C := R_C) (T := F_C) (N := 5) hx hb hts i_C hown hK hP 0 rfl rfl 4 (by decide) (hts _ fl_C_40) (fun _ h9 => h9) rfl d_C_step_1 ?_
  refine va_get (D := (dC, dI)) (ci := 1) (v := .ref (aa 19)) (C := R_H) (T := F_H) (N := 6) hx hb hts i_H hown hK hP 5 rfl rfl 1 (by decide) (hts _ fl_C_252) (fun _ h9 => h9) rfl d_C_step_4 ?_
  refine lv_iload_n hx hb d_C_step_7 rfl (lv_at hl 1 rfl) ?_
  refine va_iald hx hb hK hP 19 0 rfl rfl (vp_in_nI (by omega) (by omega)) d_C_step_8 ?_
  rw [nI_clamp (show q < 2 ^ 31 by omega)]
  refine lv_istore_n (lv' := [(3, .int ((vv 13) q)), (0, .ref (aa 0)), (1, .int (nI q)), (2, .int x)]) hx hb d_C_step_9 rfl hl (by decide) rfl (fun ls hl => ?_)
  refine lv_aload_n hx hb d_C_step_10 rfl (lv_at hl 1 rfl) ?_
  refine va_get (D := (dC, dI)) (ci := 0) (v := .ref (aa 5)) (C := R_C) (T := F_C) (N := 5) hx hb hts i_C hown hK hP 0 rfl rfl 4 (by decide) (hts _ fl_C_40) (fun _ h9 => h9) rfl d_C_step_11 ?_
  refine va_get (D := (dC, dI)) (ci := 1) (v := .ref (aa 20)) (C := R_H) (T := F_H) (N := 6) hx hb hts i_H hown hK hP 5 rfl rfl 2 (by decide) (hts _ fl_C_255) (fun _ h9 => h9) rfl d_C_step_14 ?_
  refine lv_iload_n hx hb d_C_step_17 rfl (lv_at hl 2 rfl) ?_
  refine va_iald hx hb hK hP 20 0 rfl rfl (vp_in_nI (by omega) (by omega)) d_C_step_18 ?_
  rw [nI_clamp (show q < 2 ^ 31 by omega)]
  refine lv_istore (lv' := [(4, .int ((vv 14) q)), (3, .int ((vv 13) q)), (0, .ref (aa 0)), (1, .int (nI q)), (2, .int x)]) hx hb d_C_step_19 hl (by decide) rfl (fun ls hl => ?_)
  refine lv_aload_n hx hb d_C_step_21 rfl (lv_at hl 2 rfl) ?_
  refine va_get (D := (dC, dI)) (ci := 0) (v := .ref (aa 5)) (C := R_C) (T := F_C) (N := 5) hx hb hts i_C hown hK hP 0 rfl rfl 4 (by decide) (hts _ fl_C_40) (fun _ h9 => h9) rfl d_C_step_22 ?_
  refine va_get (D := (dC, dI)) (ci := 1) (v := .ref (aa 21)) (C := R_H) (T := F_H) (N := 6) hx hb hts i_H hown hK hP 5 rfl rfl 3 (by decide) (hts _ fl_C_258) (fun _ h9 => h9) rfl d_C_step_25 ?_
  refine lv_iload_n hx hb d_C_step_28 rfl (lv_at hl 3 rfl) ?_
  refine va_iald hx hb hK hP 21 0 rfl rfl (vp_in_nI (by omega) (by omega)) d_C_step_29 ?_
  rw [nI_clamp (show q < 2 ^ 31 by omega)]
  refine lv_istore (lv' := [(5, .int ((vv 15) q)), (4, .int ((vv 14) q)), (3, .int ((vv 13) q)), (0, .ref (aa 0)), (1, .int (nI q)), (2, .int x)]) hx hb d_C_step_30 hl (by decide) rfl (fun ls hl => ?_)
  refine lv_aload_n hx hb d_C_step_32 rfl (lv_at hl 3 rfl) ?_
  refine va_get (D := (dC, dI)) (ci := 0) (v := .ref (aa 5)) (C := R_C) (T := F_C) (N := 5) hx hb hts i_C hown hK hP 0 rfl rfl 4 (by decide) (hts _ fl_C_40) (fun _ h9 => h9) rfl d_C_step_33 ?_
  refine va_get (D := (dC, dI)) (ci := 1) (v := .ref (aa 18)) (C := R_H) (T := F_H) (N := 6) hx hb hts i_H hown hK hP 5 rfl rfl 0 (by decide) (hts _ fl_C_261) (fun _ h9 => h9) rfl d_C_step_36 ?_
  refine lv_iload_n hx hb d_C_step_39 rfl (lv_at hl 4 rfl) ?_
  refine va_iald hx hb hK hP 18 0 rfl rfl (vp_in_nI (by omega) (by omega)) d_C_step_40 ?_
  rw [nI_clamp (show q < 2 ^ 31 by omega)]
  refine lv_tableIn (off := 63) (tgt := 104) hx hb d_C_step_41 (by rw [ek]; decide) (by rw [ek]; decide) (by rw [ek]; decide) (by decide) ?_
  refine lv_aload_n hx hb d_C_step_104 rfl (lv_at hl 3 rfl) ?_
  refine va_get (D := (dC, dI)) (ci := 0) (v := .ref (aa 2)) (C := R_C) (T := F_C) (N := 5) hx hb hts i_C hown hK hP 0 rfl rfl 1 (by decide) (hts _ fl_C_19) (fun _ h9 => h9) rfl d_C_step_105 ?_
  refine lv_dup hx hb d_C_step_108 rfl ?_
  refine va_get (D := (dC, dI)) (ci := 4) (v := .int (kn 1)) (C := R_T) (T := F_T) (N := 2) hx hb hts i_T hown hK hP 2 rfl rfl 1 (by decide) (hts _ fl_C_74) (fun _ h9 => h9) rfl d_C_step_109 ?_
  refine lv_iload_n hx hb d_C_step_112 rfl (lv_at hl 5 rfl) ?_
  refine lv_iadd hx hb d_C_step_113 ?_
  refine va_put (D := (dC, dI)) (ci := 4) (v := .int ((kn 1) + x)) (ty := .int) (C := R_T) (T := F_T) (N := 2) hx hb hts i_T ty_T tok_T n_T hown hK hP hD hS 2 rfl rfl 1 (by decide) (hts _ fl_C_74) (fun _ h9 => h9) rfl (by decide +kernel) rfl rfl (Nat.le_of_ble_eq_true rfl) d_C_step_114 (fun H locs hP hD hS => ?_)
  have hP : va_P (dC, dI) classes (wC aa cI cZ (va_up kn 1 ((kn 1) + x)) vv) H := hP
  have hD : va_D (aN aa 22) (wC aa cI cZ (va_up kn 1 ((kn 1) + x)) vv) := hD
  refine lv_goto (tgt := 221) hx hb d_C_step_117 (by decide) ?_
  have er : (none : Option Value) = none := by rfl
  have hPe : va_P (dC, dI) classes (wC aa cI cZ (va_up kn 1 (kn 1 + x)) vv) H := by exact hP
  exact W.vret hx hb hr (fun t ht hW => ⟨by rw [er], by rw [ht]; exact hPe, hS.F ht⟩) hS.2.2 d_C_step_221
set_option maxRecDepth 100000 in
set_option maxHeartbeats 4000000 in
theorem c_C_step_2 (hP : va_P (dC, dI) classes (wC aa cI cZ kn vv) H) (hdD : dD noT aa 22) {q : Nat} (hq : q < 200) (x : Int32) (ek : vv 12 q = 2)  : Met l y_C_step (wB y_C_step b_C_step 6 none) ({ frames := 1, cells := 0, slots := 0, locals := 24 } : Room) (rP [.ref (aa 0), .int (nI q), .int x] H (kK dC dI cI cZ cJ)) (qW none (aN aa 22) (fun H1 => va_P (dC, dI) classes (wC aa cI cZ (va_up (va_up kn 2 (kn 2 + x * vv 14 q)) 3 (kn 3 + x * vv 15 q)) vv) H1)) 0 0 (aN aa 22) := by
  refine Met.ofW (cc := b_C_step) (maxL := 6) (ret := none) (by decide) rfl ?_
  intro p e s m args below meth c s₁ B hml hv
  obtain ⟨rfl, rfl, hK⟩ := hv
  have hx := B.exec
  have hb := B.bytes
  have hr := B.returns
  have hts0 := atoms_spec (ws := (wB y_C_step b_C_step 6 none)) B.pre
  have hts : ∀ w9 ∈ BG, w9.before [.ref (aa 0), .int (nI q), .int x].toArray s = true := fun w9 hw9 => hts0 w9 (List.mem_cons_of_mem _ hw9)
  have hown : s.vm.findClass R_C = some m.cls := findClass_of_methodNamed B.named
  have hlocks := B.notSynchronized
  have hK : va_K (dC, dI) classes [(cI, .int), (cZ, .boolean), (cJ, .long)] s := hK
  have hD : va_D (aN aa 22) (wC aa cI cZ kn vv) := wC_D (dD_aN hdD)
  have hS : va_S (aN aa 22) s.heap s.heap [] := va_S.rf
  have hl := lv_entry ([.ref (aa 0), .int (nI q), .int x]) (n := 6) (Nat.le_of_ble_eq_true rfl)
  rw [lg_entry_eq]
  generalize (lg_sl ([.ref (aa 0), .int (nI q), .int x]) ++ List.replicate (6 - (lg_sl ([.ref (aa 0), .int (nI q), .int x])).length) Slot.unset).toArray = ls at hl ⊢
  have hl : lv_has ls 6 [(0, .ref (aa 0)), (1, .int (nI q)), (2, .int x)] := hl
  refine lv_aload_n hx hb d_C_step_0 rfl (lv_at hl 0 rfl) ?_
  refine va_get (D := (dC, dI)) (ci := 0) (v := .ref (aa 5)) (C := R_C) (T := F_C) (N := 5) hx hb hts i_C hown hK hP 0 rfl rfl 4 (by decide) (hts _ fl_C_40) (fun _ h9 => h9) rfl d_C_step_1 ?_
  refine va_get (D := (dC, dI)) (ci := 1) (v := .ref (aa 19)) (C := R_H) (T := F_H) (N := 6) hx hb hts i_H hown hK hP 5 rfl rfl 1 (by decide) (hts _ fl_C_252) (fun _ h9 => h9) rfl d_C_step_4 ?_
  refine lv_iload_n hx hb d_C_step_7 rfl (lv_at hl 1 rfl) ?_
  refine va_iald hx hb hK hP 19 0 rfl rfl (vp_in_nI (by omega) (by omega)) d_C_step_8 ?_
  rw [nI_clamp (show q < 2 ^ 31 by omega)]
  refine lv_istore_n (lv' := [(3, .int ((vv 13) q)), (0, .ref (aa 0)), (1, .int (nI q)), (2, .int x)]) hx hb d_C_step_9 rfl hl (by decide) rfl (fun ls hl => ?_)
  refine lv_aload_n hx hb d_C_step_10 rfl (lv_at hl 1 rfl) ?_
  refine va_get (D := (dC, dI)) (ci := 0) (v := .ref (aa 5)) (C := R_C) (T := F_C) (N := 5) hx hb hts i_C hown hK hP 0 rfl rfl 4 (by decide) (hts _ fl_C_40) (fun _ h9 => h9) rfl d_C_step_11 ?_
  refine va_get (D := (dC, dI)) (ci := 1) (v := .ref (aa 20)) (C := R_H) (T := F_H) (N := 6) hx hb hts i_H hown hK hP 5 rfl rfl 2 (by decide) (hts _ fl_C_255) (fun _ h9 => h9) rfl d_C_step_14 ?_
  refine lv_iload_n hx hb d_C_step_17 rfl (lv_at hl 2 rfl) ?_
  refine va_iald hx hb hK hP 20 0 rfl rfl (vp_in_nI (by omega) (by omega)) d_C_step_18 ?_
  rw [nI_clamp (show q < 2 ^ 31 by omega)]
  refine lv_istore (lv' := [(4, .int ((vv 14) q)), (3, .int ((vv 13) q)), (0, .ref (aa 0)), (1, .int (nI q)), (2, .int x)]) hx hb d_C_step_19 hl (by decide) rfl (fun ls hl => ?_)
  refine lv_aload_n hx hb d_C_step_21 rfl (lv_at hl 2 rfl) ?_
  refine va_get (D := (dC, dI)) (ci := 0) (v := .ref (aa 5)) (C := R_C) (T := F_C) (N := 5) hx hb hts i_C hown hK hP 0 rfl rfl 4 (by decide) (hts _ fl_C_40) (fun _ h9 => h9) rfl d_C_step_22 ?_
  refine va_get (D := (dC, dI)) (ci := 1) (v := .ref (aa 21)) (C := R_H) (T := F_H) (N := 6) hx hb hts i_H hown hK hP 5 rfl rfl 3 (by decide) (hts _ fl_C_258) (fun _ h9 => h9) rfl d_C_step_25 ?_
  refine lv_iload_n hx hb d_C_step_28 rfl (lv_at hl 3 rfl) ?_
  refine va_iald hx hb hK hP 21 0 rfl rfl (vp_in_nI (by omega) (by omega)) d_C_step_29 ?_
  rw [nI_clamp (show q < 2 ^ 31 by omega)]
  refine lv_istore (lv' := [(5, .int ((vv 15) q)), (4, .int ((vv 14) q)), (3, .int ((vv 13) q)), (0, .ref (aa 0)), (1, .int (nI q)), (2, .int x)]) hx hb d_C_step_30 hl (by decide) rfl (fun ls hl => ?_)
  refine lv_aload_n hx hb d_C_step_32 rfl (lv_at hl 3 rfl) ?_
  refine va_get (D := (dC, dI)) (ci := 0) (v := .ref (aa 5)) (C := R_C) (T := F_C) (N := 5) hx hb hts i_C hown hK hP 0 rfl rfl 4 (by decide) (hts _ fl_C_40) (fun _ h9 => h9) rfl d_C_step_33 ?_
  refine va_get (D := (dC, dI)) (ci := 1) (v := .ref (aa 18)) (C := R_H) (T := F_H) (N := 6) hx hb hts i_H hown hK hP 5 rfl rfl 0 (by decide) (hts _ fl_C_261) (fun _ h9 => h9) rfl d_C_step_36 ?_
  refine lv_iload_n hx hb d_C_step_39 rfl (lv_at hl 4 rfl) ?_
  refine va_iald hx hb hK hP 18 0 rfl rfl (vp_in_nI (by omega) (by omega)) d_C_step_40 ?_
  rw [nI_clamp (show q < 2 ^ 31 by omega)]
  refine lv_tableIn (off := 79) (tgt := 120) hx hb d_C_step_41 (by rw [ek]; decide) (by rw [ek]; decide) (by rw [ek]; decide) (by decide) ?_
  refine lv_aload_n hx hb d_C_step_120 rfl (lv_at hl 3 rfl) ?_
  refine va_get (D := (dC, dI)) (ci := 0) (v := .ref (aa 3)) (C := R_C) (T := F_C) (N := 5) hx hb hts i_C hown hK hP 0 rfl rfl 2 (by decide) (hts _ fl_C_26) (fun _ h9 => h9) rfl d_C_step_121 ?_
  refine lv_dup hx hb d_C_step_124 rfl ?_
  refine va_get (D := (dC, dI)) (ci := 5) (v := .int (kn 2)) (C := R_W) (T := F_W) (N := 8) hx hb hts i_W hown hK hP 3 rfl rfl 7 (by decide) (hts _ fl_C_95) (fun _ h9 => h9) rfl d_C_step_125 ?_
  refine lv_iload_n hx hb d_C_step_128 rfl (lv_at hl 5 rfl) ?_
  refine lv_iload hx hb d_C_step_129 (lv_at hl 1 rfl) ?_
  refine lv_imul hx hb d_C_step_131 ?_
  refine lv_iadd hx hb d_C_step_132 ?_
  refine va_put (D := (dC, dI)) (ci := 5) (v := .int ((kn 2) + (x * ((vv 14) q)))) (ty := .int) (C := R_W) (T := F_W) (N := 8) hx hb hts i_W ty_W tok_W n_W hown hK hP hD hS 3 rfl rfl 7 (by decide) (hts _ fl_C_95) (fun _ h9 => h9) rfl (by decide +kernel) rfl rfl (Nat.le_of_ble_eq_true rfl) d_C_step_133 (fun H locs hP hD hS => ?_)
  have hP : va_P (dC, dI) classes (wC aa cI cZ (va_up kn 2 ((kn 2) + (x * ((vv 14) q)))) vv) H := hP
  have hD : va_D (aN aa 22) (wC aa cI cZ (va_up kn 2 ((kn 2) + (x * ((vv 14) q)))) vv) := hD
  refine lv_aload_n hx hb d_C_step_136 rfl (lv_at hl 3 rfl) ?_
  refine va_get (D := (dC, dI)) (ci := 0) (v := .ref (aa 4)) (C := R_C) (T := F_C) (N := 5) hx hb hts i_C hown hK hP 0 rfl rfl 3 (by decide) (hts _ fl_C_33) (fun _ h9 => h9) rfl d_C_step_137 ?_
  refine lv_dup hx hb d_C_step_140 rfl ?_
  refine va_get (D := (dC, dI)) (ci := 2) (v := .int (kn 3)) (C := R_O) (T := F_O) (N := 4) hx hb hts i_O hown hK hP 4 rfl rfl 3 (by decide) (hts _ fl_C_123) (fun _ h9 => h9) rfl d_C_step_141 ?_
  refine lv_iload_n hx hb d_C_step_144 rfl (lv_at hl 5 rfl) ?_
  refine lv_iload hx hb d_C_step_145 (lv_at hl 0 rfl) ?_
  refine lv_imul hx hb d_C_step_147 ?_
  refine lv_iadd hx hb d_C_step_148 ?_
  refine va_put (D := (dC, dI)) (ci := 2) (v := .int ((kn 3) + (x * ((vv 15) q)))) (ty := .int) (C := R_O) (T := F_O) (N := 4) hx hb hts i_O ty_O tok_O n_O hown hK hP hD hS 4 rfl rfl 3 (by decide) (hts _ fl_C_123) (fun _ h9 => h9) rfl (by decide +kernel) rfl rfl (Nat.le_of_ble_eq_true rfl) d_C_step_149 (fun H locs hP hD hS => ?_)
  have hP : va_P (dC, dI) classes (wC aa cI cZ (va_up (va_up kn 2 ((kn 2) + (x * ((vv 14) q)))) 3 ((kn 3) + (x * ((vv 15) q)))) vv) H := hP
  have hD : va_D (aN aa 22) (wC aa cI cZ (va_up (va_up kn 2 ((kn 2) + (x * ((vv 14) q)))) 3 ((kn 3) + (x * ((vv 15) q)))) vv) := hD
  refine lv_goto (tgt := 221) hx hb d_C_step_152 (by decide) ?_
  have er : (none : Option Value) = none := by rfl
  have hPe : va_P (dC, dI) classes (wC aa cI cZ (va_up (va_up kn 2 (kn 2 + x * vv 14 q)) 3 (kn 3 + x * vv 15 q)) vv) H := by exact hP
  exact W.vret hx hb hr (fun t ht hW => ⟨by rw [er], by rw [ht]; exact hPe, hS.F ht⟩) hS.2.2 d_C_step_221
set_option maxRecDepth 100000 in
set_option maxHeartbeats 4000000 in
theorem c_C_step_3 (hP : va_P (dC, dI) classes (wC aa cI cZ kn vv) H) (hdD : dD noT aa 22) {q : Nat} (hq : q < 200) (x : Int32) (ek : vv 12 q = 3) {t : Nat} (et : vv 13 q = nI t) (ht : t < 6) : Met l y_C_step (wB y_C_step b_C_step 6 none) ({ frames := 1, cells := 0, slots := 0, locals := 24 } : Room) (rP [.ref (aa 0), .int (nI q), .int x] H (kK dC dI cI cZ cJ)) (qW none (aN aa 22) (fun H1 => va_P (dC, dI) classes (wC aa cI cZ kn (u1 (exV vv 3 t (vv 14 q)) 14 q (exR vv 3 t))) H1)) 0 0 (aN aa 22) := by
  refine Met.ofW (cc := b_C_step) (maxL := 6) (ret := none) (by decide) rfl ?_
  intro p e s m args below meth c s₁ B hml hv
  obtain ⟨rfl, rfl, hK⟩ := hv
  have hx := B.exec
  have hb := B.bytes
  have hr := B.returns
  have hts0 := atoms_spec (ws := (wB y_C_step b_C_step 6 none)) B.pre
  have hts : ∀ w9 ∈ BG, w9.before [.ref (aa 0), .int (nI q), .int x].toArray s = true := fun w9 hw9 => hts0 w9 (List.mem_cons_of_mem _ hw9)
  have hown : s.vm.findClass R_C = some m.cls := findClass_of_methodNamed B.named
  have hlocks := B.notSynchronized
  have hK : va_K (dC, dI) classes [(cI, .int), (cZ, .boolean), (cJ, .long)] s := hK
  have hD : va_D (aN aa 22) (wC aa cI cZ kn vv) := wC_D (dD_aN hdD)
  have hS : va_S (aN aa 22) s.heap s.heap [] := va_S.rf
  have hl := lv_entry ([.ref (aa 0), .int (nI q), .int x]) (n := 6) (Nat.le_of_ble_eq_true rfl)
  rw [lg_entry_eq]
  generalize (lg_sl ([.ref (aa 0), .int (nI q), .int x]) ++ List.replicate (6 - (lg_sl ([.ref (aa 0), .int (nI q), .int x])).length) Slot.unset).toArray = ls at hl ⊢
  have hl : lv_has ls 6 [(0, .ref (aa 0)), (1, .int (nI q)), (2, .int x)] := hl
  refine lv_aload_n hx hb d_C_step_0 rfl (lv_at hl 0 rfl) ?_
  refine va_get (D := (dC, dI)) (ci := 0) (v := .ref (aa 5)) (C := R_C) (T := F_C) (N := 5) hx hb hts i_C hown hK hP 0 rfl rfl 4 (by decide) (hts _ fl_C_40) (fun _ h9 => h9) rfl d_C_step_1 ?_
  refine va_get (D := (dC, dI)) (ci := 1) (v := .ref (aa 19)) (C := R_H) (T := F_H) (N := 6) hx hb hts i_H hown hK hP 5 rfl rfl 1 (by decide) (hts _ fl_C_252) (fun _ h9 => h9) rfl d_C_step_4 ?_
  refine lv_iload_n hx hb d_C_step_7 rfl (lv_at hl 1 rfl) ?_
  refine va_iald hx hb hK hP 19 0 rfl rfl (vp_in_nI (by omega) (by omega)) d_C_step_8 ?_
  rw [nI_clamp (show q < 2 ^ 31 by omega)]
  rw [et]
  refine lv_istore_n (lv' := [(3, .int (nI t)), (0, .ref (aa 0)), (1, .int (nI q)), (2, .int x)]) hx hb d_C_step_9 rfl hl (by decide) rfl (fun ls hl => ?_)
  refine lv_aload_n hx hb d_C_step_10 rfl (lv_at hl 1 rfl) ?_
  refine va_get (D := (dC, dI)) (ci := 0) (v := .ref (aa 5)) (C := R_C) (T := F_C) (N := 5) hx hb hts i_C hown hK hP 0 rfl rfl 4 (by decide) (hts _ fl_C_40) (fun _ h9 => h9) rfl d_C_step_11 ?_
  refine va_get (D := (dC, dI)) (ci := 1) (v := .ref (aa 20)) (C := R_H) (T := F_H) (N := 6) hx hb hts i_H hown hK hP 5 rfl rfl 2 (by decide) (hts _ fl_C_255) (fun _ h9 => h9) rfl d_C_step_14 ?_
  refine lv_iload_n hx hb d_C_step_17 rfl (lv_at hl 2 rfl) ?_
  refine va_iald hx hb hK hP 20 0 rfl rfl (vp_in_nI (by omega) (by omega)) d_C_step_18 ?_
  rw [nI_clamp (show q < 2 ^ 31 by omega)]
  refine lv_istore (lv' := [(4, .int ((vv 14) q)), (3, .int (nI t)), (0, .ref (aa 0)), (1, .int (nI q)), (2, .int x)]) hx hb d_C_step_19 hl (by decide) rfl (fun ls hl => ?_)
  refine lv_aload_n hx hb d_C_step_21 rfl (lv_at hl 2 rfl) ?_
  refine va_get (D := (dC, dI)) (ci := 0) (v := .ref (aa 5)) (C := R_C) (T := F_C) (N := 5) hx hb hts i_C hown hK hP 0 rfl rfl 4 (by decide) (hts _ fl_C_40) (fun _ h9 => h9) rfl d_C_step_22 ?_
  refine va_get (D := (dC, dI)) (ci := 1) (v := .ref (aa 21)) (C := R_H) (T := F_H) (N := 6) hx hb hts i_H hown hK hP 5 rfl rfl 3 (by decide) (hts _ fl_C_258) (fun _ h9 => h9) rfl d_C_step_25 ?_
  refine lv_iload_n hx hb d_C_step_28 rfl (lv_at hl 3 rfl) ?_
  refine va_iald hx hb hK hP 21 0 rfl rfl (vp_in_nI (by omega) (by omega)) d_C_step_29 ?_
  rw [nI_clamp (show q < 2 ^ 31 by omega)]
  refine lv_istore (lv' := [(5, .int ((vv 15) q)), (4, .int ((vv 14) q)), (3, .int (nI t)), (0, .ref (aa 0)), (1, .int (nI q)), (2, .int x)]) hx hb d_C_step_30 hl (by decide) rfl (fun ls hl => ?_)
  refine lv_aload_n hx hb d_C_step_32 rfl (lv_at hl 3 rfl) ?_
  refine va_get (D := (dC, dI)) (ci := 0) (v := .ref (aa 5)) (C := R_C) (T := F_C) (N := 5) hx hb hts i_C hown hK hP 0 rfl rfl 4 (by decide) (hts _ fl_C_40) (fun _ h9 => h9) rfl d_C_step_33 ?_
  refine va_get (D := (dC, dI)) (ci := 1) (v := .ref (aa 18)) (C := R_H) (T := F_H) (N := 6) hx hb hts i_H hown hK hP 5 rfl rfl 0 (by decide) (hts _ fl_C_261) (fun _ h9 => h9) rfl d_C_step_36 ?_
  refine lv_iload_n hx hb d_C_step_39 rfl (lv_at hl 4 rfl) ?_
  refine va_iald hx hb hK hP 18 0 rfl rfl (vp_in_nI (by omega) (by omega)) d_C_step_40 ?_
  rw [nI_clamp (show q < 2 ^ 31 by omega)]
  refine lv_tableIn (off := 155) (tgt := 196) hx hb d_C_step_41 (by rw [ek]; decide) (by rw [ek]; decide) (by rw [ek]; decide) (by decide) ?_
  refine lv_aload_n hx hb d_C_step_196 rfl (lv_at hl 3 rfl) ?_
  refine va_get (D := (dC, dI)) (ci := 0) (v := .ref (aa 5)) (C := R_C) (T := F_C) (N := 5) hx hb hts i_C hown hK hP 0 rfl rfl 4 (by decide) (hts _ fl_C_40) (fun _ h9 => h9) rfl d_C_step_197 ?_
  refine va_get (D := (dC, dI)) (ci := 1) (v := .ref (aa 20)) (C := R_H) (T := F_H) (N := 6) hx hb hts i_H hown hK hP 5 rfl rfl 2 (by decide) (hts _ fl_C_255) (fun _ h9 => h9) rfl d_C_step_200 ?_
  refine lv_iload_n hx hb d_C_step_203 rfl (lv_at hl 4 rfl) ?_
  refine lv_aload_n hx hb d_C_step_204 rfl (lv_at hl 3 rfl) ?_
  refine lv_aload_n hx hb d_C_step_205 rfl (lv_at hl 3 rfl) ?_
  refine va_get (D := (dC, dI)) (ci := 0) (v := .ref (aa 5)) (C := R_C) (T := F_C) (N := 5) hx hb hts i_C hown hK hP 0 rfl rfl 4 (by decide) (hts _ fl_C_40) (fun _ h9 => h9) rfl d_C_step_206 ?_
  refine va_get (D := (dC, dI)) (ci := 1) (v := .ref (aa 18)) (C := R_H) (T := F_H) (N := 6) hx hb hts i_H hown hK hP 5 rfl rfl 0 (by decide) (hts _ fl_C_261) (fun _ h9 => h9) rfl d_C_step_209 ?_
  refine lv_iload_n hx hb d_C_step_212 rfl (lv_at hl 4 rfl) ?_
  refine va_iald hx hb hK hP 18 0 rfl rfl (vp_in_nI (by omega) (by omega)) d_C_step_213 ?_
  rw [nI_clamp (show q < 2 ^ 31 by omega)]
  rw [ek]
  refine lv_iload_n hx hb d_C_step_214 rfl (lv_at hl 2 rfl) ?_
  refine lv_iload hx hb d_C_step_215 (lv_at hl 1 rfl) ?_
  refine cW (W.runV (As := [.int 3, .int (nI t), .int ((vv 14) q)]) (rest := [.int (nI q), .ref (aa 20)]) ⟨hx, hb, hml, hown, hts⟩ (c_C_exchange hP hdD 3 _ (fun h => by first | exact ht | omega | exact absurd h (by decide)) (fun h => by first | exact ht | omega | exact absurd h (by decide)) (by omega)) (cwV 3 hts (wB_goodV (fun _ h => h) ml_C_272 im_C_exchange se_C_exchange ini_C co_C_exchange) rfl rfl rfl (by decide +kernel) ⟨Nat.le_of_ble_eq_true rfl, Nat.le_of_ble_eq_true rfl⟩) (pV hK hP (ci := 0) (q0 := 0) rfl rfl _) rfl rfl hl.1 rfl (lv_room (Nat.le_of_ble_eq_true rfl)) d_C_step_217 ⟨Nat.zero_le _, Nat.zero_le _⟩) hS (fun _ h => h) (fun H locs hP hS _ _ => ?_)
  have hP : va_P (dC, dI) classes (wC aa cI cZ kn (exV vv 3 t ((vv 14) q))) H := hP
  have hD : va_D (aN aa 22) (wC aa cI cZ kn (exV vv 3 t ((vv 14) q))) := wC_D (dD_aN hdD)
  refine va_iast hx hb hK hP hD hS 20 0 rfl rfl (vp_in_nI (by omega) (by omega)) d_C_step_220 (fun H locs hP hD hS => ?_)
  rw [nI_clamp (show q < 2 ^ 31 by omega)] at hP hD
  have hP : va_P (dC, dI) classes (wC aa cI cZ kn (va_up (exV vv 3 t ((vv 14) q)) 14 (upd ((exV vv 3 t ((vv 14) q)) 14) q (exR vv 3 t)))) H := hP
  have hD : va_D (aN aa 22) (wC aa cI cZ kn (va_up (exV vv 3 t ((vv 14) q)) 14 (upd ((exV vv 3 t ((vv 14) q)) 14) q (exR vv 3 t)))) := hD
  have er : (none : Option Value) = none := by rfl
  have hPe : va_P (dC, dI) classes (wC aa cI cZ kn (u1 (exV vv 3 t (vv 14 q)) 14 q (exR vv 3 t))) H := by exact hP
  exact W.vret hx hb hr (fun t ht hW => ⟨by rw [er], by rw [ht]; exact hPe, hS.F ht⟩) hS.2.2 d_C_step_221
set_option maxRecDepth 100000 in
set_option maxHeartbeats 4000000 in
theorem c_C_step_4 (hP : va_P (dC, dI) classes (wC aa cI cZ kn vv) H) (hdD : dD noT aa 22) {q : Nat} (hq : q < 200) (x : Int32) (ek : vv 12 q = 4) {t : Nat} (et : vv 13 q = nI t) (ht : t < 8) : Met l y_C_step (wB y_C_step b_C_step 6 none) ({ frames := 1, cells := 0, slots := 0, locals := 24 } : Room) (rP [.ref (aa 0), .int (nI q), .int x] H (kK dC dI cI cZ cJ)) (qW none (aN aa 22) (fun H1 => va_P (dC, dI) classes (wC aa cI cZ kn (u1 (exV vv 4 t (vv 14 q)) 14 q (exR vv 4 t))) H1)) 0 0 (aN aa 22) := by
  refine Met.ofW (cc := b_C_step) (maxL := 6) (ret := none) (by decide) rfl ?_
  intro p e s m args below meth c s₁ B hml hv
  obtain ⟨rfl, rfl, hK⟩ := hv
  have hx := B.exec
  have hb := B.bytes
  have hr := B.returns
  have hts0 := atoms_spec (ws := (wB y_C_step b_C_step 6 none)) B.pre
  have hts : ∀ w9 ∈ BG, w9.before [.ref (aa 0), .int (nI q), .int x].toArray s = true := fun w9 hw9 => hts0 w9 (List.mem_cons_of_mem _ hw9)
  have hown : s.vm.findClass R_C = some m.cls := findClass_of_methodNamed B.named
  have hlocks := B.notSynchronized
  have hK : va_K (dC, dI) classes [(cI, .int), (cZ, .boolean), (cJ, .long)] s := hK
  have hD : va_D (aN aa 22) (wC aa cI cZ kn vv) := wC_D (dD_aN hdD)
  have hS : va_S (aN aa 22) s.heap s.heap [] := va_S.rf
  have hl := lv_entry ([.ref (aa 0), .int (nI q), .int x]) (n := 6) (Nat.le_of_ble_eq_true rfl)
  rw [lg_entry_eq]
  generalize (lg_sl ([.ref (aa 0), .int (nI q), .int x]) ++ List.replicate (6 - (lg_sl ([.ref (aa 0), .int (nI q), .int x])).length) Slot.unset).toArray = ls at hl ⊢
  have hl : lv_has ls 6 [(0, .ref (aa 0)), (1, .int (nI q)), (2, .int x)] := hl
  refine lv_aload_n hx hb d_C_step_0 rfl (lv_at hl 0 rfl) ?_
  refine va_get (D := (dC, dI)) (ci := 0) (v := .ref (aa 5)) (C := R_C) (T := F_C) (N := 5) hx hb hts i_C hown hK hP 0 rfl rfl 4 (by decide) (hts _ fl_C_40) (fun _ h9 => h9) rfl d_C_step_1 ?_
  refine va_get (D := (dC, dI)) (ci := 1) (v := .ref (aa 19)) (C := R_H) (T := F_H) (N := 6) hx hb hts i_H hown hK hP 5 rfl rfl 1 (by decide) (hts _ fl_C_252) (fun _ h9 => h9) rfl d_C_step_4 ?_
  refine lv_iload_n hx hb d_C_step_7 rfl (lv_at hl 1 rfl) ?_
  refine va_iald hx hb hK hP 19 0 rfl rfl (vp_in_nI (by omega) (by omega)) d_C_step_8 ?_
  rw [nI_clamp (show q < 2 ^ 31 by omega)]
  rw [et]
  refine lv_istore_n (lv' := [(3, .int (nI t)), (0, .ref (aa 0)), (1, .int (nI q)), (2, .int x)]) hx hb d_C_step_9 rfl hl (by decide) rfl (fun ls hl => ?_)
  refine lv_aload_n hx hb d_C_step_10 rfl (lv_at hl 1 rfl) ?_
  refine va_get (D := (dC, dI)) (ci := 0) (v := .ref (aa 5)) (C := R_C) (T := F_C) (N := 5) hx hb hts i_C hown hK hP 0 rfl rfl 4 (by decide) (hts _ fl_C_40) (fun _ h9 => h9) rfl d_C_step_11 ?_
  refine va_get (D := (dC, dI)) (ci := 1) (v := .ref (aa 20)) (C := R_H) (T := F_H) (N := 6) hx hb hts i_H hown hK hP 5 rfl rfl 2 (by decide) (hts _ fl_C_255) (fun _ h9 => h9) rfl d_C_step_14 ?_
  refine lv_iload_n hx hb d_C_step_17 rfl (lv_at hl 2 rfl) ?_
  refine va_iald hx hb hK hP 20 0 rfl rfl (vp_in_nI (by omega) (by omega)) d_C_step_18 ?_
  rw [nI_clamp (show q < 2 ^ 31 by omega)]
  refine lv_istore (lv' := [(4, .int ((vv 14) q)), (3, .int (nI t)), (0, .ref (aa 0)), (1, .int (nI q)), (2, .int x)]) hx hb d_C_step_19 hl (by decide) rfl (fun ls hl => ?_)
  refine lv_aload_n hx hb d_C_step_21 rfl (lv_at hl 2 rfl) ?_
  refine va_get (D := (dC, dI)) (ci := 0) (v := .ref (aa 5)) (C := R_C) (T := F_C) (N := 5) hx hb hts i_C hown hK hP 0 rfl rfl 4 (by decide) (hts _ fl_C_40) (fun _ h9 => h9) rfl d_C_step_22 ?_
  refine va_get (D := (dC, dI)) (ci := 1) (v := .ref (aa 21)) (C := R_H) (T := F_H) (N := 6) hx hb hts i_H hown hK hP 5 rfl rfl 3 (by decide) (hts _ fl_C_258) (fun _ h9 => h9) rfl d_C_step_25 ?_
  refine lv_iload_n hx hb d_C_step_28 rfl (lv_at hl 3 rfl) ?_
  refine va_iald hx hb hK hP 21 0 rfl rfl (vp_in_nI (by omega) (by omega)) d_C_step_29 ?_
  rw [nI_clamp (show q < 2 ^ 31 by omega)]
  refine lv_istore (lv' := [(5, .int ((vv 15) q)), (4, .int ((vv 14) q)), (3, .int (nI t)), (0, .ref (aa 0)), (1, .int (nI q)), (2, .int x)]) hx hb d_C_step_30 hl (by decide) rfl (fun ls hl => ?_)
  refine lv_aload_n hx hb d_C_step_32 rfl (lv_at hl 3 rfl) ?_
  refine va_get (D := (dC, dI)) (ci := 0) (v := .ref (aa 5)) (C := R_C) (T := F_C) (N := 5) hx hb hts i_C hown hK hP 0 rfl rfl 4 (by decide) (hts _ fl_C_40) (fun _ h9 => h9) rfl d_C_step_33 ?_
  refine va_get (D := (dC, dI)) (ci := 1) (v := .ref (aa 18)) (C := R_H) (T := F_H) (N := 6) hx hb hts i_H hown hK hP 5 rfl rfl 0 (by decide) (hts _ fl_C_261) (fun _ h9 => h9) rfl d_C_step_36 ?_
  refine lv_iload_n hx hb d_C_step_39 rfl (lv_at hl 4 rfl) ?_
  refine va_iald hx hb hK hP 18 0 rfl rfl (vp_in_nI (by omega) (by omega)) d_C_step_40 ?_
  rw [nI_clamp (show q < 2 ^ 31 by omega)]
  refine lv_tableIn (off := 155) (tgt := 196) hx hb d_C_step_41 (by rw [ek]; decide) (by rw [ek]; decide) (by rw [ek]; decide) (by decide) ?_
  refine lv_aload_n hx hb d_C_step_196 rfl (lv_at hl 3 rfl) ?_
  refine va_get (D := (dC, dI)) (ci := 0) (v := .ref (aa 5)) (C := R_C) (T := F_C) (N := 5) hx hb hts i_C hown hK hP 0 rfl rfl 4 (by decide) (hts _ fl_C_40) (fun _ h9 => h9) rfl d_C_step_197 ?_
  refine va_get (D := (dC, dI)) (ci := 1) (v := .ref (aa 20)) (C := R_H) (T := F_H) (N := 6) hx hb hts i_H hown hK hP 5 rfl rfl 2 (by decide) (hts _ fl_C_255) (fun _ h9 => h9) rfl d_C_step_200 ?_
  refine lv_iload_n hx hb d_C_step_203 rfl (lv_at hl 4 rfl) ?_
  refine lv_aload_n hx hb d_C_step_204 rfl (lv_at hl 3 rfl) ?_
  refine lv_aload_n hx hb d_C_step_205 rfl (lv_at hl 3 rfl) ?_
  refine va_get (D := (dC, dI)) (ci := 0) (v := .ref (aa 5)) (C := R_C) (T := F_C) (N := 5) hx hb hts i_C hown hK hP 0 rfl rfl 4 (by decide) (hts _ fl_C_40) (fun _ h9 => h9) rfl d_C_step_206 ?_
  refine va_get (D := (dC, dI)) (ci := 1) (v := .ref (aa 18)) (C := R_H) (T := F_H) (N := 6) hx hb hts i_H hown hK hP 5 rfl rfl 0 (by decide) (hts _ fl_C_261) (fun _ h9 => h9) rfl d_C_step_209 ?_
  refine lv_iload_n hx hb d_C_step_212 rfl (lv_at hl 4 rfl) ?_
  refine va_iald hx hb hK hP 18 0 rfl rfl (vp_in_nI (by omega) (by omega)) d_C_step_213 ?_
  rw [nI_clamp (show q < 2 ^ 31 by omega)]
  rw [ek]
  refine lv_iload_n hx hb d_C_step_214 rfl (lv_at hl 2 rfl) ?_
  refine lv_iload hx hb d_C_step_215 (lv_at hl 1 rfl) ?_
  refine cW (W.runV (As := [.int 4, .int (nI t), .int ((vv 14) q)]) (rest := [.int (nI q), .ref (aa 20)]) ⟨hx, hb, hml, hown, hts⟩ (c_C_exchange hP hdD 4 _ (fun h => by first | exact ht | omega | exact absurd h (by decide)) (fun h => by first | exact ht | omega | exact absurd h (by decide)) (by omega)) (cwV 3 hts (wB_goodV (fun _ h => h) ml_C_272 im_C_exchange se_C_exchange ini_C co_C_exchange) rfl rfl rfl (by decide +kernel) ⟨Nat.le_of_ble_eq_true rfl, Nat.le_of_ble_eq_true rfl⟩) (pV hK hP (ci := 0) (q0 := 0) rfl rfl _) rfl rfl hl.1 rfl (lv_room (Nat.le_of_ble_eq_true rfl)) d_C_step_217 ⟨Nat.zero_le _, Nat.zero_le _⟩) hS (fun _ h => h) (fun H locs hP hS _ _ => ?_)
  have hP : va_P (dC, dI) classes (wC aa cI cZ kn (exV vv 4 t ((vv 14) q))) H := hP
  have hD : va_D (aN aa 22) (wC aa cI cZ kn (exV vv 4 t ((vv 14) q))) := wC_D (dD_aN hdD)
  refine va_iast hx hb hK hP hD hS 20 0 rfl rfl (vp_in_nI (by omega) (by omega)) d_C_step_220 (fun H locs hP hD hS => ?_)
  rw [nI_clamp (show q < 2 ^ 31 by omega)] at hP hD
  have hP : va_P (dC, dI) classes (wC aa cI cZ kn (va_up (exV vv 4 t ((vv 14) q)) 14 (upd ((exV vv 4 t ((vv 14) q)) 14) q (exR vv 4 t)))) H := hP
  have hD : va_D (aN aa 22) (wC aa cI cZ kn (va_up (exV vv 4 t ((vv 14) q)) 14 (upd ((exV vv 4 t ((vv 14) q)) 14) q (exR vv 4 t)))) := hD
  have er : (none : Option Value) = none := by rfl
  have hPe : va_P (dC, dI) classes (wC aa cI cZ kn (u1 (exV vv 4 t (vv 14 q)) 14 q (exR vv 4 t))) H := by exact hP
  exact W.vret hx hb hr (fun t ht hW => ⟨by rw [er], by rw [ht]; exact hPe, hS.F ht⟩) hS.2.2 d_C_step_221
set_option maxRecDepth 100000 in
set_option maxHeartbeats 4000000 in
theorem c_C_step_5 (hP : va_P (dC, dI) classes (wC aa cI cZ kn vv) H) (hdD : dD noT aa 22) {q : Nat} (hq : q < 200) (x : Int32) (ek : vv 12 q = 5) {t : Nat} (et : vv 13 q = nI t) (ht : t < 40) : Met l y_C_step (wB y_C_step b_C_step 6 none) ({ frames := 1, cells := 0, slots := 0, locals := 24 } : Room) (rP [.ref (aa 0), .int (nI q), .int x] H (kK dC dI cI cZ cJ)) (qW none (aN aa 22) (fun H1 => va_P (dC, dI) classes (wC aa cI cZ kn (u1 (exV vv 5 t (vv 14 q)) 14 q (exR vv 5 t))) H1)) 0 0 (aN aa 22) := by
  refine Met.ofW (cc := b_C_step) (maxL := 6) (ret := none) (by decide) rfl ?_
  intro p e s m args below meth c s₁ B hml hv
  obtain ⟨rfl, rfl, hK⟩ := hv
  have hx := B.exec
  have hb := B.bytes
  have hr := B.returns
  have hts0 := atoms_spec (ws := (wB y_C_step b_C_step 6 none)) B.pre
  have hts : ∀ w9 ∈ BG, w9.before [.ref (aa 0), .int (nI q), .int x].toArray s = true := fun w9 hw9 => hts0 w9 (List.mem_cons_of_mem _ hw9)
  have hown : s.vm.findClass R_C = some m.cls := findClass_of_methodNamed B.named
  have hlocks := B.notSynchronized
  have hK : va_K (dC, dI) classes [(cI, .int), (cZ, .boolean), (cJ, .long)] s := hK
  have hD : va_D (aN aa 22) (wC aa cI cZ kn vv) := wC_D (dD_aN hdD)
  have hS : va_S (aN aa 22) s.heap s.heap [] := va_S.rf
  have hl := lv_entry ([.ref (aa 0), .int (nI q), .int x]) (n := 6) (Nat.le_of_ble_eq_true rfl)
  rw [lg_entry_eq]
  generalize (lg_sl ([.ref (aa 0), .int (nI q), .int x]) ++ List.replicate (6 - (lg_sl ([.ref (aa 0), .int (nI q), .int x])).length) Slot.unset).toArray = ls at hl ⊢
  have hl : lv_has ls 6 [(0, .ref (aa 0)), (1, .int (nI q)), (2, .int x)] := hl
  refine lv_aload_n hx hb d_C_step_0 rfl (lv_at hl 0 rfl) ?_
  refine va_get (D := (dC, dI)) (ci := 0) (v := .ref (aa 5)) (C := R_C) (T := F_C) (N := 5) hx hb hts i_C hown hK hP 0 rfl rfl 4 (by decide) (hts _ fl_C_40) (fun _ h9 => h9) rfl d_C_step_1 ?_
  refine va_get (D := (dC, dI)) (ci := 1) (v := .ref (aa 19)) (C := R_H) (T := F_H) (N := 6) hx hb hts i_H hown hK hP 5 rfl rfl 1 (by decide) (hts _ fl_C_252) (fun _ h9 => h9) rfl d_C_step_4 ?_
  refine lv_iload_n hx hb d_C_step_7 rfl (lv_at hl 1 rfl) ?_
  refine va_iald hx hb hK hP 19 0 rfl rfl (vp_in_nI (by omega) (by omega)) d_C_step_8 ?_
  rw [nI_clamp (show q < 2 ^ 31 by omega)]
  rw [et]
  refine lv_istore_n (lv' := [(3, .int (nI t)), (0, .ref (aa 0)), (1, .int (nI q)), (2, .int x)]) hx hb d_C_step_9 rfl hl (by decide) rfl (fun ls hl => ?_)
  refine lv_aload_n hx hb d_C_step_10 rfl (lv_at hl 1 rfl) ?_
  refine va_get (D := (dC, dI)) (ci := 0) (v := .ref (aa 5)) (C := R_C) (T := F_C) (N := 5) hx hb hts i_C hown hK hP 0 rfl rfl 4 (by decide) (hts _ fl_C_40) (fun _ h9 => h9) rfl d_C_step_11 ?_
  refine va_get (D := (dC, dI)) (ci := 1) (v := .ref (aa 20)) (C := R_H) (T := F_H) (N := 6) hx hb hts i_H hown hK hP 5 rfl rfl 2 (by decide) (hts _ fl_C_255) (fun _ h9 => h9) rfl d_C_step_14 ?_
  refine lv_iload_n hx hb d_C_step_17 rfl (lv_at hl 2 rfl) ?_
  refine va_iald hx hb hK hP 20 0 rfl rfl (vp_in_nI (by omega) (by omega)) d_C_step_18 ?_
  rw [nI_clamp (show q < 2 ^ 31 by omega)]
  refine lv_istore (lv' := [(4, .int ((vv 14) q)), (3, .int (nI t)), (0, .ref (aa 0)), (1, .int (nI q)), (2, .int x)]) hx hb d_C_step_19 hl (by decide) rfl (fun ls hl => ?_)
  refine lv_aload_n hx hb d_C_step_21 rfl (lv_at hl 2 rfl) ?_
  refine va_get (D := (dC, dI)) (ci := 0) (v := .ref (aa 5)) (C := R_C) (T := F_C) (N := 5) hx hb hts i_C hown hK hP 0 rfl rfl 4 (by decide) (hts _ fl_C_40) (fun _ h9 => h9) rfl d_C_step_22 ?_
  refine va_get (D := (dC, dI)) (ci := 1) (v := .ref (aa 21)) (C := R_H) (T := F_H) (N := 6) hx hb hts i_H hown hK hP 5 rfl rfl 3 (by decide) (hts _ fl_C_258) (fun _ h9 => h9) rfl d_C_step_25 ?_
  refine lv_iload_n hx hb d_C_step_28 rfl (lv_at hl 3 rfl) ?_
  refine va_iald hx hb hK hP 21 0 rfl rfl (vp_in_nI (by omega) (by omega)) d_C_step_29 ?_
  rw [nI_clamp (show q < 2 ^ 31 by omega)]
  refine lv_istore (lv' := [(5, .int ((vv 15) q)), (4, .int ((vv 14) q)), (3, .int (nI t)), (0, .ref (aa 0)), (1, .int (nI q)), (2, .int x)]) hx hb d_C_step_30 hl (by decide) rfl (fun ls hl => ?_)
  refine lv_aload_n hx hb d_C_step_32 rfl (lv_at hl 3 rfl) ?_
  refine va_get (D := (dC, dI)) (ci := 0) (v := .ref (aa 5)) (C := R_C) (T := F_C) (N := 5) hx hb hts i_C hown hK hP 0 rfl rfl 4 (by decide) (hts _ fl_C_40) (fun _ h9 => h9) rfl d_C_step_33 ?_
  refine va_get (D := (dC, dI)) (ci := 1) (v := .ref (aa 18)) (C := R_H) (T := F_H) (N := 6) hx hb hts i_H hown hK hP 5 rfl rfl 0 (by decide) (hts _ fl_C_261) (fun _ h9 => h9) rfl d_C_step_36 ?_
  refine lv_iload_n hx hb d_C_step_39 rfl (lv_at hl 4 rfl) ?_
  refine va_iald hx hb hK hP 18 0 rfl rfl (vp_in_nI (by omega) (by omega)) d_C_step_40 ?_
  rw [nI_clamp (show q < 2 ^ 31 by omega)]
  refine lv_tableIn (off := 155) (tgt := 196) hx hb d_C_step_41 (by rw [ek]; decide) (by rw [ek]; decide) (by rw [ek]; decide) (by decide) ?_
  refine lv_aload_n hx hb d_C_step_196 rfl (lv_at hl 3 rfl) ?_
  refine va_get (D := (dC, dI)) (ci := 0) (v := .ref (aa 5)) (C := R_C) (T := F_C) (N := 5) hx hb hts i_C hown hK hP 0 rfl rfl 4 (by decide) (hts _ fl_C_40) (fun _ h9 => h9) rfl d_C_step_197 ?_
  refine va_get (D := (dC, dI)) (ci := 1) (v := .ref (aa 20)) (C := R_H) (T := F_H) (N := 6) hx hb hts i_H hown hK hP 5 rfl rfl 2 (by decide) (hts _ fl_C_255) (fun _ h9 => h9) rfl d_C_step_200 ?_
  refine lv_iload_n hx hb d_C_step_203 rfl (lv_at hl 4 rfl) ?_
  refine lv_aload_n hx hb d_C_step_204 rfl (lv_at hl 3 rfl) ?_
  refine lv_aload_n hx hb d_C_step_205 rfl (lv_at hl 3 rfl) ?_
  refine va_get (D := (dC, dI)) (ci := 0) (v := .ref (aa 5)) (C := R_C) (T := F_C) (N := 5) hx hb hts i_C hown hK hP 0 rfl rfl 4 (by decide) (hts _ fl_C_40) (fun _ h9 => h9) rfl d_C_step_206 ?_
  refine va_get (D := (dC, dI)) (ci := 1) (v := .ref (aa 18)) (C := R_H) (T := F_H) (N := 6) hx hb hts i_H hown hK hP 5 rfl rfl 0 (by decide) (hts _ fl_C_261) (fun _ h9 => h9) rfl d_C_step_209 ?_
  refine lv_iload_n hx hb d_C_step_212 rfl (lv_at hl 4 rfl) ?_
  refine va_iald hx hb hK hP 18 0 rfl rfl (vp_in_nI (by omega) (by omega)) d_C_step_213 ?_
  rw [nI_clamp (show q < 2 ^ 31 by omega)]
  rw [ek]
  refine lv_iload_n hx hb d_C_step_214 rfl (lv_at hl 2 rfl) ?_
  refine lv_iload hx hb d_C_step_215 (lv_at hl 1 rfl) ?_
  refine cW (W.runV (As := [.int 5, .int (nI t), .int ((vv 14) q)]) (rest := [.int (nI q), .ref (aa 20)]) ⟨hx, hb, hml, hown, hts⟩ (c_C_exchange hP hdD 5 _ (fun h => by first | exact ht | omega | exact absurd h (by decide)) (fun h => by first | exact ht | omega | exact absurd h (by decide)) (by omega)) (cwV 3 hts (wB_goodV (fun _ h => h) ml_C_272 im_C_exchange se_C_exchange ini_C co_C_exchange) rfl rfl rfl (by decide +kernel) ⟨Nat.le_of_ble_eq_true rfl, Nat.le_of_ble_eq_true rfl⟩) (pV hK hP (ci := 0) (q0 := 0) rfl rfl _) rfl rfl hl.1 rfl (lv_room (Nat.le_of_ble_eq_true rfl)) d_C_step_217 ⟨Nat.zero_le _, Nat.zero_le _⟩) hS (fun _ h => h) (fun H locs hP hS _ _ => ?_)
  have hP : va_P (dC, dI) classes (wC aa cI cZ kn (exV vv 5 t ((vv 14) q))) H := hP
  have hD : va_D (aN aa 22) (wC aa cI cZ kn (exV vv 5 t ((vv 14) q))) := wC_D (dD_aN hdD)
  refine va_iast hx hb hK hP hD hS 20 0 rfl rfl (vp_in_nI (by omega) (by omega)) d_C_step_220 (fun H locs hP hD hS => ?_)
  rw [nI_clamp (show q < 2 ^ 31 by omega)] at hP hD
  have hP : va_P (dC, dI) classes (wC aa cI cZ kn (va_up (exV vv 5 t ((vv 14) q)) 14 (upd ((exV vv 5 t ((vv 14) q)) 14) q (exR vv 5 t)))) H := hP
  have hD : va_D (aN aa 22) (wC aa cI cZ kn (va_up (exV vv 5 t ((vv 14) q)) 14 (upd ((exV vv 5 t ((vv 14) q)) 14) q (exR vv 5 t)))) := hD
  have er : (none : Option Value) = none := by rfl
  have hPe : va_P (dC, dI) classes (wC aa cI cZ kn (u1 (exV vv 5 t (vv 14 q)) 14 q (exR vv 5 t))) H := by exact hP
  exact W.vret hx hb hr (fun t ht hW => ⟨by rw [er], by rw [ht]; exact hPe, hS.F ht⟩) hS.2.2 d_C_step_221
set_option maxRecDepth 100000 in
set_option maxHeartbeats 4000000 in
theorem c_C_step_6 (hP : va_P (dC, dI) classes (wC aa cI cZ kn vv) H) (hdD : dD noT aa 22) {q : Nat} (hq : q < 200) (x : Int32) (ek : vv 12 q = 6) {t : Nat} (et : vv 13 q = nI t) (ht : t < 40) : Met l y_C_step (wB y_C_step b_C_step 6 none) ({ frames := 1, cells := 0, slots := 0, locals := 24 } : Room) (rP [.ref (aa 0), .int (nI q), .int x] H (kK dC dI cI cZ cJ)) (qW none (aN aa 22) (fun H1 => va_P (dC, dI) classes (wC aa cI cZ kn (shV vv t (x * vv 14 q) (x * vv 15 q))) H1)) 0 0 (aN aa 22) := by
  refine Met.ofW (cc := b_C_step) (maxL := 6) (ret := none) (by decide) rfl ?_
  intro p e s m args below meth c s₁ B hml hv
  obtain ⟨rfl, rfl, hK⟩ := hv
  have hx := B.exec
  have hb := B.bytes
  have hr := B.returns
  have hts0 := atoms_spec (ws := (wB y_C_step b_C_step 6 none)) B.pre
  have hts : ∀ w9 ∈ BG, w9.before [.ref (aa 0), .int (nI q), .int x].toArray s = true := fun w9 hw9 => hts0 w9 (List.mem_cons_of_mem _ hw9)
  have hown : s.vm.findClass R_C = some m.cls := findClass_of_methodNamed B.named
  have hlocks := B.notSynchronized
  have hK : va_K (dC, dI) classes [(cI, .int), (cZ, .boolean), (cJ, .long)] s := hK
  have hD : va_D (aN aa 22) (wC aa cI cZ kn vv) := wC_D (dD_aN hdD)
  have hS : va_S (aN aa 22) s.heap s.heap [] := va_S.rf
  have hl := lv_entry ([.ref (aa 0), .int (nI q), .int x]) (n := 6) (Nat.le_of_ble_eq_true rfl)
  rw [lg_entry_eq]
  generalize (lg_sl ([.ref (aa 0), .int (nI q), .int x]) ++ List.replicate (6 - (lg_sl ([.ref (aa 0), .int (nI q), .int x])).length) Slot.unset).toArray = ls at hl ⊢
  have hl : lv_has ls 6 [(0, .ref (aa 0)), (1, .int (nI q)), (2, .int x)] := hl
  refine lv_aload_n hx hb d_C_step_0 rfl (lv_at hl 0 rfl) ?_
  refine va_get (D := (dC, dI)) (ci := 0) (v := .ref (aa 5)) (C := R_C) (T := F_C) (N := 5) hx hb hts i_C hown hK hP 0 rfl rfl 4 (by decide) (hts _ fl_C_40) (fun _ h9 => h9) rfl d_C_step_1 ?_
  refine va_get (D := (dC, dI)) (ci := 1) (v := .ref (aa 19)) (C := R_H) (T := F_H) (N := 6) hx hb hts i_H hown hK hP 5 rfl rfl 1 (by decide) (hts _ fl_C_252) (fun _ h9 => h9) rfl d_C_step_4 ?_
  refine lv_iload_n hx hb d_C_step_7 rfl (lv_at hl 1 rfl) ?_
  refine va_iald hx hb hK hP 19 0 rfl rfl (vp_in_nI (by omega) (by omega)) d_C_step_8 ?_
  rw [nI_clamp (show q < 2 ^ 31 by omega)]
  rw [et]
  refine lv_istore_n (lv' := [(3, .int (nI t)), (0, .ref (aa 0)), (1, .int (nI q)), (2, .int x)]) hx hb d_C_step_9 rfl hl (by decide) rfl (fun ls hl => ?_)
  refine lv_aload_n hx hb d_C_step_10 rfl (lv_at hl 1 rfl) ?_
  refine va_get (D := (dC, dI)) (ci := 0) (v := .ref (aa 5)) (C := R_C) (T := F_C) (N := 5) hx hb hts i_C hown hK hP 0 rfl rfl 4 (by decide) (hts _ fl_C_40) (fun _ h9 => h9) rfl d_C_step_11 ?_
  refine va_get (D := (dC, dI)) (ci := 1) (v := .ref (aa 20)) (C := R_H) (T := F_H) (N := 6) hx hb hts i_H hown hK hP 5 rfl rfl 2 (by decide) (hts _ fl_C_255) (fun _ h9 => h9) rfl d_C_step_14 ?_
  refine lv_iload_n hx hb d_C_step_17 rfl (lv_at hl 2 rfl) ?_
  refine va_iald hx hb hK hP 20 0 rfl rfl (vp_in_nI (by omega) (by omega)) d_C_step_18 ?_
  rw [nI_clamp (show q < 2 ^ 31 by omega)]
  refine lv_istore (lv' := [(4, .int ((vv 14) q)), (3, .int (nI t)), (0, .ref (aa 0)), (1, .int (nI q)), (2, .int x)]) hx hb d_C_step_19 hl (by decide) rfl (fun ls hl => ?_)
  refine lv_aload_n hx hb d_C_step_21 rfl (lv_at hl 2 rfl) ?_
  refine va_get (D := (dC, dI)) (ci := 0) (v := .ref (aa 5)) (C := R_C) (T := F_C) (N := 5) hx hb hts i_C hown hK hP 0 rfl rfl 4 (by decide) (hts _ fl_C_40) (fun _ h9 => h9) rfl d_C_step_22 ?_
  refine va_get (D := (dC, dI)) (ci := 1) (v := .ref (aa 21)) (C := R_H) (T := F_H) (N := 6) hx hb hts i_H hown hK hP 5 rfl rfl 3 (by decide) (hts _ fl_C_258) (fun _ h9 => h9) rfl d_C_step_25 ?_
  refine lv_iload_n hx hb d_C_step_28 rfl (lv_at hl 3 rfl) ?_
  refine va_iald hx hb hK hP 21 0 rfl rfl (vp_in_nI (by omega) (by omega)) d_C_step_29 ?_
  rw [nI_clamp (show q < 2 ^ 31 by omega)]
  refine lv_istore (lv' := [(5, .int ((vv 15) q)), (4, .int ((vv 14) q)), (3, .int (nI t)), (0, .ref (aa 0)), (1, .int (nI q)), (2, .int x)]) hx hb d_C_step_30 hl (by decide) rfl (fun ls hl => ?_)
  refine lv_aload_n hx hb d_C_step_32 rfl (lv_at hl 3 rfl) ?_
  refine va_get (D := (dC, dI)) (ci := 0) (v := .ref (aa 5)) (C := R_C) (T := F_C) (N := 5) hx hb hts i_C hown hK hP 0 rfl rfl 4 (by decide) (hts _ fl_C_40) (fun _ h9 => h9) rfl d_C_step_33 ?_
  refine va_get (D := (dC, dI)) (ci := 1) (v := .ref (aa 18)) (C := R_H) (T := F_H) (N := 6) hx hb hts i_H hown hK hP 5 rfl rfl 0 (by decide) (hts _ fl_C_261) (fun _ h9 => h9) rfl d_C_step_36 ?_
  refine lv_iload_n hx hb d_C_step_39 rfl (lv_at hl 4 rfl) ?_
  refine va_iald hx hb hK hP 18 0 rfl rfl (vp_in_nI (by omega) (by omega)) d_C_step_40 ?_
  rw [nI_clamp (show q < 2 ^ 31 by omega)]
  refine lv_tableIn (off := 114) (tgt := 155) hx hb d_C_step_41 (by rw [ek]; decide) (by rw [ek]; decide) (by rw [ek]; decide) (by decide) ?_
  refine lv_aload_n hx hb d_C_step_155 rfl (lv_at hl 3 rfl) ?_
  refine va_get (D := (dC, dI)) (ci := 0) (v := .ref (aa 3)) (C := R_C) (T := F_C) (N := 5) hx hb hts i_C hown hK hP 0 rfl rfl 2 (by decide) (hts _ fl_C_26) (fun _ h9 => h9) rfl d_C_step_156 ?_
  refine lv_iload_n hx hb d_C_step_159 rfl (lv_at hl 2 rfl) ?_
  refine lv_iload_n hx hb d_C_step_160 rfl (lv_at hl 5 rfl) ?_
  refine lv_iload hx hb d_C_step_161 (lv_at hl 1 rfl) ?_
  refine lv_imul hx hb d_C_step_163 ?_
  refine lv_iload_n hx hb d_C_step_164 rfl (lv_at hl 5 rfl) ?_
  refine lv_iload hx hb d_C_step_165 (lv_at hl 0 rfl) ?_
  refine lv_imul hx hb d_C_step_167 ?_
  refine cW (W.runV (As := [.int (nI t), .int (x * ((vv 14) q)), .int (x * ((vv 15) q))]) (rest := []) ⟨hx, hb, hml, hown, hts⟩ (c_W_shift hP hdD ht _ _) (cwV 3 hts (wB_goodV (fun _ h => h) ml_C_264 im_W_shift se_W_shift ini_W co_W_shift) rfl rfl rfl (by decide +kernel) ⟨Nat.le_of_ble_eq_true rfl, Nat.le_of_ble_eq_true rfl⟩) (pV hK hP (ci := 5) (q0 := 3) rfl rfl _) rfl rfl hl.1 rfl (lv_room (Nat.le_of_ble_eq_true rfl)) d_C_step_168 ⟨Nat.zero_le _, Nat.zero_le _⟩) hS (fun _ h => h) (fun H locs hP hS _ _ => ?_)
  have hP : va_P (dC, dI) classes (wC aa cI cZ kn (shV vv t (x * ((vv 14) q)) (x * ((vv 15) q)))) H := hP
  have hD : va_D (aN aa 22) (wC aa cI cZ kn (shV vv t (x * ((vv 14) q)) (x * ((vv 15) q)))) := wC_D (dD_aN hdD)
  refine lv_goto (tgt := 221) hx hb d_C_step_171 (by decide) ?_
  have er : (none : Option Value) = none := by rfl
  have hPe : va_P (dC, dI) classes (wC aa cI cZ kn (shV vv t (x * vv 14 q) (x * vv 15 q))) H := by exact hP
  exact W.vret hx hb hr (fun t ht hW => ⟨by rw [er], by rw [ht]; exact hPe, hS.F ht⟩) hS.2.2 d_C_step_221
set_option maxRecDepth 100000 in
set_option maxHeartbeats 4000000 in
theorem c_C_step_7 (hP : va_P (dC, dI) classes (wC aa cI cZ kn vv) H) (hdD : dD noT aa 22) {q : Nat} (hq : q < 200) (x : Int32) (ek : vv 12 q = 7) {t : Nat} (et : vv 13 q = nI t) (ht : t < 40) : Met l y_C_step (wB y_C_step b_C_step 6 none) ({ frames := 1, cells := 0, slots := 0, locals := 24 } : Room) (rP [.ref (aa 0), .int (nI q), .int x] H (kK dC dI cI cZ cJ)) (qW none (aN aa 22) (fun H1 => va_P (dC, dI) classes (wC aa cI cZ kn (u1 vv 8 t (if x = 1 then 1 else 0))) H1)) 0 0 (aN aa 22) := by
  refine Met.ofW (cc := b_C_step) (maxL := 6) (ret := none) (by decide) rfl ?_
  intro p e s m args below meth c s₁ B hml hv
  obtain ⟨rfl, rfl, hK⟩ := hv
  have hx := B.exec
  have hb := B.bytes
  have hr := B.returns
  have hts0 := atoms_spec (ws := (wB y_C_step b_C_step 6 none)) B.pre
  have hts : ∀ w9 ∈ BG, w9.before [.ref (aa 0), .int (nI q), .int x].toArray s = true := fun w9 hw9 => hts0 w9 (List.mem_cons_of_mem _ hw9)
  have hown : s.vm.findClass R_C = some m.cls := findClass_of_methodNamed B.named
  have hlocks := B.notSynchronized
  have hK : va_K (dC, dI) classes [(cI, .int), (cZ, .boolean), (cJ, .long)] s := hK
  have hD : va_D (aN aa 22) (wC aa cI cZ kn vv) := wC_D (dD_aN hdD)
  have hS : va_S (aN aa 22) s.heap s.heap [] := va_S.rf
  have hl := lv_entry ([.ref (aa 0), .int (nI q), .int x]) (n := 6) (Nat.le_of_ble_eq_true rfl)
  rw [lg_entry_eq]
  generalize (lg_sl ([.ref (aa 0), .int (nI q), .int x]) ++ List.replicate (6 - (lg_sl ([.ref (aa 0), .int (nI q), .int x])).length) Slot.unset).toArray = ls at hl ⊢
  have hl : lv_has ls 6 [(0, .ref (aa 0)), (1, .int (nI q)), (2, .int x)] := hl
  refine lv_aload_n hx hb d_C_step_0 rfl (lv_at hl 0 rfl) ?_
  refine va_get (D := (dC, dI)) (ci := 0) (v := .ref (aa 5)) (C := R_C) (T := F_C) (N := 5) hx hb hts i_C hown hK hP 0 rfl rfl 4 (by decide) (hts _ fl_C_40) (fun _ h9 => h9) rfl d_C_step_1 ?_
  refine va_get (D := (dC, dI)) (ci := 1) (v := .ref (aa 19)) (C := R_H) (T := F_H) (N := 6) hx hb hts i_H hown hK hP 5 rfl rfl 1 (by decide) (hts _ fl_C_252) (fun _ h9 => h9) rfl d_C_step_4 ?_
  refine lv_iload_n hx hb d_C_step_7 rfl (lv_at hl 1 rfl) ?_
  refine va_iald hx hb hK hP 19 0 rfl rfl (vp_in_nI (by omega) (by omega)) d_C_step_8 ?_
  rw [nI_clamp (show q < 2 ^ 31 by omega)]
  rw [et]
  refine lv_istore_n (lv' := [(3, .int (nI t)), (0, .ref (aa 0)), (1, .int (nI q)), (2, .int x)]) hx hb d_C_step_9 rfl hl (by decide) rfl (fun ls hl => ?_)
  refine lv_aload_n hx hb d_C_step_10 rfl (lv_at hl 1 rfl) ?_
  refine va_get (D := (dC, dI)) (ci := 0) (v := .ref (aa 5)) (C := R_C) (T := F_C) (N := 5) hx hb hts i_C hown hK hP 0 rfl rfl 4 (by decide) (hts _ fl_C_40) (fun _ h9 => h9) rfl d_C_step_11 ?_
  refine va_get (D := (dC, dI)) (ci := 1) (v := .ref (aa 20)) (C := R_H) (T := F_H) (N := 6) hx hb hts i_H hown hK hP 5 rfl rfl 2 (by decide) (hts _ fl_C_255) (fun _ h9 => h9) rfl d_C_step_14 ?_
  refine lv_iload_n hx hb d_C_step_17 rfl (lv_at hl 2 rfl) ?_
  refine va_iald hx hb hK hP 20 0 rfl rfl (vp_in_nI (by omega) (by omega)) d_C_step_18 ?_
  rw [nI_clamp (show q < 2 ^ 31 by omega)]
  refine lv_istore (lv' := [(4, .int ((vv 14) q)), (3, .int (nI t)), (0, .ref (aa 0)), (1, .int (nI q)), (2, .int x)]) hx hb d_C_step_19 hl (by decide) rfl (fun ls hl => ?_)
  refine lv_aload_n hx hb d_C_step_21 rfl (lv_at hl 2 rfl) ?_
  refine va_get (D := (dC, dI)) (ci := 0) (v := .ref (aa 5)) (C := R_C) (T := F_C) (N := 5) hx hb hts i_C hown hK hP 0 rfl rfl 4 (by decide) (hts _ fl_C_40) (fun _ h9 => h9) rfl d_C_step_22 ?_
  refine va_get (D := (dC, dI)) (ci := 1) (v := .ref (aa 21)) (C := R_H) (T := F_H) (N := 6) hx hb hts i_H hown hK hP 5 rfl rfl 3 (by decide) (hts _ fl_C_258) (fun _ h9 => h9) rfl d_C_step_25 ?_
  refine lv_iload_n hx hb d_C_step_28 rfl (lv_at hl 3 rfl) ?_
  refine va_iald hx hb hK hP 21 0 rfl rfl (vp_in_nI (by omega) (by omega)) d_C_step_29 ?_
  rw [nI_clamp (show q < 2 ^ 31 by omega)]
  refine lv_istore (lv' := [(5, .int ((vv 15) q)), (4, .int ((vv 14) q)), (3, .int (nI t)), (0, .ref (aa 0)), (1, .int (nI q)), (2, .int x)]) hx hb d_C_step_30 hl (by decide) rfl (fun ls hl => ?_)
  refine lv_aload_n hx hb d_C_step_32 rfl (lv_at hl 3 rfl) ?_
  refine va_get (D := (dC, dI)) (ci := 0) (v := .ref (aa 5)) (C := R_C) (T := F_C) (N := 5) hx hb hts i_C hown hK hP 0 rfl rfl 4 (by decide) (hts _ fl_C_40) (fun _ h9 => h9) rfl d_C_step_33 ?_
  refine va_get (D := (dC, dI)) (ci := 1) (v := .ref (aa 18)) (C := R_H) (T := F_H) (N := 6) hx hb hts i_H hown hK hP 5 rfl rfl 0 (by decide) (hts _ fl_C_261) (fun _ h9 => h9) rfl d_C_step_36 ?_
  refine lv_iload_n hx hb d_C_step_39 rfl (lv_at hl 4 rfl) ?_
  refine va_iald hx hb hK hP 18 0 rfl rfl (vp_in_nI (by omega) (by omega)) d_C_step_40 ?_
  rw [nI_clamp (show q < 2 ^ 31 by omega)]
  refine lv_tableIn (off := 133) (tgt := 174) hx hb d_C_step_41 (by rw [ek]; decide) (by rw [ek]; decide) (by rw [ek]; decide) (by decide) ?_
  refine lv_aload_n hx hb d_C_step_174 rfl (lv_at hl 3 rfl) ?_
  refine va_get (D := (dC, dI)) (ci := 0) (v := .ref (aa 3)) (C := R_C) (T := F_C) (N := 5) hx hb hts i_C hown hK hP 0 rfl rfl 2 (by decide) (hts _ fl_C_26) (fun _ h9 => h9) rfl d_C_step_175 ?_
  refine va_get (D := (dC, dI)) (ci := 5) (v := .ref (aa 14)) (C := R_W) (T := F_W) (N := 8) hx hb hts i_W hown hK hP 3 rfl rfl 6 (by decide) (hts _ fl_C_268) (fun _ h9 => h9) rfl d_C_step_178 ?_
  refine lv_iload_n hx hb d_C_step_181 rfl (lv_at hl 2 rfl) ?_
  refine lv_iload_n hx hb d_C_step_182 rfl (lv_at hl 5 rfl) ?_
  refine lv_iconst (v := 1) hx hb d_C_step_183 (by decide) ?_
  refine lv_icmp_ne (tgt := 191) hx hb d_C_step_184 (by decide) (fun c_184 => ?_) (fun c_184 => ?_)
  · refine lv_iconst (v := 0) hx hb d_C_step_191 (by decide) ?_
    refine va_zast hx hb hK hP hD hS 14 1 rfl rfl (vp_in_nI (by omega) (by omega)) d_C_step_192 (fun H locs hP hD hS => ?_)
    rw [show vp_nar .boolean 0 = 0 from rfl] at hP hD
    rw [nI_clamp (show t < 2 ^ 31 by omega)] at hP hD
    have hP : va_P (dC, dI) classes (wC aa cI cZ kn (va_up vv 8 (upd (vv 8) t 0))) H := hP
    have hD : va_D (aN aa 22) (wC aa cI cZ kn (va_up vv 8 (upd (vv 8) t 0))) := hD
    refine lv_goto (tgt := 221) hx hb d_C_step_193 (by decide) ?_
    have er : (none : Option Value) = none := by rfl
    have hPe : va_P (dC, dI) classes (wC aa cI cZ kn (u1 vv 8 t (if x = 1 then 1 else 0))) H := by first | (rw [if_pos c_184]; exact hP) | (rw [if_neg c_184]; exact hP)
    exact W.vret hx hb hr (fun t ht hW => ⟨by rw [er], by rw [ht]; exact hPe, hS.F ht⟩) hS.2.2 d_C_step_221
  · have c_184 : x = 1 := by simpa using c_184
    refine lv_iconst (v := 1) hx hb d_C_step_187 (by decide) ?_
    refine lv_goto (tgt := 192) hx hb d_C_step_188 (by decide) ?_
    refine va_zast hx hb hK hP hD hS 14 1 rfl rfl (vp_in_nI (by omega) (by omega)) d_C_step_192 (fun H locs hP hD hS => ?_)
    rw [show vp_nar .boolean 1 = 1 from rfl] at hP hD
    rw [nI_clamp (show t < 2 ^ 31 by omega)] at hP hD
    have hP : va_P (dC, dI) classes (wC aa cI cZ kn (va_up vv 8 (upd (vv 8) t 1))) H := hP
    have hD : va_D (aN aa 22) (wC aa cI cZ kn (va_up vv 8 (upd (vv 8) t 1))) := hD
    refine lv_goto (tgt := 221) hx hb d_C_step_193 (by decide) ?_
    have er : (none : Option Value) = none := by rfl
    have hPe : va_P (dC, dI) classes (wC aa cI cZ kn (u1 vv 8 t (if x = 1 then 1 else 0))) H := by first | (rw [if_pos c_184]; exact hP) | (rw [if_neg c_184]; exact hP)
    exact W.vret hx hb hr (fun t ht hW => ⟨by rw [er], by rw [ht]; exact hPe, hS.F ht⟩) hS.2.2 d_C_step_221
def stK (kn : Nat → Int32) (vv : Ar) (q : Nat) (x : Int32) : Nat → Int32 := if vv 12 q = 0 then va_up kn 0 (kn 0 + x) else if vv 12 q = 1 then va_up kn 1 (kn 1 + x) else if vv 12 q = 2 then va_up (va_up kn 2 (kn 2 + x * vv 14 q)) 3 (kn 3 + x * vv 15 q) else kn
def stV (vv : Ar) (q : Nat) (x : Int32) : Ar := if vv 12 q = 0 ∨ vv 12 q = 1 ∨ vv 12 q = 2 then vv else if vv 12 q = 6 then shV vv (vv 13 q).toNatClampNeg (x * vv 14 q) (x * vv 15 q) else if vv 12 q = 7 then u1 vv 8 (vv 13 q).toNatClampNeg (if x = 1 then 1 else 0) else u1 (exV vv (vv 12 q) (vv 13 q).toNatClampNeg (vv 14 q)) 14 q (exR vv (vv 12 q) (vv 13 q).toNatClampNeg)
/-- an act that can be done or undone -/
def okA (vv : Ar) (q : Nat) : Prop := vv 12 q = 0 ∨ vv 12 q = 1 ∨ vv 12 q = 2 ∨ ∃ t, vv 13 q = nI t ∧ ((vv 12 q = 3 ∧ t < 6) ∨ (vv 12 q = 4 ∧ t < 8) ∨ (vv 12 q = 5 ∧ t < 40) ∨ (vv 12 q = 6 ∧ t < 40) ∨ (vv 12 q = 7 ∧ t < 40))
theorem c_C_step (hP : va_P (dC, dI) classes (wC aa cI cZ kn vv) H) (hdD : dD noT aa 22) {q : Nat} (hq : q < 200) (x : Int32) (hA : okA vv q) : Met l y_C_step (wB y_C_step b_C_step 6 none) ({ frames := 1, cells := 0, slots := 0, locals := 24 } : Room) (rP [.ref (aa 0), .int (nI q), .int x] H (kK dC dI cI cZ cJ)) (qW none (aN aa 22) (fun H1 => va_P (dC, dI) classes (wC aa cI cZ (stK kn vv q x) (stV vv q x)) H1)) 0 0 (aN aa 22) := by
  rcases hA with e | e | e | ⟨t, et, ⟨e, ht⟩ | ⟨e, ht⟩ | ⟨e, ht⟩ | ⟨e, ht⟩ | ⟨e, ht⟩⟩
  · rw [show stK kn vv q x = va_up kn 0 (kn 0 + x) by simp [stK, e], show stV vv q x = vv by simp [stV, e]]
    exact c_C_step_0 hP hdD hq x e
  · rw [show stK kn vv q x = va_up kn 1 (kn 1 + x) by simp [stK, e], show stV vv q x = vv by simp [stV, e]]
    exact c_C_step_1 hP hdD hq x e
  · rw [show stK kn vv q x = va_up (va_up kn 2 (kn 2 + x * vv 14 q)) 3 (kn 3 + x * vv 15 q) by simp [stK, e], show stV vv q x = vv by simp [stV, e]]
    exact c_C_step_2 hP hdD hq x e
  · rw [show stK kn vv q x = kn by simp [stK, e], show stV vv q x = u1 (exV vv 3 t (vv 14 q)) 14 q (exR vv 3 t) by simp [stV, e, et, nI_clamp (show t < 2 ^ 31 by omega)]]
    exact c_C_step_3 hP hdD hq x e et ht
  · rw [show stK kn vv q x = kn by simp [stK, e], show stV vv q x = u1 (exV vv 4 t (vv 14 q)) 14 q (exR vv 4 t) by simp [stV, e, et, nI_clamp (show t < 2 ^ 31 by omega)]]
    exact c_C_step_4 hP hdD hq x e et ht
  · rw [show stK kn vv q x = kn by simp [stK, e], show stV vv q x = u1 (exV vv 5 t (vv 14 q)) 14 q (exR vv 5 t) by simp [stV, e, et, nI_clamp (show t < 2 ^ 31 by omega)]]
    exact c_C_step_5 hP hdD hq x e et ht
  · rw [show stK kn vv q x = kn by simp [stK, e], show stV vv q x = shV vv t (x * vv 14 q) (x * vv 15 q) by simp [stV, e, et, nI_clamp (show t < 2 ^ 31 by omega)]]
    exact c_C_step_6 hP hdD hq x e et ht
  · rw [show stK kn vv q x = kn by simp [stK, e], show stV vv q x = u1 vv 8 t (if x = 1 then 1 else 0) by simp [stV, e, et, nI_clamp (show t < 2 ^ 31 by omega)]]
    exact c_C_step_7 hP hdD hq x e et ht

set_option maxRecDepth 100000 in
set_option maxHeartbeats 4000000 in
theorem c_C_goForward (hP : va_P (dC, dI) classes (wC aa cI cZ kn vv) H) (hdD : dD noT aa 22) {d : Nat} (e4 : kn 4 = nI d) (hd : d < 200) (hA : okA vv d) : Met l y_C_goForward (wB y_C_goForward b_C_goForward 1 none) ({ frames := 2, cells := 0, slots := 0, locals := 49 } : Room) (rP [.ref (aa 0)] H (kK dC dI cI cZ cJ)) (qW none (aN aa 22) (fun H1 => va_P (dC, dI) classes (wC aa cI cZ (va_up (stK kn vv d 1) 4 (stK kn vv d 1 4 + 1)) (stV vv d 1)) H1)) 0 0 (aN aa 22) := by
  refine Met.ofW (cc := b_C_goForward) (maxL := 1) (ret := none) (by decide) rfl ?_
  intro p e s m args below meth c s₁ B hml hv
  obtain ⟨rfl, rfl, hK⟩ := hv
  have hx := B.exec
  have hb := B.bytes
  have hr := B.returns
  have hts0 := atoms_spec (ws := (wB y_C_goForward b_C_goForward 1 none)) B.pre
  have hts : ∀ w9 ∈ BG, w9.before [.ref (aa 0)].toArray s = true := fun w9 hw9 => hts0 w9 (List.mem_cons_of_mem _ hw9)
  have hown : s.vm.findClass R_C = some m.cls := findClass_of_methodNamed B.named
  have hlocks := B.notSynchronized
  have hK : va_K (dC, dI) classes [(cI, .int), (cZ, .boolean), (cJ, .long)] s := hK
  have hD : va_D (aN aa 22) (wC aa cI cZ kn vv) := wC_D (dD_aN hdD)
  have hS : va_S (aN aa 22) s.heap s.heap [] := va_S.rf
  have hl := lv_entry ([.ref (aa 0)]) (n := 1) (Nat.le_of_ble_eq_true rfl)
  rw [lg_entry_eq]
  generalize (lg_sl ([.ref (aa 0)]) ++ List.replicate (1 - (lg_sl ([.ref (aa 0)])).length) Slot.unset).toArray = ls at hl ⊢
  have hl : lv_has ls 1 [(0, .ref (aa 0))] := hl
  refine lv_aload_n hx hb d_C_goForward_0 rfl (lv_at hl 0 rfl) ?_
  refine lv_aload_n hx hb d_C_goForward_1 rfl (lv_at hl 0 rfl) ?_
  refine va_get (D := (dC, dI)) (ci := 0) (v := .ref (aa 5)) (C := R_C) (T := F_C) (N := 5) hx hb hts i_C hown hK hP 0 rfl rfl 4 (by decide) (hts _ fl_C_40) (fun _ h9 => h9) rfl d_C_goForward_2 ?_
  refine va_get (D := (dC, dI)) (ci := 1) (v := .int (nI d)) (C := R_H) (T := F_H) (N := 6) hx hb hts i_H hown hK hP 5 rfl rfl 4 (by decide) (hts _ fl_C_150) (fun _ h9 => h9) (by rw [← e4]; rfl) d_C_goForward_5 ?_
  refine lv_iconst (v := 1) hx hb d_C_goForward_8 (by decide) ?_
  refine cW (W.runV (As := [.int (nI d), .int 1]) (rest := []) ⟨hx, hb, hml, hown, hts⟩ (c_C_step hP hdD hd 1 hA) (cwV 2 hts (wB_goodV (fun _ h => h) ml_C_153 im_C_step se_C_step ini_C co_C_step) rfl rfl rfl (by decide +kernel) ⟨Nat.le_of_ble_eq_true rfl, Nat.le_of_ble_eq_true rfl⟩) (pV hK hP (ci := 0) (q0 := 0) rfl rfl _) rfl rfl hl.1 rfl (lv_room (Nat.le_of_ble_eq_true rfl)) d_C_goForward_9 ⟨Nat.zero_le _, Nat.zero_le _⟩) hS (fun _ h => h) (fun H locs hP hS _ _ => ?_)
  have hP : va_P (dC, dI) classes (wC aa cI cZ (stK kn vv d 1) (stV vv d 1)) H := hP
  have hD : va_D (aN aa 22) (wC aa cI cZ (stK kn vv d 1) (stV vv d 1)) := wC_D (dD_aN hdD)
  refine lv_aload_n hx hb d_C_goForward_12 rfl (lv_at hl 0 rfl) ?_
  refine va_get (D := (dC, dI)) (ci := 0) (v := .ref (aa 5)) (C := R_C) (T := F_C) (N := 5) hx hb hts i_C hown hK hP 0 rfl rfl 4 (by decide) (hts _ fl_C_40) (fun _ h9 => h9) rfl d_C_goForward_13 ?_
  refine lv_dup hx hb d_C_goForward_16 rfl ?_
  refine va_get (D := (dC, dI)) (ci := 1) (v := .int ((stK kn vv d 1) 4)) (C := R_H) (T := F_H) (N := 6) hx hb hts i_H hown hK hP 5 rfl rfl 4 (by decide) (hts _ fl_C_150) (fun _ h9 => h9) rfl d_C_goForward_17 ?_
  refine lv_iconst (v := 1) hx hb d_C_goForward_20 (by decide) ?_
  refine lv_iadd hx hb d_C_goForward_21 ?_
  refine va_put (D := (dC, dI)) (ci := 1) (v := .int (((stK kn vv d 1) 4) + 1)) (ty := .int) (C := R_H) (T := F_H) (N := 6) hx hb hts i_H ty_H tok_H n_H hown hK hP hD hS 5 rfl rfl 4 (by decide) (hts _ fl_C_150) (fun _ h9 => h9) rfl (by decide +kernel) rfl rfl (Nat.le_of_ble_eq_true rfl) d_C_goForward_22 (fun H locs hP hD hS => ?_)
  have hP : va_P (dC, dI) classes (wC aa cI cZ (va_up (stK kn vv d 1) 4 (((stK kn vv d 1) 4) + 1)) (stV vv d 1)) H := hP
  have hD : va_D (aN aa 22) (wC aa cI cZ (va_up (stK kn vv d 1) 4 (((stK kn vv d 1) 4) + 1)) (stV vv d 1)) := hD
  have er : (none : Option Value) = none := by rfl
  have hPe : va_P (dC, dI) classes (wC aa cI cZ (va_up (stK kn vv d 1) 4 (stK kn vv d 1 4 + 1)) (stV vv d 1)) H := by exact hP
  exact W.vret hx hb hr (fun t ht hW => ⟨by rw [er], by rw [ht]; exact hPe, hS.F ht⟩) hS.2.2 d_C_goForward_25
set_option maxRecDepth 100000 in
set_option maxHeartbeats 4000000 in
theorem c_C_writeCopies (hP : va_P (dC, dI) classes (wC aa cI cZ kn vv) H) (hdD : dD noT aa 22) (hI : okC kn nn) (x y : Int32) (hB1 : ∀ i, i < nn 2 → onB kn (wcF kn (nn 3) x y i (vv, nn 2, nn 3)).1 (nI i) x = true → (wcF kn (nn 3) x y i (vv, nn 2, nn 3)).2.1 < 40) (hB2 : ∀ i, i < nn 2 → (wcF kn (nn 3) x y (i + 1) (vv, nn 2, nn 3)).2.2 ≤ 60) : Met l y_C_writeCopies (wB y_C_writeCopies b_C_writeCopies 6 none) ({ frames := 2, cells := 0, slots := 0, locals := 49 } : Room) (rP [.ref (aa 0), .int x, .int y] H (kK dC dI cI cZ cJ)) (qW none (aN aa 22) (fun H1 => va_P (dC, dI) classes (wC aa cI cZ kn (wcF kn (nn 3) x y (nn 2) (vv, nn 2, nn 3)).1) H1)) 0 0 (aN aa 22) := by
  refine Met.ofW (cc := b_C_writeCopies) (maxL := 6) (ret := none) (by decide) rfl ?_
  intro p e s m args below meth c s₁ B hml hv
  obtain ⟨rfl, rfl, hK⟩ := hv
  have hx := B.exec
  have hb := B.bytes
  have hr := B.returns
  have hts0 := atoms_spec (ws := (wB y_C_writeCopies b_C_writeCopies 6 none)) B.pre
  have hts : ∀ w9 ∈ BG, w9.before [.ref (aa 0), .int x, .int y].toArray s = true := fun w9 hw9 => hts0 w9 (List.mem_cons_of_mem _ hw9)
  have hown : s.vm.findClass R_C = some m.cls := findClass_of_methodNamed B.named
  have hlocks := B.notSynchronized
  have hK : va_K (dC, dI) classes [(cI, .int), (cZ, .boolean), (cJ, .long)] s := hK
  have hD : va_D (aN aa 22) (wC aa cI cZ kn vv) := wC_D (dD_aN hdD)
  have hS : va_S (aN aa 22) s.heap s.heap [] := va_S.rf
  have hl := lv_entry ([.ref (aa 0), .int x, .int y]) (n := 6) (Nat.le_of_ble_eq_true rfl)
  rw [lg_entry_eq]
  generalize (lg_sl ([.ref (aa 0), .int x, .int y]) ++ List.replicate (6 - (lg_sl ([.ref (aa 0), .int x, .int y])).length) Slot.unset).toArray = ls at hl ⊢
  have hl : lv_has ls 6 [(0, .ref (aa 0)), (1, .int x), (2, .int y)] := hl
  obtain ⟨eK, b0, b1, b2, b3, b4, b5⟩ := id hI
  refine lv_aload_n hx hb d_C_writeCopies_0 rfl (lv_at hl 0 rfl) ?_
  refine va_get (D := (dC, dI)) (ci := 0) (v := .ref (aa 3)) (C := R_C) (T := F_C) (N := 5) hx hb hts i_C hown hK hP 0 rfl rfl 2 (by decide) (hts _ fl_C_26) (fun _ h9 => h9) rfl d_C_writeCopies_1 ?_
  refine va_get (D := (dC, dI)) (ci := 5) (v := .int (nI (nn 2))) (C := R_W) (T := F_W) (N := 8) hx hb hts i_W hown hK hP 3 rfl rfl 7 (by decide) (hts _ fl_C_95) (fun _ h9 => h9) (by rw [← (eK 2 (by decide))]; rfl) d_C_writeCopies_4 ?_
  refine lv_istore_n (lv' := [(3, .int (nI (nn 2))), (0, .ref (aa 0)), (1, .int x), (2, .int y)]) hx hb d_C_writeCopies_7 rfl hl (by decide) rfl (fun ls hl => ?_)
  refine lv_aload_n hx hb d_C_writeCopies_8 rfl (lv_at hl 1 rfl) ?_
  refine va_get (D := (dC, dI)) (ci := 0) (v := .ref (aa 4)) (C := R_C) (T := F_C) (N := 5) hx hb hts i_C hown hK hP 0 rfl rfl 3 (by decide) (hts _ fl_C_33) (fun _ h9 => h9) rfl d_C_writeCopies_9 ?_
  refine va_get (D := (dC, dI)) (ci := 2) (v := .int (nI (nn 3))) (C := R_O) (T := F_O) (N := 4) hx hb hts i_O hown hK hP 4 rfl rfl 3 (by decide) (hts _ fl_C_123) (fun _ h9 => h9) (by rw [← (eK 3 (by decide))]; rfl) d_C_writeCopies_12 ?_
  refine lv_istore (lv' := [(4, .int (nI (nn 3))), (3, .int (nI (nn 2))), (0, .ref (aa 0)), (1, .int x), (2, .int y)]) hx hb d_C_writeCopies_15 hl (by decide) rfl (fun ls hl => ?_)
  refine lv_iconst (v := 0) hx hb d_C_writeCopies_17 (by decide) ?_
  refine lv_istore (lv' := [(5, .int 0), (4, .int (nI (nn 3))), (3, .int (nI (nn 2))), (0, .ref (aa 0)), (1, .int x), (2, .int y)]) hx hb d_C_writeCopies_18 hl (by decide) rfl (fun ls hl => ?_)
  have loop_20 : ∀ (k9 i : Nat), nn 2 + 1 ≤ i + k9 → i ≤ nn 2 → ∀ (H : Heap) (locs : List Loc), va_P (dC, dI) classes (wC aa cI cZ kn (wcF kn (nn 3) x y i (vv, nn 2, nn 3)).1) H → va_S (aN aa 22) s.heap H locs → ∀ (ls : Array Slot), lv_has ls 6 [(0, .ref (aa 0)), (1, .int x), (2, .int y), (3, .int (nI (wcF kn (nn 3) x y i (vv, nn 2, nn 3)).2.1)), (4, .int (nI (wcF kn (nn 3) x y i (vv, nn 2, nn 3)).2.2)), (5, .int (nI i))] → W p l e (headSpec (wB y_C_writeCopies b_C_writeCopies 6 none) ({ frames := 2, cells := 0, slots := 0, locals := 49 } : Room)).room s m [.ref (aa 0), .int x, .int y].toArray below meth c H locs 0 0 (MQ below (qW none (aN aa 22) (fun H1 => va_P (dC, dI) classes (wC aa cI cZ kn (wcF kn (nn 3) x y (nn 2) (vv, nn 2, nn 3)).1) H1)) [.ref (aa 0), .int x, .int y].toArray s 0 0 (aN aa 22)) (F0 m 20 ls []) := by
    intro k9_20
    induction k9_20 with
    | zero => intro i  hk_20 hi H locs hP hS ls hl; exact absurd hk_20 (by omega)
    | succ k9_20 ih_20 =>
      intro i  hk_20 hi H locs hP hS ls hl
      have hD : va_D (aN aa 22) (wC aa cI cZ kn (wcF kn (nn 3) x y i (vv, nn 2, nn 3)).1) := wC_D (dD_aN hdD)
      refine lv_iload hx hb d_C_writeCopies_20 (lv_at hl 5 rfl) ?_
      refine lv_aload_n hx hb d_C_writeCopies_22 rfl (lv_at hl 0 rfl) ?_
      refine va_get (D := (dC, dI)) (ci := 0) (v := .ref (aa 3)) (C := R_C) (T := F_C) (N := 5) hx hb hts i_C hown hK hP 0 rfl rfl 2 (by decide) (hts _ fl_C_26) (fun _ h9 => h9) rfl d_C_writeCopies_23 ?_
      refine va_get (D := (dC, dI)) (ci := 5) (v := .int (kn 2)) (C := R_W) (T := F_W) (N := 8) hx hb hts i_W hown hK hP 3 rfl rfl 7 (by decide) (hts _ fl_C_95) (fun _ h9 => h9) rfl d_C_writeCopies_26 ?_
      refine lv_icmp_ge (tgt := 79) hx hb d_C_writeCopies_29 (by decide) (fun c_29 => ?_) (fun c_29 => ?_)
      · have hi2 : i = nn 2 := Nat.le_antisymm hi (geC (eK 2 (by decide)) c_29 (by omega) (by omega))
        have er : (none : Option Value) = none := by rfl
        have hPe : va_P (dC, dI) classes (wC aa cI cZ kn (wcF kn (nn 3) x y (nn 2) (vv, nn 2, nn 3)).1) H := by have h9 := hP; rw [hi2] at h9; exact h9
        exact W.vret hx hb hr (fun t ht hW => ⟨by rw [er], by rw [ht]; exact hPe, hS.F ht⟩) hS.2.2 d_C_writeCopies_79
      · have hi2 : i < nn 2 := ltC (eK 2 (by decide)) c_29 (by omega) (by omega)
        refine lv_aload_n hx hb d_C_writeCopies_32 rfl (lv_at hl 0 rfl) ?_
        refine va_get (D := (dC, dI)) (ci := 0) (v := .ref (aa 3)) (C := R_C) (T := F_C) (N := 5) hx hb hts i_C hown hK hP 0 rfl rfl 2 (by decide) (hts _ fl_C_26) (fun _ h9 => h9) rfl d_C_writeCopies_33 ?_
        refine lv_iload hx hb d_C_writeCopies_36 (lv_at hl 5 rfl) ?_
        refine lv_iload_n hx hb d_C_writeCopies_38 rfl (lv_at hl 1 rfl) ?_
        refine cR (W.runV (As := [.int (nI i), .int x]) (rest := []) ⟨hx, hb, hml, hown, hts⟩ (c_W_isOn hP hI (nI i) x) (cwV 2 hts (wB_goodV (fun _ h => h) ml_C_219 im_W_isOn se_W_isOn ini_W co_W_isOn) rfl rfl rfl (by decide +kernel) ⟨Nat.le_of_ble_eq_true rfl, Nat.le_of_ble_eq_true rfl⟩) (pV hK hP (ci := 5) (q0 := 3) rfl rfl _) rfl rfl hl.1 rfl (lv_room (Nat.le_of_ble_eq_true rfl)) d_C_writeCopies_39 ⟨Nat.zero_le _, Nat.zero_le _⟩) ?_
        refine lv_if_eq (tgt := 73) hx hb d_C_writeCopies_42 (by decide) (fun c_42 => ?_) (fun c_42 => ?_)
        · refine lv_iinc (v := (nI (i + 1))) (lv' := [(5, .int (nI (i + 1))), (0, .ref (aa 0)), (1, .int x), (2, .int y), (3, .int (nI (wcF kn (nn 3) x y i (vv, nn 2, nn 3)).2.1)), (4, .int (nI (wcF kn (nn 3) x y i (vv, nn 2, nn 3)).2.2))]) hx hb d_C_writeCopies_73 hl (k := 5) rfl (nI_1 _) (by decide) rfl (fun ls hl => ?_)
          refine lv_goto (tgt := 20) hx hb d_C_writeCopies_76 (by decide) ?_
          have eo : wcF kn (nn 3) x y (i + 1) (vv, nn 2, nn 3) = wcF kn (nn 3) x y i (vv, nn 2, nn 3) := by rw [wcF, if_neg (by rw [bI_0.mp c_42]; decide)]
          rw [← eo] at hl hP
          exact ih_20 (i + 1) (by omega) (by omega) _ _ hP hS ls (lv_sub hl [1, 2, 3, 4, 5, 0] rfl)
        · have hw9 := hB1 i hi2 (bI_n0.mp c_42)
          have ho9 := hB2 i hi2
          rw [wcF, if_pos (bI_n0.mp c_42)] at ho9
          refine lv_aload_n hx hb d_C_writeCopies_45 rfl (lv_at hl 0 rfl) ?_
          refine va_get (D := (dC, dI)) (ci := 0) (v := .ref (aa 3)) (C := R_C) (T := F_C) (N := 5) hx hb hts i_C hown hK hP 0 rfl rfl 2 (by decide) (hts _ fl_C_26) (fun _ h9 => h9) rfl d_C_writeCopies_46 ?_
          refine lv_iload hx hb d_C_writeCopies_49 (lv_at hl 5 rfl) ?_
          refine lv_iload_n hx hb d_C_writeCopies_51 rfl (lv_at hl 3 rfl) ?_
          refine lv_iload_n hx hb d_C_writeCopies_52 rfl (lv_at hl 2 rfl) ?_
          refine cW (W.runV (As := [.int (nI i), .int (nI (wcF kn (nn 3) x y i (vv, nn 2, nn 3)).2.1), .int y]) (rest := []) ⟨hx, hb, hml, hown, hts⟩ (c_W_writeCopy hP hdD (show i < 40 by omega) hw9 y) (cwV 3 hts (wB_goodV (fun _ h => h) ml_C_276 im_W_writeCopy se_W_writeCopy ini_W co_W_writeCopy) rfl rfl rfl (by decide +kernel) ⟨Nat.le_of_ble_eq_true rfl, Nat.le_of_ble_eq_true rfl⟩) (pV hK hP (ci := 5) (q0 := 3) rfl rfl _) rfl rfl hl.1 rfl (lv_room (Nat.le_of_ble_eq_true rfl)) d_C_writeCopies_53 ⟨Nat.zero_le _, Nat.zero_le _⟩) hS (fun _ h => h) (fun H locs hP hS _ _ => ?_)
          have hP : va_P (dC, dI) classes (wC aa cI cZ kn (nwV (wcF kn (nn 3) x y i (vv, nn 2, nn 3)).1 ((wcF kn (nn 3) x y i (vv, nn 2, nn 3)).2.1) y ((wcF kn (nn 3) x y i (vv, nn 2, nn 3)).1 3 i) ((wcF kn (nn 3) x y i (vv, nn 2, nn 3)).1 4 i) ((wcF kn (nn 3) x y i (vv, nn 2, nn 3)).1 5 i) ((wcF kn (nn 3) x y i (vv, nn 2, nn 3)).1 6 i) ((wcF kn (nn 3) x y i (vv, nn 2, nn 3)).1 7 i))) H := hP
          have hD : va_D (aN aa 22) (wC aa cI cZ kn (nwV (wcF kn (nn 3) x y i (vv, nn 2, nn 3)).1 ((wcF kn (nn 3) x y i (vv, nn 2, nn 3)).2.1) y ((wcF kn (nn 3) x y i (vv, nn 2, nn 3)).1 3 i) ((wcF kn (nn 3) x y i (vv, nn 2, nn 3)).1 4 i) ((wcF kn (nn 3) x y i (vv, nn 2, nn 3)).1 5 i) ((wcF kn (nn 3) x y i (vv, nn 2, nn 3)).1 6 i) ((wcF kn (nn 3) x y i (vv, nn 2, nn 3)).1 7 i))) := wC_D (dD_aN hdD)
          refine lv_aload_n hx hb d_C_writeCopies_56 rfl (lv_at hl 0 rfl) ?_
          refine va_get (D := (dC, dI)) (ci := 0) (v := .ref (aa 4)) (C := R_C) (T := F_C) (N := 5) hx hb hts i_C hown hK hP 0 rfl rfl 3 (by decide) (hts _ fl_C_33) (fun _ h9 => h9) rfl d_C_writeCopies_57 ?_
          refine lv_iload hx hb d_C_writeCopies_60 (lv_at hl 5 rfl) ?_
          refine lv_iload_n hx hb d_C_writeCopies_62 rfl (lv_at hl 3 rfl) ?_
          refine lv_iload hx hb d_C_writeCopies_63 (lv_at hl 4 rfl) ?_
          refine cW (W.runV (As := [.int (nI i), .int (nI (wcF kn (nn 3) x y i (vv, nn 2, nn 3)).2.1), .int (nI (wcF kn (nn 3) x y i (vv, nn 2, nn 3)).2.2)]) (rest := []) ⟨hx, hb, hml, hown, hts⟩ (c_O_writeCopies hP hdD hI (nI i) _ ho9) (cwV 3 hts (wB_goodV (fun _ h => h) ml_C_279 im_O_writeCopies se_O_writeCopies ini_O co_O_writeCopies) rfl rfl rfl (by decide +kernel) ⟨Nat.le_of_ble_eq_true rfl, Nat.le_of_ble_eq_true rfl⟩) (pV hK hP (ci := 2) (q0 := 4) rfl rfl _) rfl rfl hl.1 rfl (lv_room (Nat.le_of_ble_eq_true rfl)) d_C_writeCopies_65 ⟨Nat.zero_le _, Nat.zero_le _⟩) hS (fun _ h => h) (fun H locs hP hS _ _ => ?_)
          have hP : va_P (dC, dI) classes (wC aa cI cZ kn (ocF (nI i) (nI (wcF kn (nn 3) x y i (vv, nn 2, nn 3)).2.1) (nn 3) ((nwV (wcF kn (nn 3) x y i (vv, nn 2, nn 3)).1 ((wcF kn (nn 3) x y i (vv, nn 2, nn 3)).2.1) y ((wcF kn (nn 3) x y i (vv, nn 2, nn 3)).1 3 i) ((wcF kn (nn 3) x y i (vv, nn 2, nn 3)).1 4 i) ((wcF kn (nn 3) x y i (vv, nn 2, nn 3)).1 5 i) ((wcF kn (nn 3) x y i (vv, nn 2, nn 3)).1 6 i) ((wcF kn (nn 3) x y i (vv, nn 2, nn 3)).1 7 i)), ((wcF kn (nn 3) x y i (vv, nn 2, nn 3)).2.2))).1) H := hP
          have hD : va_D (aN aa 22) (wC aa cI cZ kn (ocF (nI i) (nI (wcF kn (nn 3) x y i (vv, nn 2, nn 3)).2.1) (nn 3) ((nwV (wcF kn (nn 3) x y i (vv, nn 2, nn 3)).1 ((wcF kn (nn 3) x y i (vv, nn 2, nn 3)).2.1) y ((wcF kn (nn 3) x y i (vv, nn 2, nn 3)).1 3 i) ((wcF kn (nn 3) x y i (vv, nn 2, nn 3)).1 4 i) ((wcF kn (nn 3) x y i (vv, nn 2, nn 3)).1 5 i) ((wcF kn (nn 3) x y i (vv, nn 2, nn 3)).1 6 i) ((wcF kn (nn 3) x y i (vv, nn 2, nn 3)).1 7 i)), ((wcF kn (nn 3) x y i (vv, nn 2, nn 3)).2.2))).1) := wC_D (dD_aN hdD)
          refine lv_istore (lv' := [(4, .int (nI (ocF (nI i) (nI (wcF kn (nn 3) x y i (vv, nn 2, nn 3)).2.1) (nn 3) ((nwV (wcF kn (nn 3) x y i (vv, nn 2, nn 3)).1 ((wcF kn (nn 3) x y i (vv, nn 2, nn 3)).2.1) y ((wcF kn (nn 3) x y i (vv, nn 2, nn 3)).1 3 i) ((wcF kn (nn 3) x y i (vv, nn 2, nn 3)).1 4 i) ((wcF kn (nn 3) x y i (vv, nn 2, nn 3)).1 5 i) ((wcF kn (nn 3) x y i (vv, nn 2, nn 3)).1 6 i) ((wcF kn (nn 3) x y i (vv, nn 2, nn 3)).1 7 i)), ((wcF kn (nn 3) x y i (vv, nn 2, nn 3)).2.2))).2)), (0, .ref (aa 0)), (1, .int x), (2, .int y), (3, .int (nI (wcF kn (nn 3) x y i (vv, nn 2, nn 3)).2.1)), (5, .int (nI i))]) hx hb d_C_writeCopies_68 hl (by decide) rfl (fun ls hl => ?_)
          refine lv_iinc (v := (nI ((wcF kn (nn 3) x y i (vv, nn 2, nn 3)).2.1 + 1))) (lv' := [(3, .int (nI ((wcF kn (nn 3) x y i (vv, nn 2, nn 3)).2.1 + 1))), (4, .int (nI (ocF (nI i) (nI (wcF kn (nn 3) x y i (vv, nn 2, nn 3)).2.1) (nn 3) ((nwV (wcF kn (nn 3) x y i (vv, nn 2, nn 3)).1 ((wcF kn (nn 3) x y i (vv, nn 2, nn 3)).2.1) y ((wcF kn (nn 3) x y i (vv, nn 2, nn 3)).1 3 i) ((wcF kn (nn 3) x y i (vv, nn 2, nn 3)).1 4 i) ((wcF kn (nn 3) x y i (vv, nn 2, nn 3)).1 5 i) ((wcF kn (nn 3) x y i (vv, nn 2, nn 3)).1 6 i) ((wcF kn (nn 3) x y i (vv, nn 2, nn 3)).1 7 i)), ((wcF kn (nn 3) x y i (vv, nn 2, nn 3)).2.2))).2)), (0, .ref (aa 0)), (1, .int x), (2, .int y), (5, .int (nI i))]) hx hb d_C_writeCopies_70 hl (k := 4) rfl (nI_1 _) (by decide) rfl (fun ls hl => ?_)
          refine lv_iinc (v := (nI (i + 1))) (lv' := [(5, .int (nI (i + 1))), (3, .int (nI ((wcF kn (nn 3) x y i (vv, nn 2, nn 3)).2.1 + 1))), (4, .int (nI (ocF (nI i) (nI (wcF kn (nn 3) x y i (vv, nn 2, nn 3)).2.1) (nn 3) ((nwV (wcF kn (nn 3) x y i (vv, nn 2, nn 3)).1 ((wcF kn (nn 3) x y i (vv, nn 2, nn 3)).2.1) y ((wcF kn (nn 3) x y i (vv, nn 2, nn 3)).1 3 i) ((wcF kn (nn 3) x y i (vv, nn 2, nn 3)).1 4 i) ((wcF kn (nn 3) x y i (vv, nn 2, nn 3)).1 5 i) ((wcF kn (nn 3) x y i (vv, nn 2, nn 3)).1 6 i) ((wcF kn (nn 3) x y i (vv, nn 2, nn 3)).1 7 i)), ((wcF kn (nn 3) x y i (vv, nn 2, nn 3)).2.2))).2)), (0, .ref (aa 0)), (1, .int x), (2, .int y)]) hx hb d_C_writeCopies_73 hl (k := 5) rfl (nI_1 _) (by decide) rfl (fun ls hl => ?_)
          refine lv_goto (tgt := 20) hx hb d_C_writeCopies_76 (by decide) ?_
          have eo : wcF kn (nn 3) x y (i + 1) (vv, nn 2, nn 3) = wcS (nn 3) y i (wcF kn (nn 3) x y i (vv, nn 2, nn 3)) := by rw [wcF, if_pos (bI_n0.mp c_42)]
          have hl : lv_has ls 6 [(0, .ref (aa 0)), (1, .int x), (2, .int y), (3, .int (nI (wcF kn (nn 3) x y (i + 1) (vv, nn 2, nn 3)).2.1)), (4, .int (nI (wcF kn (nn 3) x y (i + 1) (vv, nn 2, nn 3)).2.2)), (5, .int (nI (i + 1)))] := by rw [eo]; exact lv_sub hl [3, 4, 5, 1, 2, 0] rfl
          have hP : va_P (dC, dI) classes (wC aa cI cZ kn (wcF kn (nn 3) x y (i + 1) (vv, nn 2, nn 3)).1) H := by rw [eo]; exact hP
          exact ih_20 (i + 1) (by omega) (by omega) _ _ hP hS ls (lv_sub hl [0, 1, 2, 3, 4, 5] rfl)
  exact loop_20 (nn 2 + 1) 0 (by omega) (by omega) _ _ hP hS ls (lv_sub hl [3, 4, 5, 2, 1, 0] rfl)
end
