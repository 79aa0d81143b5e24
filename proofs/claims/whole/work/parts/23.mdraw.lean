section
variable {l : Launch} {dC : Nat → ClassId} {dI : Nat → Nat → Nat} {H : Heap} {ab : Nat → Nat} {cI cZ cJ : ClassId} {mk : Nat → Int32} {mv : Ar} {mn : Nat → Nat}
set_option maxRecDepth 100000 in
set_option maxHeartbeats 4000000 in
theorem c_M_draw_0 (hP : va_P (dC, dI) classes (wM ab cI cZ mk mv) H) (hdD : dD noT ab 14) (eK : ∀ i, i < 4 → mk i = nI (mn i)) {k : Nat} (hk : k < 200) (ek : mv 12 (7 * k) = 0) (hn : mn 0 < 6) : Met l y_M_draw (wB y_M_draw b_M_draw 6 (some .int)) ({ frames := 2, cells := 0, slots := 0, locals := 54 } : Room) (rP [.ref (ab 0), .int (nI k)] H (kK dC dI cI cZ cJ)) (qW (some (.int (nI (mn 0)))) (aN ab 14) (fun H1 => va_P (dC, dI) classes (wM ab cI cZ (mkOf mk (va_up mn 0 (mn 0 + 1))) (u1 mv 0 (mn 0) (mv 12 (7 * k + 1)))) H1)) 0 0 (aN ab 14) := by
  refine Met.ofW (cc := b_M_draw) (maxL := 6) (ret := (some .int)) (by decide) rfl ?_
  intro p e s m args below meth c s₁ B hml hv
  obtain ⟨rfl, rfl, hK⟩ := hv
  have hx := B.exec
  have hb := B.bytes
  have hr := B.returns
  have hts0 := atoms_spec (ws := (wB y_M_draw b_M_draw 6 (some .int))) B.pre
  have hts : ∀ w9 ∈ BG, w9.before [.ref (ab 0), .int (nI k)].toArray s = true := fun w9 hw9 => hts0 w9 (List.mem_cons_of_mem _ hw9)
  have hown : s.vm.findClass R_M = some m.cls := findClass_of_methodNamed B.named
  have hlocks := B.notSynchronized
  have hK : va_K (dC, dI) classes [(cI, .int), (cZ, .boolean), (cJ, .long)] s := hK
  have hD : va_D (aN ab 14) (wM ab cI cZ mk mv) := wM_D (dD_aN hdD)
  have hS : va_S (aN ab 14) s.heap s.heap [] := va_S.rf
  have hl := lv_entry ([.ref (ab 0), .int (nI k)]) (n := 6) (Nat.le_of_ble_eq_true rfl)
  rw [lg_entry_eq]
  generalize (lg_sl ([.ref (ab 0), .int (nI k)]) ++ List.replicate (6 - (lg_sl ([.ref (ab 0), .int (nI k)])).length) Slot.unset).toArray = ls at hl ⊢
  have hl : lv_has ls 6 [(0, .ref (ab 0)), (1, .int (nI k))] := hl
  refine lv_bipush (v := 7) hx hb d_M_draw_0 (by decide) ?_
  refine lv_iload_n hx hb d_M_draw_2 rfl (lv_at hl 1 rfl) ?_
  refine lv_imul hx hb d_M_draw_3 ?_
  rw [show (7 : Int32) * nI k = nI (7 * k) from pk_mul 7 k]
  refine lv_istore_n (lv' := [(2, .int (nI (7 * k))), (0, .ref (ab 0)), (1, .int (nI k))]) hx hb d_M_draw_4 rfl hl (by decide) rfl (fun ls hl => ?_)
  refine lv_aload_n hx hb d_M_draw_5 rfl (lv_at hl 1 rfl) ?_
  refine va_get (D := (dC, dI)) (ci := 6) (v := .ref (ab 1)) (C := R_M) (T := F_M) (N := 20) hx hb hts i_M hown hK hP 0 rfl rfl 1 (by decide) (hts _ fl_M_7) (fun _ h9 => h9) rfl d_M_draw_6 ?_
  refine lv_iload_n hx hb d_M_draw_9 rfl (lv_at hl 0 rfl) ?_
  refine lv_iconst (v := 1) hx hb d_M_draw_10 (by decide) ?_
  refine lv_iadd hx hb d_M_draw_11 ?_
  rw [show nI (7 * k) + 1 = nI (7 * k + 1) from nI_add (7 * k) 1]
  refine va_iald hx hb hK hP 1 0 rfl rfl (vp_in_nI (by omega) (by omega)) d_M_draw_12 ?_
  rw [nI_clamp (show (7 * k + 1) < 2 ^ 31 by omega)]
  refine lv_istore_n (lv' := [(3, .int ((mv 12) (7 * k + 1))), (2, .int (nI (7 * k))), (0, .ref (ab 0)), (1, .int (nI k))]) hx hb d_M_draw_13 rfl hl (by decide) rfl (fun ls hl => ?_)
  refine lv_aload_n hx hb d_M_draw_14 rfl (lv_at hl 2 rfl) ?_
  refine va_get (D := (dC, dI)) (ci := 6) (v := .ref (ab 1)) (C := R_M) (T := F_M) (N := 20) hx hb hts i_M hown hK hP 0 rfl rfl 1 (by decide) (hts _ fl_M_7) (fun _ h9 => h9) rfl d_M_draw_15 ?_
  refine lv_iload_n hx hb d_M_draw_18 rfl (lv_at hl 1 rfl) ?_
  refine lv_iconst (v := 2) hx hb d_M_draw_19 (by decide) ?_
  refine lv_iadd hx hb d_M_draw_20 ?_
  rw [show nI (7 * k) + 2 = nI (7 * k + 2) from nI_add (7 * k) 2]
  refine va_iald hx hb hK hP 1 0 rfl rfl (vp_in_nI (by omega) (by omega)) d_M_draw_21 ?_
  rw [nI_clamp (show (7 * k + 2) < 2 ^ 31 by omega)]
  refine lv_istore (lv' := [(4, .int ((mv 12) (7 * k + 2))), (3, .int ((mv 12) (7 * k + 1))), (2, .int (nI (7 * k))), (0, .ref (ab 0)), (1, .int (nI k))]) hx hb d_M_draw_22 hl (by decide) rfl (fun ls hl => ?_)
  refine lv_aload_n hx hb d_M_draw_24 rfl (lv_at hl 3 rfl) ?_
  refine va_get (D := (dC, dI)) (ci := 6) (v := .ref (ab 1)) (C := R_M) (T := F_M) (N := 20) hx hb hts i_M hown hK hP 0 rfl rfl 1 (by decide) (hts _ fl_M_7) (fun _ h9 => h9) rfl d_M_draw_25 ?_
  refine lv_iload_n hx hb d_M_draw_28 rfl (lv_at hl 2 rfl) ?_
  refine lv_iconst (v := 3) hx hb d_M_draw_29 (by decide) ?_
  refine lv_iadd hx hb d_M_draw_30 ?_
  rw [show nI (7 * k) + 3 = nI (7 * k + 3) from nI_add (7 * k) 3]
  refine va_iald hx hb hK hP 1 0 rfl rfl (vp_in_nI (by omega) (by omega)) d_M_draw_31 ?_
  rw [nI_clamp (show (7 * k + 3) < 2 ^ 31 by omega)]
  refine lv_istore (lv' := [(5, .int ((mv 12) (7 * k + 3))), (4, .int ((mv 12) (7 * k + 2))), (3, .int ((mv 12) (7 * k + 1))), (2, .int (nI (7 * k))), (0, .ref (ab 0)), (1, .int (nI k))]) hx hb d_M_draw_32 hl (by decide) rfl (fun ls hl => ?_)
  refine lv_aload_n hx hb d_M_draw_34 rfl (lv_at hl 4 rfl) ?_
  refine va_get (D := (dC, dI)) (ci := 6) (v := .ref (ab 1)) (C := R_M) (T := F_M) (N := 20) hx hb hts i_M hown hK hP 0 rfl rfl 1 (by decide) (hts _ fl_M_7) (fun _ h9 => h9) rfl d_M_draw_35 ?_
  refine lv_iload_n hx hb d_M_draw_38 rfl (lv_at hl 3 rfl) ?_
  refine va_iald hx hb hK hP 1 0 rfl rfl (vp_in_nI (by omega) (by omega)) d_M_draw_39 ?_
  rw [nI_clamp (show (7 * k) < 2 ^ 31 by omega)]
  refine lv_tableIn (off := 52) (tgt := 92) hx hb d_M_draw_40 (by rw [ek]; decide) (by rw [ek]; decide) (by rw [ek]; decide) (by decide) ?_
  refine lv_aload_n hx hb d_M_draw_92 rfl (lv_at hl 4 rfl) ?_
  refine va_get (D := (dC, dI)) (ci := 6) (v := .ref (ab 2)) (C := R_M) (T := F_M) (N := 20) hx hb hts i_M hown hK hP 0 rfl rfl 5 (by decide) (hts _ fl_M_13) (fun _ h9 => h9) rfl d_M_draw_93 ?_
  refine lv_aload_n hx hb d_M_draw_96 rfl (lv_at hl 4 rfl) ?_
  refine va_get (D := (dC, dI)) (ci := 6) (v := .int (nI (mn 0))) (C := R_M) (T := F_M) (N := 20) hx hb hts i_M hown hK hP 0 rfl rfl 4 (by decide) (hts _ fl_M_54) (fun _ h9 => h9) (by rw [← (eK 0 (by decide))]; rfl) d_M_draw_97 ?_
  refine lv_iload_n hx hb d_M_draw_100 rfl (lv_at hl 2 rfl) ?_
  refine va_iast hx hb hK hP hD hS 2 0 rfl rfl (vp_in_nI (by omega) (by omega)) d_M_draw_101 (fun H locs hP hD hS => ?_)
  rw [nI_clamp (show (mn 0) < 2 ^ 31 by omega)] at hP hD
  have hP : va_P (dC, dI) classes (wM ab cI cZ mk (va_up mv 0 (upd (mv 0) (mn 0) ((mv 12) (7 * k + 1))))) H := hP
  have hD : va_D (aN ab 14) (wM ab cI cZ mk (va_up mv 0 (upd (mv 0) (mn 0) ((mv 12) (7 * k + 1))))) := hD
  refine lv_aload_n hx hb d_M_draw_102 rfl (lv_at hl 4 rfl) ?_
  refine lv_dup hx hb d_M_draw_103 rfl ?_
  refine va_get (D := (dC, dI)) (ci := 6) (v := .int (nI (mn 0))) (C := R_M) (T := F_M) (N := 20) hx hb hts i_M hown hK hP 0 rfl rfl 4 (by decide) (hts _ fl_M_54) (fun _ h9 => h9) (by rw [← (eK 0 (by decide))]; rfl) d_M_draw_104 ?_
  refine lv_iconst (v := 1) hx hb d_M_draw_107 (by decide) ?_
  refine lv_iadd hx hb d_M_draw_108 ?_
  rw [nI_1]
  refine va_put (D := (dC, dI)) (ci := 6) (v := .int (nI ((mn 0) + 1))) (ty := .int) (C := R_M) (T := F_M) (N := 20) hx hb hts i_M ty_M tok_M n_M hown hK hP hD hS 0 rfl rfl 4 (by decide) (hts _ fl_M_54) (fun _ h9 => h9) rfl (by decide +kernel) rfl rfl (Nat.le_of_ble_eq_true rfl) d_M_draw_109 (fun H locs hP hD hS => ?_)
  have hP : va_P (dC, dI) classes (wM ab cI cZ (va_up mk 0 (nI ((mn 0) + 1))) (va_up mv 0 (upd (mv 0) (mn 0) ((mv 12) (7 * k + 1))))) H := hP
  have hD : va_D (aN ab 14) (wM ab cI cZ (va_up mk 0 (nI ((mn 0) + 1))) (va_up mv 0 (upd (mv 0) (mn 0) ((mv 12) (7 * k + 1))))) := hD
  refine lv_aload_n hx hb d_M_draw_112 rfl (lv_at hl 4 rfl) ?_
  refine va_get (D := (dC, dI)) (ci := 6) (v := .int (nI ((mn 0) + 1))) (C := R_M) (T := F_M) (N := 20) hx hb hts i_M hown hK hP 0 rfl rfl 4 (by decide) (hts _ fl_M_54) (fun _ h9 => h9) rfl d_M_draw_113 ?_
  refine lv_iconst (v := 1) hx hb d_M_draw_116 (by decide) ?_
  refine lv_isub hx hb d_M_draw_117 ?_
  rw [nI_pred]
  have er : ((some (.int (nI (mn 0)))) : Option Value) = some (.int (nI (mn 0))) := by rfl
  have hPe : va_P (dC, dI) classes (wM ab cI cZ (mkOf mk (va_up mn 0 (mn 0 + 1))) (u1 mv 0 (mn 0) (mv 12 (7 * k + 1)))) H := by rw [← wM_of (mk := va_up mk 0 (nI (mn 0 + 1))) (mk' := (mkOf mk (va_up mn 0 (mn 0 + 1)))) (lt7 rfl (eK 1 (by decide)) (eK 2 (by decide)) (eK 3 (by decide)) rfl rfl rfl)]; exact hP
  exact W.iret (v := (nI (mn 0))) hx hb hr (fun t ht hW => ⟨by rw [er], by rw [ht]; exact hPe, hS.F ht⟩) hS.2.2 d_M_draw_118
set_option maxRecDepth 100000 in
set_option maxHeartbeats 4000000 in
theorem c_M_draw_1 (hP : va_P (dC, dI) classes (wM ab cI cZ mk mv) H) (hdD : dD noT ab 14) (eK : ∀ i, i < 4 → mk i = nI (mn i)) {k : Nat} (hk : k < 200) (ek : mv 12 (7 * k) = 1) {t : Nat} (et : mv 12 (7 * k + 1) = nI t) (ht : t < 6)  : Met l y_M_draw (wB y_M_draw b_M_draw 6 (some .int)) ({ frames := 2, cells := 0, slots := 0, locals := 54 } : Room) (rP [.ref (ab 0), .int (nI k)] H (kK dC dI cI cZ cJ)) (qW (some (.int 0)) (aN ab 14) (fun H1 => va_P (dC, dI) classes (wM ab cI cZ (mkOf mk mn) (u1 mv 0 t (mv 12 (7 * k + 2)))) H1)) 0 0 (aN ab 14) := by
  refine Met.ofW (cc := b_M_draw) (maxL := 6) (ret := (some .int)) (by decide) rfl ?_
  intro p e s m args below meth c s₁ B hml hv
  obtain ⟨rfl, rfl, hK⟩ := hv
  have hx := B.exec
  have hb := B.bytes
  have hr := B.returns
  have hts0 := atoms_spec (ws := (wB y_M_draw b_M_draw 6 (some .int))) B.pre
  have hts : ∀ w9 ∈ BG, w9.before [.ref (ab 0), .int (nI k)].toArray s = true := fun w9 hw9 => hts0 w9 (List.mem_cons_of_mem _ hw9)
  have hown : s.vm.findClass R_M = some m.cls := findClass_of_methodNamed B.named
  have hlocks := B.notSynchronized
  have hK : va_K (dC, dI) classes [(cI, .int), (cZ, .boolean), (cJ, .long)] s := hK
  have hD : va_D (aN ab 14) (wM ab cI cZ mk mv) := wM_D (dD_aN hdD)
  have hS : va_S (aN ab 14) s.heap s.heap [] := va_S.rf
  have hl := lv_entry ([.ref (ab 0), .int (nI k)]) (n := 6) (Nat.le_of_ble_eq_true rfl)
  rw [lg_entry_eq]
  generalize (lg_sl ([.ref (ab 0), .int (nI k)]) ++ List.replicate (6 - (lg_sl ([.ref (ab 0), .int (nI k)])).length) Slot.unset).toArray = ls at hl ⊢
  have hl : lv_has ls 6 [(0, .ref (ab 0)), (1, .int (nI k))] := hl
  refine lv_bipush (v := 7) hx hb d_M_draw_0 (by decide) ?_
  refine lv_iload_n hx hb d_M_draw_2 rfl (lv_at hl 1 rfl) ?_
  refine lv_imul hx hb d_M_draw_3 ?_
  rw [show (7 : Int32) * nI k = nI (7 * k) from pk_mul 7 k]
  refine lv_istore_n (lv' := [(2, .int (nI (7 * k))), (0, .ref (ab 0)), (1, .int (nI k))]) hx hb d_M_draw_4 rfl hl (by decide) rfl (fun ls hl => ?_)
  refine lv_aload_n hx hb d_M_draw_5 rfl (lv_at hl 1 rfl) ?_
  refine va_get (D := (dC, dI)) (ci := 6) (v := .ref (ab 1)) (C := R_M) (T := F_M) (N := 20) hx hb hts i_M hown hK hP 0 rfl rfl 1 (by decide) (hts _ fl_M_7) (fun _ h9 => h9) rfl d_M_draw_6 ?_
  refine lv_iload_n hx hb d_M_draw_9 rfl (lv_at hl 0 rfl) ?_
  refine lv_iconst (v := 1) hx hb d_M_draw_10 (by decide) ?_
  refine lv_iadd hx hb d_M_draw_11 ?_
  rw [show nI (7 * k) + 1 = nI (7 * k + 1) from nI_add (7 * k) 1]
  refine va_iald hx hb hK hP 1 0 rfl rfl (vp_in_nI (by omega) (by omega)) d_M_draw_12 ?_
  rw [nI_clamp (show (7 * k + 1) < 2 ^ 31 by omega)]
  rw [et]
  refine lv_istore_n (lv' := [(3, .int (nI t)), (2, .int (nI (7 * k))), (0, .ref (ab 0)), (1, .int (nI k))]) hx hb d_M_draw_13 rfl hl (by decide) rfl (fun ls hl => ?_)
  refine lv_aload_n hx hb d_M_draw_14 rfl (lv_at hl 2 rfl) ?_
  refine va_get (D := (dC, dI)) (ci := 6) (v := .ref (ab 1)) (C := R_M) (T := F_M) (N := 20) hx hb hts i_M hown hK hP 0 rfl rfl 1 (by decide) (hts _ fl_M_7) (fun _ h9 => h9) rfl d_M_draw_15 ?_
  refine lv_iload_n hx hb d_M_draw_18 rfl (lv_at hl 1 rfl) ?_
  refine lv_iconst (v := 2) hx hb d_M_draw_19 (by decide) ?_
  refine lv_iadd hx hb d_M_draw_20 ?_
  rw [show nI (7 * k) + 2 = nI (7 * k + 2) from nI_add (7 * k) 2]
  refine va_iald hx hb hK hP 1 0 rfl rfl (vp_in_nI (by omega) (by omega)) d_M_draw_21 ?_
  rw [nI_clamp (show (7 * k + 2) < 2 ^ 31 by omega)]
  refine lv_istore (lv' := [(4, .int ((mv 12) (7 * k + 2))), (3, .int (nI t)), (2, .int (nI (7 * k))), (0, .ref (ab 0)), (1, .int (nI k))]) hx hb d_M_draw_22 hl (by decide) rfl (fun ls hl => ?_)
  refine lv_aload_n hx hb d_M_draw_24 rfl (lv_at hl 3 rfl) ?_
  refine va_get (D := (dC, dI)) (ci := 6) (v := .ref (ab 1)) (C := R_M) (T := F_M) (N := 20) hx hb hts i_M hown hK hP 0 rfl rfl 1 (by decide) (hts _ fl_M_7) (fun _ h9 => h9) rfl d_M_draw_25 ?_
  refine lv_iload_n hx hb d_M_draw_28 rfl (lv_at hl 2 rfl) ?_
  refine lv_iconst (v := 3) hx hb d_M_draw_29 (by decide) ?_
  refine lv_iadd hx hb d_M_draw_30 ?_
  rw [show nI (7 * k) + 3 = nI (7 * k + 3) from nI_add (7 * k) 3]
  refine va_iald hx hb hK hP 1 0 rfl rfl (vp_in_nI (by omega) (by omega)) d_M_draw_31 ?_
  rw [nI_clamp (show (7 * k + 3) < 2 ^ 31 by omega)]
  refine lv_istore (lv' := [(5, .int ((mv 12) (7 * k + 3))), (4, .int ((mv 12) (7 * k + 2))), (3, .int (nI t)), (2, .int (nI (7 * k))), (0, .ref (ab 0)), (1, .int (nI k))]) hx hb d_M_draw_32 hl (by decide) rfl (fun ls hl => ?_)
  refine lv_aload_n hx hb d_M_draw_34 rfl (lv_at hl 4 rfl) ?_
  refine va_get (D := (dC, dI)) (ci := 6) (v := .ref (ab 1)) (C := R_M) (T := F_M) (N := 20) hx hb hts i_M hown hK hP 0 rfl rfl 1 (by decide) (hts _ fl_M_7) (fun _ h9 => h9) rfl d_M_draw_35 ?_
  refine lv_iload_n hx hb d_M_draw_38 rfl (lv_at hl 3 rfl) ?_
  refine va_iald hx hb hK hP 1 0 rfl rfl (vp_in_nI (by omega) (by omega)) d_M_draw_39 ?_
  rw [nI_clamp (show (7 * k) < 2 ^ 31 by omega)]
  refine lv_tableIn (off := 79) (tgt := 119) hx hb d_M_draw_40 (by rw [ek]; decide) (by rw [ek]; decide) (by rw [ek]; decide) (by decide) ?_
  refine lv_aload_n hx hb d_M_draw_119 rfl (lv_at hl 4 rfl) ?_
  refine va_get (D := (dC, dI)) (ci := 6) (v := .ref (ab 2)) (C := R_M) (T := F_M) (N := 20) hx hb hts i_M hown hK hP 0 rfl rfl 5 (by decide) (hts _ fl_M_13) (fun _ h9 => h9) rfl d_M_draw_120 ?_
  refine lv_iload_n hx hb d_M_draw_123 rfl (lv_at hl 2 rfl) ?_
  refine lv_iload hx hb d_M_draw_124 (lv_at hl 1 rfl) ?_
  refine va_iast hx hb hK hP hD hS 2 0 rfl rfl (vp_in_nI (by omega) (by omega)) d_M_draw_126 (fun H locs hP hD hS => ?_)
  rw [nI_clamp (show t < 2 ^ 31 by omega)] at hP hD
  have hP : va_P (dC, dI) classes (wM ab cI cZ mk (va_up mv 0 (upd (mv 0) t ((mv 12) (7 * k + 2))))) H := hP
  have hD : va_D (aN ab 14) (wM ab cI cZ mk (va_up mv 0 (upd (mv 0) t ((mv 12) (7 * k + 2))))) := hD
  refine lv_iconst (v := 0) hx hb d_M_draw_127 (by decide) ?_
  have er : ((some (.int 0)) : Option Value) = some (.int 0) := by rfl
  have hPe : va_P (dC, dI) classes (wM ab cI cZ (mkOf mk mn) (u1 mv 0 t (mv 12 (7 * k + 2)))) H := by rw [← wM_of (mk := mk) (mk' := (mkOf mk mn)) (lt7 (eK 0 (by decide)) (eK 1 (by decide)) (eK 2 (by decide)) (eK 3 (by decide)) rfl rfl rfl)]; exact hP
  exact W.iret (v := 0) hx hb hr (fun t ht hW => ⟨by rw [er], by rw [ht]; exact hPe, hS.F ht⟩) hS.2.2 d_M_draw_128
set_option maxRecDepth 100000 in
set_option maxHeartbeats 4000000 in
theorem c_M_draw_2 (hP : va_P (dC, dI) classes (wM ab cI cZ mk mv) H) (hdD : dD noT ab 14) (eK : ∀ i, i < 4 → mk i = nI (mn i)) {k : Nat} (hk : k < 200) (ek : mv 12 (7 * k) = 2) (hn : mn 1 < 8) : Met l y_M_draw (wB y_M_draw b_M_draw 6 (some .int)) ({ frames := 2, cells := 0, slots := 0, locals := 54 } : Room) (rP [.ref (ab 0), .int (nI k)] H (kK dC dI cI cZ cJ)) (qW (some (.int (nI (mn 1)))) (aN ab 14) (fun H1 => va_P (dC, dI) classes (wM ab cI cZ (mkOf mk (va_up mn 1 (mn 1 + 1))) (u1 mv 1 (mn 1) (mv 12 (7 * k + 1)))) H1)) 0 0 (aN ab 14) := by
  refine Met.ofW (cc := b_M_draw) (maxL := 6) (ret := (some .int)) (by decide) rfl ?_
  intro p e s m args below meth c s₁ B hml hv
  obtain ⟨rfl, rfl, hK⟩ := hv
  have hx := B.exec
  have hb := B.bytes
  have hr := B.returns
  have hts0 := atoms_spec (ws := (wB y_M_draw b_M_draw 6 (some .int))) B.pre
  have hts : ∀ w9 ∈ BG, w9.before [.ref (ab 0), .int (nI k)].toArray s = true := fun w9 hw9 => hts0 w9 (List.mem_cons_of_mem _ hw9)
  have hown : s.vm.findClass R_M = some m.cls := findClass_of_methodNamed B.named
  have hlocks := B.notSynchronized
  have hK : va_K (dC, dI) classes [(cI, .int), (cZ, .boolean), (cJ, .long)] s := hK
  have hD : va_D (aN ab 14) (wM ab cI cZ mk mv) := wM_D (dD_aN hdD)
  have hS : va_S (aN ab 14) s.heap s.heap [] := va_S.rf
  have hl := lv_entry ([.ref (ab 0), .int (nI k)]) (n := 6) (Nat.le_of_ble_eq_true rfl)
  rw [lg_entry_eq]
  generalize (lg_sl ([.ref (ab 0), .int (nI k)]) ++ List.replicate (6 - (lg_sl ([.ref (ab 0), .int (nI k)])).length) Slot.unset).toArray = ls at hl ⊢
  have hl : lv_has ls 6 [(0, .ref (ab 0)), (1, .int (nI k))] := hl
  refine lv_bipush (v := 7) hx hb d_M_draw_0 (by decide) ?_
  refine lv_iload_n hx hb d_M_draw_2 rfl (lv_at hl 1 rfl) ?_
  refine lv_imul hx hb d_M_draw_3 ?_
  rw [show (7 : Int32) * nI k = nI (7 * k) from pk_mul 7 k]
  refine lv_istore_n (lv' := [(2, .int (nI (7 * k))), (0, .ref (ab 0)), (1, .int (nI k))]) hx hb d_M_draw_4 rfl hl (by decide) rfl (fun ls hl => ?_)
  refine lv_aload_n hx hb d_M_draw_5 rfl (lv_at hl 1 rfl) ?_
  refine va_get (D := (dC, dI)) (ci := 6) (v := .ref (ab 1)) (C := R_M) (T := F_M) (N := 20) hx hb hts i_M hown hK hP 0 rfl rfl 1 (by decide) (hts _ fl_M_7) (fun _ h9 => h9) rfl d_M_draw_6 ?_
  refine lv_iload_n hx hb d_M_draw_9 rfl (lv_at hl 0 rfl) ?_
  refine lv_iconst (v := 1) hx hb d_M_draw_10 (by decide) ?_
  refine lv_iadd hx hb d_M_draw_11 ?_
  rw [show nI (7 * k) + 1 = nI (7 * k + 1) from nI_add (7 * k) 1]
  refine va_iald hx hb hK hP 1 0 rfl rfl (vp_in_nI (by omega) (by omega)) d_M_draw_12 ?_
  rw [nI_clamp (show (7 * k + 1) < 2 ^ 31 by omega)]
  refine lv_istore_n (lv' := [(3, .int ((mv 12) (7 * k + 1))), (2, .int (nI (7 * k))), (0, .ref (ab 0)), (1, .int (nI k))]) hx hb d_M_draw_13 rfl hl (by decide) rfl (fun ls hl => ?_)
  refine lv_aload_n hx hb d_M_draw_14 rfl (lv_at hl 2 rfl) ?_
  refine va_get (D := (dC, dI)) (ci := 6) (v := .ref (ab 1)) (C := R_M) (T := F_M) (N := 20) hx hb hts i_M hown hK hP 0 rfl rfl 1 (by decide) (hts _ fl_M_7) (fun _ h9 => h9) rfl d_M_draw_15 ?_
  refine lv_iload_n hx hb d_M_draw_18 rfl (lv_at hl 1 rfl) ?_
  refine lv_iconst (v := 2) hx hb d_M_draw_19 (by decide) ?_
  refine lv_iadd hx hb d_M_draw_20 ?_
  rw [show nI (7 * k) + 2 = nI (7 * k + 2) from nI_add (7 * k) 2]
  refine va_iald hx hb hK hP 1 0 rfl rfl (vp_in_nI (by omega) (by omega)) d_M_draw_21 ?_
  rw [nI_clamp (show (7 * k + 2) < 2 ^ 31 by omega)]
  refine lv_istore (lv' := [(4, .int ((mv 12) (7 * k + 2))), (3, .int ((mv 12) (7 * k + 1))), (2, .int (nI (7 * k))), (0, .ref (ab 0)), (1, .int (nI k))]) hx hb d_M_draw_22 hl (by decide) rfl (fun ls hl => ?_)
  refine lv_aload_n hx hb d_M_draw_24 rfl (lv_at hl 3 rfl) ?_
  refine va_get (D := (dC, dI)) (ci := 6) (v := .ref (ab 1)) (C := R_M) (T := F_M) (N := 20) hx hb hts i_M hown hK hP 0 rfl rfl 1 (by decide) (hts _ fl_M_7) (fun _ h9 => h9) rfl d_M_draw_25 ?_
  refine lv_iload_n hx hb d_M_draw_28 rfl (lv_at hl 2 rfl) ?_
  refine lv_iconst (v := 3) hx hb d_M_draw_29 (by decide) ?_
  refine lv_iadd hx hb d_M_draw_30 ?_
  rw [show nI (7 * k) + 3 = nI (7 * k + 3) from nI_add (7 * k) 3]
  refine va_iald hx hb hK hP 1 0 rfl rfl (vp_in_nI (by omega) (by omega)) d_M_draw_31 ?_
  rw [nI_clamp (show (7 * k + 3) < 2 ^ 31 by omega)]
  refine lv_istore (lv' := [(5, .int ((mv 12) (7 * k + 3))), (4, .int ((mv 12) (7 * k + 2))), (3, .int ((mv 12) (7 * k + 1))), (2, .int (nI (7 * k))), (0, .ref (ab 0)), (1, .int (nI k))]) hx hb d_M_draw_32 hl (by decide) rfl (fun ls hl => ?_)
  refine lv_aload_n hx hb d_M_draw_34 rfl (lv_at hl 4 rfl) ?_
  refine va_get (D := (dC, dI)) (ci := 6) (v := .ref (ab 1)) (C := R_M) (T := F_M) (N := 20) hx hb hts i_M hown hK hP 0 rfl rfl 1 (by decide) (hts _ fl_M_7) (fun _ h9 => h9) rfl d_M_draw_35 ?_
  refine lv_iload_n hx hb d_M_draw_38 rfl (lv_at hl 3 rfl) ?_
  refine va_iald hx hb hK hP 1 0 rfl rfl (vp_in_nI (by omega) (by omega)) d_M_draw_39 ?_
  rw [nI_clamp (show (7 * k) < 2 ^ 31 by omega)]
  refine lv_tableIn (off := 89) (tgt := 129) hx hb d_M_draw_40 (by rw [ek]; decide) (by rw [ek]; decide) (by rw [ek]; decide) (by decide) ?_
  refine lv_aload_n hx hb d_M_draw_129 rfl (lv_at hl 4 rfl) ?_
  refine va_get (D := (dC, dI)) (ci := 6) (v := .ref (ab 3)) (C := R_M) (T := F_M) (N := 20) hx hb hts i_M hown hK hP 0 rfl rfl 7 (by decide) (hts _ fl_M_16) (fun _ h9 => h9) rfl d_M_draw_130 ?_
  refine lv_aload_n hx hb d_M_draw_133 rfl (lv_at hl 4 rfl) ?_
  refine va_get (D := (dC, dI)) (ci := 6) (v := .int (nI (mn 1))) (C := R_M) (T := F_M) (N := 20) hx hb hts i_M hown hK hP 0 rfl rfl 6 (by decide) (hts _ fl_M_57) (fun _ h9 => h9) (by rw [← (eK 1 (by decide))]; rfl) d_M_draw_134 ?_
  refine lv_iload_n hx hb d_M_draw_137 rfl (lv_at hl 2 rfl) ?_
  refine va_iast hx hb hK hP hD hS 3 0 rfl rfl (vp_in_nI (by omega) (by omega)) d_M_draw_138 (fun H locs hP hD hS => ?_)
  rw [nI_clamp (show (mn 1) < 2 ^ 31 by omega)] at hP hD
  have hP : va_P (dC, dI) classes (wM ab cI cZ mk (va_up mv 1 (upd (mv 1) (mn 1) ((mv 12) (7 * k + 1))))) H := hP
  have hD : va_D (aN ab 14) (wM ab cI cZ mk (va_up mv 1 (upd (mv 1) (mn 1) ((mv 12) (7 * k + 1))))) := hD
  refine lv_aload_n hx hb d_M_draw_139 rfl (lv_at hl 4 rfl) ?_
  refine lv_dup hx hb d_M_draw_140 rfl ?_
  refine va_get (D := (dC, dI)) (ci := 6) (v := .int (nI (mn 1))) (C := R_M) (T := F_M) (N := 20) hx hb hts i_M hown hK hP 0 rfl rfl 6 (by decide) (hts _ fl_M_57) (fun _ h9 => h9) (by rw [← (eK 1 (by decide))]; rfl) d_M_draw_141 ?_
  refine lv_iconst (v := 1) hx hb d_M_draw_144 (by decide) ?_
  refine lv_iadd hx hb d_M_draw_145 ?_
  rw [nI_1]
  refine va_put (D := (dC, dI)) (ci := 6) (v := .int (nI ((mn 1) + 1))) (ty := .int) (C := R_M) (T := F_M) (N := 20) hx hb hts i_M ty_M tok_M n_M hown hK hP hD hS 0 rfl rfl 6 (by decide) (hts _ fl_M_57) (fun _ h9 => h9) rfl (by decide +kernel) rfl rfl (Nat.le_of_ble_eq_true rfl) d_M_draw_146 (fun H locs hP hD hS => ?_)
  have hP : va_P (dC, dI) classes (wM ab cI cZ (va_up mk 1 (nI ((mn 1) + 1))) (va_up mv 1 (upd (mv 1) (mn 1) ((mv 12) (7 * k + 1))))) H := hP
  have hD : va_D (aN ab 14) (wM ab cI cZ (va_up mk 1 (nI ((mn 1) + 1))) (va_up mv 1 (upd (mv 1) (mn 1) ((mv 12) (7 * k + 1))))) := hD
  refine lv_aload_n hx hb d_M_draw_149 rfl (lv_at hl 4 rfl) ?_
  refine va_get (D := (dC, dI)) (ci := 6) (v := .int (nI ((mn 1) + 1))) (C := R_M) (T := F_M) (N := 20) hx hb hts i_M hown hK hP 0 rfl rfl 6 (by decide) (hts _ fl_M_57) (fun _ h9 => h9) rfl d_M_draw_150 ?_
  refine lv_iconst (v := 1) hx hb d_M_draw_153 (by decide) ?_
  refine lv_isub hx hb d_M_draw_154 ?_
  rw [nI_pred]
  have er : ((some (.int (nI (mn 1)))) : Option Value) = some (.int (nI (mn 1))) := by rfl
  have hPe : va_P (dC, dI) classes (wM ab cI cZ (mkOf mk (va_up mn 1 (mn 1 + 1))) (u1 mv 1 (mn 1) (mv 12 (7 * k + 1)))) H := by rw [← wM_of (mk := va_up mk 1 (nI (mn 1 + 1))) (mk' := (mkOf mk (va_up mn 1 (mn 1 + 1)))) (lt7 (eK 0 (by decide)) rfl (eK 2 (by decide)) (eK 3 (by decide)) rfl rfl rfl)]; exact hP
  exact W.iret (v := (nI (mn 1))) hx hb hr (fun t ht hW => ⟨by rw [er], by rw [ht]; exact hPe, hS.F ht⟩) hS.2.2 d_M_draw_155
set_option maxRecDepth 100000 in
set_option maxHeartbeats 4000000 in
theorem c_M_draw_3 (hP : va_P (dC, dI) classes (wM ab cI cZ mk mv) H) (hdD : dD noT ab 14) (eK : ∀ i, i < 4 → mk i = nI (mn i)) {k : Nat} (hk : k < 200) (ek : mv 12 (7 * k) = 3) {t : Nat} (et : mv 12 (7 * k + 1) = nI t) (ht : t < 8)  : Met l y_M_draw (wB y_M_draw b_M_draw 6 (some .int)) ({ frames := 2, cells := 0, slots := 0, locals := 54 } : Room) (rP [.ref (ab 0), .int (nI k)] H (kK dC dI cI cZ cJ)) (qW (some (.int 0)) (aN ab 14) (fun H1 => va_P (dC, dI) classes (wM ab cI cZ (mkOf mk mn) (u1 mv 1 t (mv 12 (7 * k + 2)))) H1)) 0 0 (aN ab 14) := by
  refine Met.ofW (cc := b_M_draw) (maxL := 6) (ret := (some .int)) (by decide) rfl ?_
  intro p e s m args below meth c s₁ B hml hv
  obtain ⟨rfl, rfl, hK⟩ := hv
  have hx := B.exec
  have hb := B.bytes
  have hr := B.returns
  have hts0 := atoms_spec (ws := (wB y_M_draw b_M_draw 6 (some .int))) B.pre
  have hts : ∀ w9 ∈ BG, w9.before [.ref (ab 0), .int (nI k)].toArray s = true := fun w9 hw9 => hts0 w9 (List.mem_cons_of_mem _ hw9)
  have hown : s.vm.findClass R_M = some m.cls := findClass_of_methodNamed B.named
  have hlocks := B.notSynchronized
  have hK : va_K (dC, dI) classes [(cI, .int), (cZ, .boolean), (cJ, .long)] s := hK
  have hD : va_D (aN ab 14) (wM ab cI cZ mk mv) := wM_D (dD_aN hdD)
  have hS : va_S (aN ab 14) s.heap s.heap [] := va_S.rf
  have hl := lv_entry ([.ref (ab 0), .int (nI k)]) (n := 6) (Nat.le_of_ble_eq_true rfl)
  rw [lg_entry_eq]
  generalize (lg_sl ([.ref (ab 0), .int (nI k)]) ++ List.replicate (6 - (lg_sl ([.ref (ab 0), .int (nI k)])).length) Slot.unset).toArray = ls at hl ⊢
  have hl : lv_has ls 6 [(0, .ref (ab 0)), (1, .int (nI k))] := hl
  refine lv_bipush (v := 7) hx hb d_M_draw_0 (by decide) ?_
  refine lv_iload_n hx hb d_M_draw_2 rfl (lv_at hl 1 rfl) ?_
  refine lv_imul hx hb d_M_draw_3 ?_
  rw [show (7 : Int32) * nI k = nI (7 * k) from pk_mul 7 k]
  refine lv_istore_n (lv' := [(2, .int (nI (7 * k))), (0, .ref (ab 0)), (1, .int (nI k))]) hx hb d_M_draw_4 rfl hl (by decide) rfl (fun ls hl => ?_)
  refine lv_aload_n hx hb d_M_draw_5 rfl (lv_at hl 1 rfl) ?_
  refine va_get (D := (dC, dI)) (ci := 6) (v := .ref (ab 1)) (C := R_M) (T := F_M) (N := 20) hx hb hts i_M hown hK hP 0 rfl rfl 1 (by decide) (hts _ fl_M_7) (fun _ h9 => h9) rfl d_M_draw_6 ?_
  refine lv_iload_n hx hb d_M_draw_9 rfl (lv_at hl 0 rfl) ?_
  refine lv_iconst (v := 1) hx hb d_M_draw_10 (by decide) ?_
  refine lv_iadd hx hb d_M_draw_11 ?_
  rw [show nI (7 * k) + 1 = nI (7 * k + 1) from nI_add (7 * k) 1]
  refine va_iald hx hb hK hP 1 0 rfl rfl (vp_in_nI (by omega) (by omega)) d_M_draw_12 ?_
  rw [nI_clamp (show (7 * k + 1) < 2 ^ 31 by omega)]
  rw [et]
  refine lv_istore_n (lv' := [(3, .int (nI t)), (2, .int (nI (7 * k))), (0, .ref (ab 0)), (1, .int (nI k))]) hx hb d_M_draw_13 rfl hl (by decide) rfl (fun ls hl => ?_)
  refine lv_aload_n hx hb d_M_draw_14 rfl (lv_at hl 2 rfl) ?_
  refine va_get (D := (dC, dI)) (ci := 6) (v := .ref (ab 1)) (C := R_M) (T := F_M) (N := 20) hx hb hts i_M hown hK hP 0 rfl rfl 1 (by decide) (hts _ fl_M_7) (fun _ h9 => h9) rfl d_M_draw_15 ?_
  refine lv_iload_n hx hb d_M_draw_18 rfl (lv_at hl 1 rfl) ?_
  refine lv_iconst (v := 2) hx hb d_M_draw_19 (by decide) ?_
  refine lv_iadd hx hb d_M_draw_20 ?_
  rw [show nI (7 * k) + 2 = nI (7 * k + 2) from nI_add (7 * k) 2]
  refine va_iald hx hb hK hP 1 0 rfl rfl (vp_in_nI (by omega) (by omega)) d_M_draw_21 ?_
  rw [nI_clamp (show (7 * k + 2) < 2 ^ 31 by omega)]
  refine lv_istore (lv' := [(4, .int ((mv 12) (7 * k + 2))), (3, .int (nI t)), (2, .int (nI (7 * k))), (0, .ref (ab 0)), (1, .int (nI k))]) hx hb d_M_draw_22 hl (by decide) rfl (fun ls hl => ?_)
  refine lv_aload_n hx hb d_M_draw_24 rfl (lv_at hl 3 rfl) ?_
  refine va_get (D := (dC, dI)) (ci := 6) (v := .ref (ab 1)) (C := R_M) (T := F_M) (N := 20) hx hb hts i_M hown hK hP 0 rfl rfl 1 (by decide) (hts _ fl_M_7) (fun _ h9 => h9) rfl d_M_draw_25 ?_
  refine lv_iload_n hx hb d_M_draw_28 rfl (lv_at hl 2 rfl) ?_
  refine lv_iconst (v := 3) hx hb d_M_draw_29 (by decide) ?_
  refine lv_iadd hx hb d_M_draw_30 ?_
  rw [show nI (7 * k) + 3 = nI (7 * k + 3) from nI_add (7 * k) 3]
  refine va_iald hx hb hK hP 1 0 rfl rfl (vp_in_nI (by omega) (by omega)) d_M_draw_31 ?_
  rw [nI_clamp (show (7 * k + 3) < 2 ^ 31 by omega)]
  refine lv_istore (lv' := [(5, .int ((mv 12) (7 * k + 3))), (4, .int ((mv 12) (7 * k + 2))), (3, .int (nI t)), (2, .int (nI (7 * k))), (0, .ref (ab 0)), (1, .int (nI k))]) hx hb d_M_draw_32 hl (by decide) rfl (fun ls hl => ?_)
  refine lv_aload_n hx hb d_M_draw_34 rfl (lv_at hl 4 rfl) ?_
  refine va_get (D := (dC, dI)) (ci := 6) (v := .ref (ab 1)) (C := R_M) (T := F_M) (N := 20) hx hb hts i_M hown hK hP 0 rfl rfl 1 (by decide) (hts _ fl_M_7) (fun _ h9 => h9) rfl d_M_draw_35 ?_
  refine lv_iload_n hx hb d_M_draw_38 rfl (lv_at hl 3 rfl) ?_
  refine va_iald hx hb hK hP 1 0 rfl rfl (vp_in_nI (by omega) (by omega)) d_M_draw_39 ?_
  rw [nI_clamp (show (7 * k) < 2 ^ 31 by omega)]
  refine lv_tableIn (off := 116) (tgt := 156) hx hb d_M_draw_40 (by rw [ek]; decide) (by rw [ek]; decide) (by rw [ek]; decide) (by decide) ?_
  refine lv_aload_n hx hb d_M_draw_156 rfl (lv_at hl 4 rfl) ?_
  refine va_get (D := (dC, dI)) (ci := 6) (v := .ref (ab 3)) (C := R_M) (T := F_M) (N := 20) hx hb hts i_M hown hK hP 0 rfl rfl 7 (by decide) (hts _ fl_M_16) (fun _ h9 => h9) rfl d_M_draw_157 ?_
  refine lv_iload_n hx hb d_M_draw_160 rfl (lv_at hl 2 rfl) ?_
  refine lv_iload hx hb d_M_draw_161 (lv_at hl 1 rfl) ?_
  refine va_iast hx hb hK hP hD hS 3 0 rfl rfl (vp_in_nI (by omega) (by omega)) d_M_draw_163 (fun H locs hP hD hS => ?_)
  rw [nI_clamp (show t < 2 ^ 31 by omega)] at hP hD
  have hP : va_P (dC, dI) classes (wM ab cI cZ mk (va_up mv 1 (upd (mv 1) t ((mv 12) (7 * k + 2))))) H := hP
  have hD : va_D (aN ab 14) (wM ab cI cZ mk (va_up mv 1 (upd (mv 1) t ((mv 12) (7 * k + 2))))) := hD
  refine lv_iconst (v := 0) hx hb d_M_draw_164 (by decide) ?_
  have er : ((some (.int 0)) : Option Value) = some (.int 0) := by rfl
  have hPe : va_P (dC, dI) classes (wM ab cI cZ (mkOf mk mn) (u1 mv 1 t (mv 12 (7 * k + 2)))) H := by rw [← wM_of (mk := mk) (mk' := (mkOf mk mn)) (lt7 (eK 0 (by decide)) (eK 1 (by decide)) (eK 2 (by decide)) (eK 3 (by decide)) rfl rfl rfl)]; exact hP
  exact W.iret (v := 0) hx hb hr (fun t ht hW => ⟨by rw [er], by rw [ht]; exact hPe, hS.F ht⟩) hS.2.2 d_M_draw_165
set_option maxRecDepth 100000 in
set_option maxHeartbeats 4000000 in
theorem c_M_draw_4 (hP : va_P (dC, dI) classes (wM ab cI cZ mk mv) H) (hdD : dD noT ab 14) (eK : ∀ i, i < 4 → mk i = nI (mn i)) {k : Nat} (hk : k < 200) (ek : mv 12 (7 * k) = 4) (hn : mn 2 < 40) : Met l y_M_draw (wB y_M_draw b_M_draw 6 (some .int)) ({ frames := 2, cells := 0, slots := 0, locals := 54 } : Room) (rP [.ref (ab 0), .int (nI k)] H (kK dC dI cI cZ cJ)) (qW (some (.int (nI (mn 2)))) (aN ab 14) (fun H1 => va_P (dC, dI) classes (wM ab cI cZ (mkOf mk (va_up mn 2 (mn 2 + 1))) (adV mv (mn 2) (mv 12 (7 * k + 1)) (mv 12 (7 * k + 2)) (mv 12 (7 * k + 3)) (mv 12 (7 * k + 4)) (mv 12 (7 * k + 5)) (mv 12 (7 * k + 6)))) H1)) 0 0 (aN ab 14) := by
  refine Met.ofW (cc := b_M_draw) (maxL := 6) (ret := (some .int)) (by decide) rfl ?_
  intro p e s m args below meth c s₁ B hml hv
  obtain ⟨rfl, rfl, hK⟩ := hv
  have hx := B.exec
  have hb := B.bytes
  have hr := B.returns
  have hts0 := atoms_spec (ws := (wB y_M_draw b_M_draw 6 (some .int))) B.pre
  have hts : ∀ w9 ∈ BG, w9.before [.ref (ab 0), .int (nI k)].toArray s = true := fun w9 hw9 => hts0 w9 (List.mem_cons_of_mem _ hw9)
  have hown : s.vm.findClass R_M = some m.cls := findClass_of_methodNamed B.named
  have hlocks := B.notSynchronized
  have hK : va_K (dC, dI) classes [(cI, .int), (cZ, .boolean), (cJ, .long)] s := hK
  have hD : va_D (aN ab 14) (wM ab cI cZ mk mv) := wM_D (dD_aN hdD)
  have hS : va_S (aN ab 14) s.heap s.heap [] := va_S.rf
  have hl := lv_entry ([.ref (ab 0), .int (nI k)]) (n := 6) (Nat.le_of_ble_eq_true rfl)
  rw [lg_entry_eq]
  generalize (lg_sl ([.ref (ab 0), .int (nI k)]) ++ List.replicate (6 - (lg_sl ([.ref (ab 0), .int (nI k)])).length) Slot.unset).toArray = ls at hl ⊢
  have hl : lv_has ls 6 [(0, .ref (ab 0)), (1, .int (nI k))] := hl
  refine lv_bipush (v := 7) hx hb d_M_draw_0 (by decide) ?_
  refine lv_iload_n hx hb d_M_draw_2 rfl (lv_at hl 1 rfl) ?_
  refine lv_imul hx hb d_M_draw_3 ?_
  rw [show (7 : Int32) * nI k = nI (7 * k) from pk_mul 7 k]
  refine lv_istore_n (lv' := [(2, .int (nI (7 * k))), (0, .ref (ab 0)), (1, .int (nI k))]) hx hb d_M_draw_4 rfl hl (by decide) rfl (fun ls hl => ?_)
  refine lv_aload_n hx hb d_M_draw_5 rfl (lv_at hl 1 rfl) ?_
  refine va_get (D := (dC, dI)) (ci := 6) (v := .ref (ab 1)) (C := R_M) (T := F_M) (N := 20) hx hb hts i_M hown hK hP 0 rfl rfl 1 (by decide) (hts _ fl_M_7) (fun _ h9 => h9) rfl d_M_draw_6 ?_
  refine lv_iload_n hx hb d_M_draw_9 rfl (lv_at hl 0 rfl) ?_
  refine lv_iconst (v := 1) hx hb d_M_draw_10 (by decide) ?_
  refine lv_iadd hx hb d_M_draw_11 ?_
  rw [show nI (7 * k) + 1 = nI (7 * k + 1) from nI_add (7 * k) 1]
  refine va_iald hx hb hK hP 1 0 rfl rfl (vp_in_nI (by omega) (by omega)) d_M_draw_12 ?_
  rw [nI_clamp (show (7 * k + 1) < 2 ^ 31 by omega)]
  refine lv_istore_n (lv' := [(3, .int ((mv 12) (7 * k + 1))), (2, .int (nI (7 * k))), (0, .ref (ab 0)), (1, .int (nI k))]) hx hb d_M_draw_13 rfl hl (by decide) rfl (fun ls hl => ?_)
  refine lv_aload_n hx hb d_M_draw_14 rfl (lv_at hl 2 rfl) ?_
  refine va_get (D := (dC, dI)) (ci := 6) (v := .ref (ab 1)) (C := R_M) (T := F_M) (N := 20) hx hb hts i_M hown hK hP 0 rfl rfl 1 (by decide) (hts _ fl_M_7) (fun _ h9 => h9) rfl d_M_draw_15 ?_
  refine lv_iload_n hx hb d_M_draw_18 rfl (lv_at hl 1 rfl) ?_
  refine lv_iconst (v := 2) hx hb d_M_draw_19 (by decide) ?_
  refine lv_iadd hx hb d_M_draw_20 ?_
  rw [show nI (7 * k) + 2 = nI (7 * k + 2) from nI_add (7 * k) 2]
  refine va_iald hx hb hK hP 1 0 rfl rfl (vp_in_nI (by omega) (by omega)) d_M_draw_21 ?_
  rw [nI_clamp (show (7 * k + 2) < 2 ^ 31 by omega)]
  refine lv_istore (lv' := [(4, .int ((mv 12) (7 * k + 2))), (3, .int ((mv 12) (7 * k + 1))), (2, .int (nI (7 * k))), (0, .ref (ab 0)), (1, .int (nI k))]) hx hb d_M_draw_22 hl (by decide) rfl (fun ls hl => ?_)
  refine lv_aload_n hx hb d_M_draw_24 rfl (lv_at hl 3 rfl) ?_
  refine va_get (D := (dC, dI)) (ci := 6) (v := .ref (ab 1)) (C := R_M) (T := F_M) (N := 20) hx hb hts i_M hown hK hP 0 rfl rfl 1 (by decide) (hts _ fl_M_7) (fun _ h9 => h9) rfl d_M_draw_25 ?_
  refine lv_iload_n hx hb d_M_draw_28 rfl (lv_at hl 2 rfl) ?_
  refine lv_iconst (v := 3) hx hb d_M_draw_29 (by decide) ?_
  refine lv_iadd hx hb d_M_draw_30 ?_
  rw [show nI (7 * k) + 3 = nI (7 * k + 3) from nI_add (7 * k) 3]
  refine va_iald hx hb hK hP 1 0 rfl rfl (vp_in_nI (by omega) (by omega)) d_M_draw_31 ?_
  rw [nI_clamp (show (7 * k + 3) < 2 ^ 31 by omega)]
  refine lv_istore (lv' := [(5, .int ((mv 12) (7 * k + 3))), (4, .int ((mv 12) (7 * k + 2))), (3, .int ((mv 12) (7 * k + 1))), (2, .int (nI (7 * k))), (0, .ref (ab 0)), (1, .int (nI k))]) hx hb d_M_draw_32 hl (by decide) rfl (fun ls hl => ?_)
  refine lv_aload_n hx hb d_M_draw_34 rfl (lv_at hl 4 rfl) ?_
  refine va_get (D := (dC, dI)) (ci := 6) (v := .ref (ab 1)) (C := R_M) (T := F_M) (N := 20) hx hb hts i_M hown hK hP 0 rfl rfl 1 (by decide) (hts _ fl_M_7) (fun _ h9 => h9) rfl d_M_draw_35 ?_
  refine lv_iload_n hx hb d_M_draw_38 rfl (lv_at hl 3 rfl) ?_
  refine va_iald hx hb hK hP 1 0 rfl rfl (vp_in_nI (by omega) (by omega)) d_M_draw_39 ?_
  rw [nI_clamp (show (7 * k) < 2 ^ 31 by omega)]
  refine lv_tableIn (off := 126) (tgt := 166) hx hb d_M_draw_40 (by rw [ek]; decide) (by rw [ek]; decide) (by rw [ek]; decide) (by decide) ?_
  refine lv_aload_n hx hb d_M_draw_166 rfl (lv_at hl 4 rfl) ?_
  refine lv_iload_n hx hb d_M_draw_167 rfl (lv_at hl 2 rfl) ?_
  refine lv_iload hx hb d_M_draw_168 (lv_at hl 1 rfl) ?_
  refine lv_iload hx hb d_M_draw_170 (lv_at hl 0 rfl) ?_
  refine lv_aload_n hx hb d_M_draw_172 rfl (lv_at hl 4 rfl) ?_
  refine va_get (D := (dC, dI)) (ci := 6) (v := .ref (ab 1)) (C := R_M) (T := F_M) (N := 20) hx hb hts i_M hown hK hP 0 rfl rfl 1 (by decide) (hts _ fl_M_7) (fun _ h9 => h9) rfl d_M_draw_173 ?_
  refine lv_iload_n hx hb d_M_draw_176 rfl (lv_at hl 3 rfl) ?_
  refine lv_iconst (v := 4) hx hb d_M_draw_177 (by decide) ?_
  refine lv_iadd hx hb d_M_draw_178 ?_
  rw [show nI (7 * k) + 4 = nI (7 * k + 4) from nI_add (7 * k) 4]
  refine va_iald hx hb hK hP 1 0 rfl rfl (vp_in_nI (by omega) (by omega)) d_M_draw_179 ?_
  rw [nI_clamp (show (7 * k + 4) < 2 ^ 31 by omega)]
  refine lv_aload_n hx hb d_M_draw_180 rfl (lv_at hl 4 rfl) ?_
  refine va_get (D := (dC, dI)) (ci := 6) (v := .ref (ab 1)) (C := R_M) (T := F_M) (N := 20) hx hb hts i_M hown hK hP 0 rfl rfl 1 (by decide) (hts _ fl_M_7) (fun _ h9 => h9) rfl d_M_draw_181 ?_
  refine lv_iload_n hx hb d_M_draw_184 rfl (lv_at hl 3 rfl) ?_
  refine lv_iconst (v := 5) hx hb d_M_draw_185 (by decide) ?_
  refine lv_iadd hx hb d_M_draw_186 ?_
  rw [show nI (7 * k) + 5 = nI (7 * k + 5) from nI_add (7 * k) 5]
  refine va_iald hx hb hK hP 1 0 rfl rfl (vp_in_nI (by omega) (by omega)) d_M_draw_187 ?_
  rw [nI_clamp (show (7 * k + 5) < 2 ^ 31 by omega)]
  refine lv_aload_n hx hb d_M_draw_188 rfl (lv_at hl 4 rfl) ?_
  refine va_get (D := (dC, dI)) (ci := 6) (v := .ref (ab 1)) (C := R_M) (T := F_M) (N := 20) hx hb hts i_M hown hK hP 0 rfl rfl 1 (by decide) (hts _ fl_M_7) (fun _ h9 => h9) rfl d_M_draw_189 ?_
  refine lv_iload_n hx hb d_M_draw_192 rfl (lv_at hl 3 rfl) ?_
  refine lv_bipush (v := 6) hx hb d_M_draw_193 (by decide) ?_
  refine lv_iadd hx hb d_M_draw_195 ?_
  rw [show nI (7 * k) + 6 = nI (7 * k + 6) from nI_add (7 * k) 6]
  refine va_iald hx hb hK hP 1 0 rfl rfl (vp_in_nI (by omega) (by omega)) d_M_draw_196 ?_
  rw [nI_clamp (show (7 * k + 6) < 2 ^ 31 by omega)]
  refine cW (W.runV (As := [.int ((mv 12) (7 * k + 1)), .int ((mv 12) (7 * k + 2)), .int ((mv 12) (7 * k + 3)), .int ((mv 12) (7 * k + 4)), .int ((mv 12) (7 * k + 5)), .int ((mv 12) (7 * k + 6))]) (rest := []) ⟨hx, hb, hml, hown, hts⟩ (c_M_add hP hdD (eK 2 (by decide)) hn _ _ _ _ _ _) (cwV 6 hts (wB_goodV (fun _ h => h) ml_M_84 im_M_add se_M_add ini_M co_M_add) rfl rfl rfl (by decide +kernel) ⟨Nat.le_of_ble_eq_true rfl, Nat.le_of_ble_eq_true rfl⟩) (pV hK hP (ci := 6) (q0 := 0) rfl rfl _) rfl rfl hl.1 rfl (lv_room (Nat.le_of_ble_eq_true rfl)) d_M_draw_197 ⟨Nat.zero_le _, Nat.zero_le _⟩) hS (fun _ h => h) (fun H locs hP hS _ _ => ?_)
  have hP : va_P (dC, dI) classes (wM ab cI cZ (va_up mk 2 (nI ((mn 2) + 1))) (adV mv (mn 2) ((mv 12) (7 * k + 1)) ((mv 12) (7 * k + 2)) ((mv 12) (7 * k + 3)) ((mv 12) (7 * k + 4)) ((mv 12) (7 * k + 5)) ((mv 12) (7 * k + 6)))) H := hP
  have hD : va_D (aN ab 14) (wM ab cI cZ (va_up mk 2 (nI ((mn 2) + 1))) (adV mv (mn 2) ((mv 12) (7 * k + 1)) ((mv 12) (7 * k + 2)) ((mv 12) (7 * k + 3)) ((mv 12) (7 * k + 4)) ((mv 12) (7 * k + 5)) ((mv 12) (7 * k + 6)))) := wM_D (dD_aN hdD)
  have er : ((some (.int (nI (mn 2)))) : Option Value) = some (.int (nI (mn 2))) := by rfl
  have hPe : va_P (dC, dI) classes (wM ab cI cZ (mkOf mk (va_up mn 2 (mn 2 + 1))) (adV mv (mn 2) (mv 12 (7 * k + 1)) (mv 12 (7 * k + 2)) (mv 12 (7 * k + 3)) (mv 12 (7 * k + 4)) (mv 12 (7 * k + 5)) (mv 12 (7 * k + 6)))) H := by rw [← wM_of (mk := va_up mk 2 (nI (mn 2 + 1))) (mk' := (mkOf mk (va_up mn 2 (mn 2 + 1)))) (lt7 (eK 0 (by decide)) (eK 1 (by decide)) rfl (eK 3 (by decide)) rfl rfl rfl)]; exact hP
  exact W.iret (v := (nI (mn 2))) hx hb hr (fun t ht hW => ⟨by rw [er], by rw [ht]; exact hPe, hS.F ht⟩) hS.2.2 d_M_draw_200
set_option maxRecDepth 100000 in
set_option maxHeartbeats 4000000 in
theorem c_M_draw_5 (hP : va_P (dC, dI) classes (wM ab cI cZ mk mv) H) (hdD : dD noT ab 14) (eK : ∀ i, i < 4 → mk i = nI (mn i)) {k : Nat} (hk : k < 200) (ek : mv 12 (7 * k) = 5) {t : Nat} (et : mv 12 (7 * k + 1) = nI t) (ht : t < 40)  : Met l y_M_draw (wB y_M_draw b_M_draw 6 (some .int)) ({ frames := 2, cells := 0, slots := 0, locals := 54 } : Room) (rP [.ref (ab 0), .int (nI k)] H (kK dC dI cI cZ cJ)) (qW (some (.int 0)) (aN ab 14) (fun H1 => va_P (dC, dI) classes (wM ab cI cZ (mkOf mk mn) (mvV mv t (mv 12 (7 * k + 2)) (mv 12 (7 * k + 3)))) H1)) 0 0 (aN ab 14) := by
  refine Met.ofW (cc := b_M_draw) (maxL := 6) (ret := (some .int)) (by decide) rfl ?_
  intro p e s m args below meth c s₁ B hml hv
  obtain ⟨rfl, rfl, hK⟩ := hv
  have hx := B.exec
  have hb := B.bytes
  have hr := B.returns
  have hts0 := atoms_spec (ws := (wB y_M_draw b_M_draw 6 (some .int))) B.pre
  have hts : ∀ w9 ∈ BG, w9.before [.ref (ab 0), .int (nI k)].toArray s = true := fun w9 hw9 => hts0 w9 (List.mem_cons_of_mem _ hw9)
  have hown : s.vm.findClass R_M = some m.cls := findClass_of_methodNamed B.named
  have hlocks := B.notSynchronized
  have hK : va_K (dC, dI) classes [(cI, .int), (cZ, .boolean), (cJ, .long)] s := hK
  have hD : va_D (aN ab 14) (wM ab cI cZ mk mv) := wM_D (dD_aN hdD)
  have hS : va_S (aN ab 14) s.heap s.heap [] := va_S.rf
  have hl := lv_entry ([.ref (ab 0), .int (nI k)]) (n := 6) (Nat.le_of_ble_eq_true rfl)
  rw [lg_entry_eq]
  generalize (lg_sl ([.ref (ab 0), .int (nI k)]) ++ List.replicate (6 - (lg_sl ([.ref (ab 0), .int (nI k)])).length) Slot.unset).toArray = ls at hl ⊢
  have hl : lv_has ls 6 [(0, .ref (ab 0)), (1, .int (nI k))] := hl
  refine lv_bipush (v := 7) hx hb d_M_draw_0 (by decide) ?_
  refine lv_iload_n hx hb d_M_draw_2 rfl (lv_at hl 1 rfl) ?_
  refine lv_imul hx hb d_M_draw_3 ?_
  rw [show (7 : Int32) * nI k = nI (7 * k) from pk_mul 7 k]
  refine lv_istore_n (lv' := [(2, .int (nI (7 * k))), (0, .ref (ab 0)), (1, .int (nI k))]) hx hb d_M_draw_4 rfl hl (by decide) rfl (fun ls hl => ?_)
  refine lv_aload_n hx hb d_M_draw_5 rfl (lv_at hl 1 rfl) ?_
  refine va_get (D := (dC, dI)) (ci := 6) (v := .ref (ab 1)) (C := R_M) (T := F_M) (N := 20) hx hb hts i_M hown hK hP 0 rfl rfl 1 (by decide) (hts _ fl_M_7) (fun _ h9 => h9) rfl d_M_draw_6 ?_
  refine lv_iload_n hx hb d_M_draw_9 rfl (lv_at hl 0 rfl) ?_
  refine lv_iconst (v := 1) hx hb d_M_draw_10 (by decide) ?_
  refine lv_iadd hx hb d_M_draw_11 ?_
  rw [show nI (7 * k) + 1 = nI (7 * k + 1) from nI_add (7 * k) 1]
  refine va_iald hx hb hK hP 1 0 rfl rfl (vp_in_nI (by omega) (by omega)) d_M_draw_12 ?_
  rw [nI_clamp (show (7 * k + 1) < 2 ^ 31 by omega)]
  rw [et]
  refine lv_istore_n (lv' := [(3, .int (nI t)), (2, .int (nI (7 * k))), (0, .ref (ab 0)), (1, .int (nI k))]) hx hb d_M_draw_13 rfl hl (by decide) rfl (fun ls hl => ?_)
  refine lv_aload_n hx hb d_M_draw_14 rfl (lv_at hl 2 rfl) ?_
  refine va_get (D := (dC, dI)) (ci := 6) (v := .ref (ab 1)) (C := R_M) (T := F_M) (N := 20) hx hb hts i_M hown hK hP 0 rfl rfl 1 (by decide) (hts _ fl_M_7) (fun _ h9 => h9) rfl d_M_draw_15 ?_
  refine lv_iload_n hx hb d_M_draw_18 rfl (lv_at hl 1 rfl) ?_
  refine lv_iconst (v := 2) hx hb d_M_draw_19 (by decide) ?_
  refine lv_iadd hx hb d_M_draw_20 ?_
  rw [show nI (7 * k) + 2 = nI (7 * k + 2) from nI_add (7 * k) 2]
  refine va_iald hx hb hK hP 1 0 rfl rfl (vp_in_nI (by omega) (by omega)) d_M_draw_21 ?_
  rw [nI_clamp (show (7 * k + 2) < 2 ^ 31 by omega)]
  refine lv_istore (lv' := [(4, .int ((mv 12) (7 * k + 2))), (3, .int (nI t)), (2, .int (nI (7 * k))), (0, .ref (ab 0)), (1, .int (nI k))]) hx hb d_M_draw_22 hl (by decide) rfl (fun ls hl => ?_)
  refine lv_aload_n hx hb d_M_draw_24 rfl (lv_at hl 3 rfl) ?_
  refine va_get (D := (dC, dI)) (ci := 6) (v := .ref (ab 1)) (C := R_M) (T := F_M) (N := 20) hx hb hts i_M hown hK hP 0 rfl rfl 1 (by decide) (hts _ fl_M_7) (fun _ h9 => h9) rfl d_M_draw_25 ?_
  refine lv_iload_n hx hb d_M_draw_28 rfl (lv_at hl 2 rfl) ?_
  refine lv_iconst (v := 3) hx hb d_M_draw_29 (by decide) ?_
  refine lv_iadd hx hb d_M_draw_30 ?_
  rw [show nI (7 * k) + 3 = nI (7 * k + 3) from nI_add (7 * k) 3]
  refine va_iald hx hb hK hP 1 0 rfl rfl (vp_in_nI (by omega) (by omega)) d_M_draw_31 ?_
  rw [nI_clamp (show (7 * k + 3) < 2 ^ 31 by omega)]
  refine lv_istore (lv' := [(5, .int ((mv 12) (7 * k + 3))), (4, .int ((mv 12) (7 * k + 2))), (3, .int (nI t)), (2, .int (nI (7 * k))), (0, .ref (ab 0)), (1, .int (nI k))]) hx hb d_M_draw_32 hl (by decide) rfl (fun ls hl => ?_)
  refine lv_aload_n hx hb d_M_draw_34 rfl (lv_at hl 4 rfl) ?_
  refine va_get (D := (dC, dI)) (ci := 6) (v := .ref (ab 1)) (C := R_M) (T := F_M) (N := 20) hx hb hts i_M hown hK hP 0 rfl rfl 1 (by decide) (hts _ fl_M_7) (fun _ h9 => h9) rfl d_M_draw_35 ?_
  refine lv_iload_n hx hb d_M_draw_38 rfl (lv_at hl 3 rfl) ?_
  refine va_iald hx hb hK hP 1 0 rfl rfl (vp_in_nI (by omega) (by omega)) d_M_draw_39 ?_
  rw [nI_clamp (show (7 * k) < 2 ^ 31 by omega)]
  refine lv_tableIn (off := 161) (tgt := 201) hx hb d_M_draw_40 (by rw [ek]; decide) (by rw [ek]; decide) (by rw [ek]; decide) (by decide) ?_
  refine lv_aload_n hx hb d_M_draw_201 rfl (lv_at hl 4 rfl) ?_
  refine va_get (D := (dC, dI)) (ci := 6) (v := .ref (ab 6)) (C := R_M) (T := F_M) (N := 20) hx hb hts i_M hown hK hP 0 rfl rfl 11 (by decide) (hts _ fl_M_25) (fun _ h9 => h9) rfl d_M_draw_202 ?_
  refine lv_iload_n hx hb d_M_draw_205 rfl (lv_at hl 2 rfl) ?_
  refine lv_dup2_11 hx hb d_M_draw_206 rfl rfl ?_
  refine va_iald hx hb hK hP 6 0 rfl rfl (vp_in_nI (by omega) (by omega)) d_M_draw_207 ?_
  rw [nI_clamp (show t < 2 ^ 31 by omega)]
  refine lv_iload hx hb d_M_draw_208 (lv_at hl 1 rfl) ?_
  refine lv_iadd hx hb d_M_draw_210 ?_
  refine va_iast hx hb hK hP hD hS 6 0 rfl rfl (vp_in_nI (by omega) (by omega)) d_M_draw_211 (fun H locs hP hD hS => ?_)
  rw [nI_clamp (show t < 2 ^ 31 by omega)] at hP hD
  have hP : va_P (dC, dI) classes (wM ab cI cZ mk (va_up mv 4 (upd (mv 4) t (((mv 4) t) + ((mv 12) (7 * k + 2)))))) H := hP
  have hD : va_D (aN ab 14) (wM ab cI cZ mk (va_up mv 4 (upd (mv 4) t (((mv 4) t) + ((mv 12) (7 * k + 2)))))) := hD
  refine lv_aload_n hx hb d_M_draw_212 rfl (lv_at hl 4 rfl) ?_
  refine va_get (D := (dC, dI)) (ci := 6) (v := .ref (ab 8)) (C := R_M) (T := F_M) (N := 20) hx hb hts i_M hown hK hP 0 rfl rfl 13 (by decide) (hts _ fl_M_31) (fun _ h9 => h9) rfl d_M_draw_213 ?_
  refine lv_iload_n hx hb d_M_draw_216 rfl (lv_at hl 2 rfl) ?_
  refine lv_dup2_11 hx hb d_M_draw_217 rfl rfl ?_
  refine va_iald hx hb hK hP 8 0 rfl rfl (vp_in_nI (by omega) (by omega)) d_M_draw_218 ?_
  rw [nI_clamp (show t < 2 ^ 31 by omega)]
  refine lv_iload hx hb d_M_draw_219 (lv_at hl 1 rfl) ?_
  refine lv_iadd hx hb d_M_draw_221 ?_
  refine va_iast hx hb hK hP hD hS 8 0 rfl rfl (vp_in_nI (by omega) (by omega)) d_M_draw_222 (fun H locs hP hD hS => ?_)
  rw [nI_clamp (show t < 2 ^ 31 by omega)] at hP hD
  have hP : va_P (dC, dI) classes (wM ab cI cZ mk (va_up (va_up mv 4 (upd (mv 4) t (((mv 4) t) + ((mv 12) (7 * k + 2))))) 6 (upd (mv 6) t (((mv 6) t) + ((mv 12) (7 * k + 2)))))) H := hP
  have hD : va_D (aN ab 14) (wM ab cI cZ mk (va_up (va_up mv 4 (upd (mv 4) t (((mv 4) t) + ((mv 12) (7 * k + 2))))) 6 (upd (mv 6) t (((mv 6) t) + ((mv 12) (7 * k + 2)))))) := hD
  refine lv_aload_n hx hb d_M_draw_223 rfl (lv_at hl 4 rfl) ?_
  refine va_get (D := (dC, dI)) (ci := 6) (v := .ref (ab 7)) (C := R_M) (T := F_M) (N := 20) hx hb hts i_M hown hK hP 0 rfl rfl 12 (by decide) (hts _ fl_M_28) (fun _ h9 => h9) rfl d_M_draw_224 ?_
  refine lv_iload_n hx hb d_M_draw_227 rfl (lv_at hl 2 rfl) ?_
  refine lv_dup2_11 hx hb d_M_draw_228 rfl rfl ?_
  refine va_iald hx hb hK hP 7 0 rfl rfl (vp_in_nI (by omega) (by omega)) d_M_draw_229 ?_
  rw [nI_clamp (show t < 2 ^ 31 by omega)]
  refine lv_iload hx hb d_M_draw_230 (lv_at hl 0 rfl) ?_
  refine lv_iadd hx hb d_M_draw_232 ?_
  refine va_iast hx hb hK hP hD hS 7 0 rfl rfl (vp_in_nI (by omega) (by omega)) d_M_draw_233 (fun H locs hP hD hS => ?_)
  rw [nI_clamp (show t < 2 ^ 31 by omega)] at hP hD
  have hP : va_P (dC, dI) classes (wM ab cI cZ mk (va_up (va_up (va_up mv 4 (upd (mv 4) t (((mv 4) t) + ((mv 12) (7 * k + 2))))) 6 (upd (mv 6) t (((mv 6) t) + ((mv 12) (7 * k + 2))))) 5 (upd (mv 5) t (((mv 5) t) + ((mv 12) (7 * k + 3)))))) H := hP
  have hD : va_D (aN ab 14) (wM ab cI cZ mk (va_up (va_up (va_up mv 4 (upd (mv 4) t (((mv 4) t) + ((mv 12) (7 * k + 2))))) 6 (upd (mv 6) t (((mv 6) t) + ((mv 12) (7 * k + 2))))) 5 (upd (mv 5) t (((mv 5) t) + ((mv 12) (7 * k + 3)))))) := hD
  refine lv_aload_n hx hb d_M_draw_234 rfl (lv_at hl 4 rfl) ?_
  refine va_get (D := (dC, dI)) (ci := 6) (v := .ref (ab 9)) (C := R_M) (T := F_M) (N := 20) hx hb hts i_M hown hK hP 0 rfl rfl 14 (by decide) (hts _ fl_M_34) (fun _ h9 => h9) rfl d_M_draw_235 ?_
  refine lv_iload_n hx hb d_M_draw_238 rfl (lv_at hl 2 rfl) ?_
  refine lv_dup2_11 hx hb d_M_draw_239 rfl rfl ?_
  refine va_iald hx hb hK hP 9 0 rfl rfl (vp_in_nI (by omega) (by omega)) d_M_draw_240 ?_
  rw [nI_clamp (show t < 2 ^ 31 by omega)]
  refine lv_iload hx hb d_M_draw_241 (lv_at hl 0 rfl) ?_
  refine lv_iadd hx hb d_M_draw_243 ?_
  refine va_iast hx hb hK hP hD hS 9 0 rfl rfl (vp_in_nI (by omega) (by omega)) d_M_draw_244 (fun H locs hP hD hS => ?_)
  rw [nI_clamp (show t < 2 ^ 31 by omega)] at hP hD
  have hP : va_P (dC, dI) classes (wM ab cI cZ mk (va_up (va_up (va_up (va_up mv 4 (upd (mv 4) t (((mv 4) t) + ((mv 12) (7 * k + 2))))) 6 (upd (mv 6) t (((mv 6) t) + ((mv 12) (7 * k + 2))))) 5 (upd (mv 5) t (((mv 5) t) + ((mv 12) (7 * k + 3))))) 7 (upd (mv 7) t (((mv 7) t) + ((mv 12) (7 * k + 3)))))) H := hP
  have hD : va_D (aN ab 14) (wM ab cI cZ mk (va_up (va_up (va_up (va_up mv 4 (upd (mv 4) t (((mv 4) t) + ((mv 12) (7 * k + 2))))) 6 (upd (mv 6) t (((mv 6) t) + ((mv 12) (7 * k + 2))))) 5 (upd (mv 5) t (((mv 5) t) + ((mv 12) (7 * k + 3))))) 7 (upd (mv 7) t (((mv 7) t) + ((mv 12) (7 * k + 3)))))) := hD
  refine lv_iconst (v := 0) hx hb d_M_draw_245 (by decide) ?_
  have er : ((some (.int 0)) : Option Value) = some (.int 0) := by rfl
  have hPe : va_P (dC, dI) classes (wM ab cI cZ (mkOf mk mn) (mvV mv t (mv 12 (7 * k + 2)) (mv 12 (7 * k + 3)))) H := by rw [← wM_of (mk := mk) (mk' := (mkOf mk mn)) (lt7 (eK 0 (by decide)) (eK 1 (by decide)) (eK 2 (by decide)) (eK 3 (by decide)) rfl rfl rfl)]; exact hP
  exact W.iret (v := 0) hx hb hr (fun t ht hW => ⟨by rw [er], by rw [ht]; exact hPe, hS.F ht⟩) hS.2.2 d_M_draw_246
set_option maxRecDepth 100000 in
set_option maxHeartbeats 4000000 in
theorem c_M_draw_6 (hP : va_P (dC, dI) classes (wM ab cI cZ mk mv) H) (hdD : dD noT ab 14) (eK : ∀ i, i < 4 → mk i = nI (mn i)) {k : Nat} (hk : k < 200) (ek : mv 12 (7 * k) = 6) {t : Nat} (et : mv 12 (7 * k + 1) = nI t) (ht : t < 40)  : Met l y_M_draw (wB y_M_draw b_M_draw 6 (some .int)) ({ frames := 2, cells := 0, slots := 0, locals := 54 } : Room) (rP [.ref (ab 0), .int (nI k)] H (kK dC dI cI cZ cJ)) (qW (some (.int 0)) (aN ab 14) (fun H1 => va_P (dC, dI) classes (wM ab cI cZ (mkOf mk mn) (u1 mv 3 t (mv 12 (7 * k + 2)))) H1)) 0 0 (aN ab 14) := by
  refine Met.ofW (cc := b_M_draw) (maxL := 6) (ret := (some .int)) (by decide) rfl ?_
  intro p e s m args below meth c s₁ B hml hv
  obtain ⟨rfl, rfl, hK⟩ := hv
  have hx := B.exec
  have hb := B.bytes
  have hr := B.returns
  have hts0 := atoms_spec (ws := (wB y_M_draw b_M_draw 6 (some .int))) B.pre
  have hts : ∀ w9 ∈ BG, w9.before [.ref (ab 0), .int (nI k)].toArray s = true := fun w9 hw9 => hts0 w9 (List.mem_cons_of_mem _ hw9)
  have hown : s.vm.findClass R_M = some m.cls := findClass_of_methodNamed B.named
  have hlocks := B.notSynchronized
  have hK : va_K (dC, dI) classes [(cI, .int), (cZ, .boolean), (cJ, .long)] s := hK
  have hD : va_D (aN ab 14) (wM ab cI cZ mk mv) := wM_D (dD_aN hdD)
  have hS : va_S (aN ab 14) s.heap s.heap [] := va_S.rf
  have hl := lv_entry ([.ref (ab 0), .int (nI k)]) (n := 6) (Nat.le_of_ble_eq_true rfl)
  rw [lg_entry_eq]
  generalize (lg_sl ([.ref (ab 0), .int (nI k)]) ++ List.replicate (6 - (lg_sl ([.ref (ab 0), .int (nI k)])).length) Slot.unset).toArray = ls at hl ⊢
  have hl : lv_has ls 6 [(0, .ref (ab 0)), (1, .int (nI k))] := hl
  refine lv_bipush (v := 7) hx hb d_M_draw_0 (by decide) ?_
  refine lv_iload_n hx hb d_M_draw_2 rfl (lv_at hl 1 rfl) ?_
  refine lv_imul hx hb d_M_draw_3 ?_
  rw [show (7 : Int32) * nI k = nI (7 * k) from pk_mul 7 k]
  refine lv_istore_n (lv' := [(2, .int (nI (7 * k))), (0, .ref (ab 0)), (1, .int (nI k))]) hx hb d_M_draw_4 rfl hl (by decide) rfl (fun ls hl => ?_)
  refine lv_aload_n hx hb d_M_draw_5 rfl (lv_at hl 1 rfl) ?_
  refine va_get (D := (dC, dI)) (ci := 6) (v := .ref (ab 1)) (C := R_M) (T := F_M) (N := 20) hx hb hts i_M hown hK hP 0 rfl rfl 1 (by decide) (hts _ fl_M_7) (fun _ h9 => h9) rfl d_M_draw_6 ?_
  refine lv_iload_n hx hb d_M_draw_9 rfl (lv_at hl 0 rfl) ?_
  refine lv_iconst (v := 1) hx hb d_M_draw_10 (by decide) ?_
  refine lv_iadd hx hb d_M_draw_11 ?_
  rw [show nI (7 * k) + 1 = nI (7 * k + 1) from nI_add (7 * k) 1]
  refine va_iald hx hb hK hP 1 0 rfl rfl (vp_in_nI (by omega) (by omega)) d_M_draw_12 ?_
  rw [nI_clamp (show (7 * k + 1) < 2 ^ 31 by omega)]
  rw [et]
  refine lv_istore_n (lv' := [(3, .int (nI t)), (2, .int (nI (7 * k))), (0, .ref (ab 0)), (1, .int (nI k))]) hx hb d_M_draw_13 rfl hl (by decide) rfl (fun ls hl => ?_)
  refine lv_aload_n hx hb d_M_draw_14 rfl (lv_at hl 2 rfl) ?_
  refine va_get (D := (dC, dI)) (ci := 6) (v := .ref (ab 1)) (C := R_M) (T := F_M) (N := 20) hx hb hts i_M hown hK hP 0 rfl rfl 1 (by decide) (hts _ fl_M_7) (fun _ h9 => h9) rfl d_M_draw_15 ?_
  refine lv_iload_n hx hb d_M_draw_18 rfl (lv_at hl 1 rfl) ?_
  refine lv_iconst (v := 2) hx hb d_M_draw_19 (by decide) ?_
  refine lv_iadd hx hb d_M_draw_20 ?_
  rw [show nI (7 * k) + 2 = nI (7 * k + 2) from nI_add (7 * k) 2]
  refine va_iald hx hb hK hP 1 0 rfl rfl (vp_in_nI (by omega) (by omega)) d_M_draw_21 ?_
  rw [nI_clamp (show (7 * k + 2) < 2 ^ 31 by omega)]
  refine lv_istore (lv' := [(4, .int ((mv 12) (7 * k + 2))), (3, .int (nI t)), (2, .int (nI (7 * k))), (0, .ref (ab 0)), (1, .int (nI k))]) hx hb d_M_draw_22 hl (by decide) rfl (fun ls hl => ?_)
  refine lv_aload_n hx hb d_M_draw_24 rfl (lv_at hl 3 rfl) ?_
  refine va_get (D := (dC, dI)) (ci := 6) (v := .ref (ab 1)) (C := R_M) (T := F_M) (N := 20) hx hb hts i_M hown hK hP 0 rfl rfl 1 (by decide) (hts _ fl_M_7) (fun _ h9 => h9) rfl d_M_draw_25 ?_
  refine lv_iload_n hx hb d_M_draw_28 rfl (lv_at hl 2 rfl) ?_
  refine lv_iconst (v := 3) hx hb d_M_draw_29 (by decide) ?_
  refine lv_iadd hx hb d_M_draw_30 ?_
  rw [show nI (7 * k) + 3 = nI (7 * k + 3) from nI_add (7 * k) 3]
  refine va_iald hx hb hK hP 1 0 rfl rfl (vp_in_nI (by omega) (by omega)) d_M_draw_31 ?_
  rw [nI_clamp (show (7 * k + 3) < 2 ^ 31 by omega)]
  refine lv_istore (lv' := [(5, .int ((mv 12) (7 * k + 3))), (4, .int ((mv 12) (7 * k + 2))), (3, .int (nI t)), (2, .int (nI (7 * k))), (0, .ref (ab 0)), (1, .int (nI k))]) hx hb d_M_draw_32 hl (by decide) rfl (fun ls hl => ?_)
  refine lv_aload_n hx hb d_M_draw_34 rfl (lv_at hl 4 rfl) ?_
  refine va_get (D := (dC, dI)) (ci := 6) (v := .ref (ab 1)) (C := R_M) (T := F_M) (N := 20) hx hb hts i_M hown hK hP 0 rfl rfl 1 (by decide) (hts _ fl_M_7) (fun _ h9 => h9) rfl d_M_draw_35 ?_
  refine lv_iload_n hx hb d_M_draw_38 rfl (lv_at hl 3 rfl) ?_
  refine va_iald hx hb hK hP 1 0 rfl rfl (vp_in_nI (by omega) (by omega)) d_M_draw_39 ?_
  rw [nI_clamp (show (7 * k) < 2 ^ 31 by omega)]
  refine lv_tableIn (off := 207) (tgt := 247) hx hb d_M_draw_40 (by rw [ek]; decide) (by rw [ek]; decide) (by rw [ek]; decide) (by decide) ?_
  refine lv_aload_n hx hb d_M_draw_247 rfl (lv_at hl 4 rfl) ?_
  refine va_get (D := (dC, dI)) (ci := 6) (v := .ref (ab 5)) (C := R_M) (T := F_M) (N := 20) hx hb hts i_M hown hK hP 0 rfl rfl 10 (by decide) (hts _ fl_M_22) (fun _ h9 => h9) rfl d_M_draw_248 ?_
  refine lv_iload_n hx hb d_M_draw_251 rfl (lv_at hl 2 rfl) ?_
  refine lv_iload hx hb d_M_draw_252 (lv_at hl 1 rfl) ?_
  refine va_iast hx hb hK hP hD hS 5 0 rfl rfl (vp_in_nI (by omega) (by omega)) d_M_draw_254 (fun H locs hP hD hS => ?_)
  rw [nI_clamp (show t < 2 ^ 31 by omega)] at hP hD
  have hP : va_P (dC, dI) classes (wM ab cI cZ mk (va_up mv 3 (upd (mv 3) t ((mv 12) (7 * k + 2))))) H := hP
  have hD : va_D (aN ab 14) (wM ab cI cZ mk (va_up mv 3 (upd (mv 3) t ((mv 12) (7 * k + 2))))) := hD
  refine lv_iconst (v := 0) hx hb d_M_draw_255 (by decide) ?_
  have er : ((some (.int 0)) : Option Value) = some (.int 0) := by rfl
  have hPe : va_P (dC, dI) classes (wM ab cI cZ (mkOf mk mn) (u1 mv 3 t (mv 12 (7 * k + 2)))) H := by rw [← wM_of (mk := mk) (mk' := (mkOf mk mn)) (lt7 (eK 0 (by decide)) (eK 1 (by decide)) (eK 2 (by decide)) (eK 3 (by decide)) rfl rfl rfl)]; exact hP
  exact W.iret (v := 0) hx hb hr (fun t ht hW => ⟨by rw [er], by rw [ht]; exact hPe, hS.F ht⟩) hS.2.2 d_M_draw_256
set_option maxRecDepth 100000 in
set_option maxHeartbeats 4000000 in
theorem c_M_draw_7 (hP : va_P (dC, dI) classes (wM ab cI cZ mk mv) H) (hdD : dD noT ab 14) (eK : ∀ i, i < 4 → mk i = nI (mn i)) {k : Nat} (hk : k < 200) (ek : mv 12 (7 * k) = 7) {t : Nat} (et : mv 12 (7 * k + 1) = nI t) (ht : t < 40)  : Met l y_M_draw (wB y_M_draw b_M_draw 6 (some .int)) ({ frames := 2, cells := 0, slots := 0, locals := 54 } : Room) (rP [.ref (ab 0), .int (nI k)] H (kK dC dI cI cZ cJ)) (qW (some (.int 0)) (aN ab 14) (fun H1 => va_P (dC, dI) classes (wM ab cI cZ (mkOf mk mn) (u1 mv 8 t 0)) H1)) 0 0 (aN ab 14) := by
  refine Met.ofW (cc := b_M_draw) (maxL := 6) (ret := (some .int)) (by decide) rfl ?_
  intro p e s m args below meth c s₁ B hml hv
  obtain ⟨rfl, rfl, hK⟩ := hv
  have hx := B.exec
  have hb := B.bytes
  have hr := B.returns
  have hts0 := atoms_spec (ws := (wB y_M_draw b_M_draw 6 (some .int))) B.pre
  have hts : ∀ w9 ∈ BG, w9.before [.ref (ab 0), .int (nI k)].toArray s = true := fun w9 hw9 => hts0 w9 (List.mem_cons_of_mem _ hw9)
  have hown : s.vm.findClass R_M = some m.cls := findClass_of_methodNamed B.named
  have hlocks := B.notSynchronized
  have hK : va_K (dC, dI) classes [(cI, .int), (cZ, .boolean), (cJ, .long)] s := hK
  have hD : va_D (aN ab 14) (wM ab cI cZ mk mv) := wM_D (dD_aN hdD)
  have hS : va_S (aN ab 14) s.heap s.heap [] := va_S.rf
  have hl := lv_entry ([.ref (ab 0), .int (nI k)]) (n := 6) (Nat.le_of_ble_eq_true rfl)
  rw [lg_entry_eq]
  generalize (lg_sl ([.ref (ab 0), .int (nI k)]) ++ List.replicate (6 - (lg_sl ([.ref (ab 0), .int (nI k)])).length) Slot.unset).toArray = ls at hl ⊢
  have hl : lv_has ls 6 [(0, .ref (ab 0)), (1, .int (nI k))] := hl
  refine lv_bipush (v := 7) hx hb d_M_draw_0 (by decide) ?_
  refine lv_iload_n hx hb d_M_draw_2 rfl (lv_at hl 1 rfl) ?_
  refine lv_imul hx hb d_M_draw_3 ?_
  rw [show (7 : Int32) * nI k = nI (7 * k) from pk_mul 7 k]
  refine lv_istore_n (lv' := [(2, .int (nI (7 * k))), (0, .ref (ab 0)), (1, .int (nI k))]) hx hb d_M_draw_4 rfl hl (by decide) rfl (fun ls hl => ?_)
  refine lv_aload_n hx hb d_M_draw_5 rfl (lv_at hl 1 rfl) ?_
  refine va_get (D := (dC, dI)) (ci := 6) (v := .ref (ab 1)) (C := R_M) (T := F_M) (N := 20) hx hb hts i_M hown hK hP 0 rfl rfl 1 (by decide) (hts _ fl_M_7) (fun _ h9 => h9) rfl d_M_draw_6 ?_
  refine lv_iload_n hx hb d_M_draw_9 rfl (lv_at hl 0 rfl) ?_
  refine lv_iconst (v := 1) hx hb d_M_draw_10 (by decide) ?_
  refine lv_iadd hx hb d_M_draw_11 ?_
  rw [show nI (7 * k) + 1 = nI (7 * k + 1) from nI_add (7 * k) 1]
  refine va_iald hx hb hK hP 1 0 rfl rfl (vp_in_nI (by omega) (by omega)) d_M_draw_12 ?_
  rw [nI_clamp (show (7 * k + 1) < 2 ^ 31 by omega)]
  rw [et]
  refine lv_istore_n (lv' := [(3, .int (nI t)), (2, .int (nI (7 * k))), (0, .ref (ab 0)), (1, .int (nI k))]) hx hb d_M_draw_13 rfl hl (by decide) rfl (fun ls hl => ?_)
  refine lv_aload_n hx hb d_M_draw_14 rfl (lv_at hl 2 rfl) ?_
  refine va_get (D := (dC, dI)) (ci := 6) (v := .ref (ab 1)) (C := R_M) (T := F_M) (N := 20) hx hb hts i_M hown hK hP 0 rfl rfl 1 (by decide) (hts _ fl_M_7) (fun _ h9 => h9) rfl d_M_draw_15 ?_
  refine lv_iload_n hx hb d_M_draw_18 rfl (lv_at hl 1 rfl) ?_
  refine lv_iconst (v := 2) hx hb d_M_draw_19 (by decide) ?_
  refine lv_iadd hx hb d_M_draw_20 ?_
  rw [show nI (7 * k) + 2 = nI (7 * k + 2) from nI_add (7 * k) 2]
  refine va_iald hx hb hK hP 1 0 rfl rfl (vp_in_nI (by omega) (by omega)) d_M_draw_21 ?_
  rw [nI_clamp (show (7 * k + 2) < 2 ^ 31 by omega)]
  refine lv_istore (lv' := [(4, .int ((mv 12) (7 * k + 2))), (3, .int (nI t)), (2, .int (nI (7 * k))), (0, .ref (ab 0)), (1, .int (nI k))]) hx hb d_M_draw_22 hl (by decide) rfl (fun ls hl => ?_)
  refine lv_aload_n hx hb d_M_draw_24 rfl (lv_at hl 3 rfl) ?_
  refine va_get (D := (dC, dI)) (ci := 6) (v := .ref (ab 1)) (C := R_M) (T := F_M) (N := 20) hx hb hts i_M hown hK hP 0 rfl rfl 1 (by decide) (hts _ fl_M_7) (fun _ h9 => h9) rfl d_M_draw_25 ?_
  refine lv_iload_n hx hb d_M_draw_28 rfl (lv_at hl 2 rfl) ?_
  refine lv_iconst (v := 3) hx hb d_M_draw_29 (by decide) ?_
  refine lv_iadd hx hb d_M_draw_30 ?_
  rw [show nI (7 * k) + 3 = nI (7 * k + 3) from nI_add (7 * k) 3]
  refine va_iald hx hb hK hP 1 0 rfl rfl (vp_in_nI (by omega) (by omega)) d_M_draw_31 ?_
  rw [nI_clamp (show (7 * k + 3) < 2 ^ 31 by omega)]
  refine lv_istore (lv' := [(5, .int ((mv 12) (7 * k + 3))), (4, .int ((mv 12) (7 * k + 2))), (3, .int (nI t)), (2, .int (nI (7 * k))), (0, .ref (ab 0)), (1, .int (nI k))]) hx hb d_M_draw_32 hl (by decide) rfl (fun ls hl => ?_)
  refine lv_aload_n hx hb d_M_draw_34 rfl (lv_at hl 4 rfl) ?_
  refine va_get (D := (dC, dI)) (ci := 6) (v := .ref (ab 1)) (C := R_M) (T := F_M) (N := 20) hx hb hts i_M hown hK hP 0 rfl rfl 1 (by decide) (hts _ fl_M_7) (fun _ h9 => h9) rfl d_M_draw_35 ?_
  refine lv_iload_n hx hb d_M_draw_38 rfl (lv_at hl 3 rfl) ?_
  refine va_iald hx hb hK hP 1 0 rfl rfl (vp_in_nI (by omega) (by omega)) d_M_draw_39 ?_
  rw [nI_clamp (show (7 * k) < 2 ^ 31 by omega)]
  refine lv_tableIn (off := 217) (tgt := 257) hx hb d_M_draw_40 (by rw [ek]; decide) (by rw [ek]; decide) (by rw [ek]; decide) (by decide) ?_
  refine lv_aload_n hx hb d_M_draw_257 rfl (lv_at hl 4 rfl) ?_
  refine va_get (D := (dC, dI)) (ci := 6) (v := .ref (ab 10)) (C := R_M) (T := F_M) (N := 20) hx hb hts i_M hown hK hP 0 rfl rfl 15 (by decide) (hts _ fl_M_37) (fun _ h9 => h9) rfl d_M_draw_258 ?_
  refine lv_iload_n hx hb d_M_draw_261 rfl (lv_at hl 2 rfl) ?_
  refine lv_iconst (v := 0) hx hb d_M_draw_262 (by decide) ?_
  refine va_zast hx hb hK hP hD hS 10 1 rfl rfl (vp_in_nI (by omega) (by omega)) d_M_draw_263 (fun H locs hP hD hS => ?_)
  rw [show vp_nar .boolean 0 = 0 from rfl] at hP hD
  rw [nI_clamp (show t < 2 ^ 31 by omega)] at hP hD
  have hP : va_P (dC, dI) classes (wM ab cI cZ mk (va_up mv 8 (upd (mv 8) t 0))) H := hP
  have hD : va_D (aN ab 14) (wM ab cI cZ mk (va_up mv 8 (upd (mv 8) t 0))) := hD
  refine lv_iconst (v := 0) hx hb d_M_draw_264 (by decide) ?_
  have er : ((some (.int 0)) : Option Value) = some (.int 0) := by rfl
  have hPe : va_P (dC, dI) classes (wM ab cI cZ (mkOf mk mn) (u1 mv 8 t 0)) H := by rw [← wM_of (mk := mk) (mk' := (mkOf mk mn)) (lt7 (eK 0 (by decide)) (eK 1 (by decide)) (eK 2 (by decide)) (eK 3 (by decide)) rfl rfl rfl)]; exact hP
  exact W.iret (v := 0) hx hb hr (fun t ht hW => ⟨by rw [er], by rw [ht]; exact hPe, hS.F ht⟩) hS.2.2 d_M_draw_265
set_option maxRecDepth 100000 in
set_option maxHeartbeats 4000000 in
theorem c_M_draw_8 (hP : va_P (dC, dI) classes (wM ab cI cZ mk mv) H) (hdD : dD noT ab 14) (eK : ∀ i, i < 4 → mk i = nI (mn i)) {k : Nat} (hk : k < 200) (ek : mv 12 (7 * k) = 8) (hn : mn 3 < 60) : Met l y_M_draw (wB y_M_draw b_M_draw 6 (some .int)) ({ frames := 2, cells := 0, slots := 0, locals := 54 } : Room) (rP [.ref (ab 0), .int (nI k)] H (kK dC dI cI cZ cJ)) (qW (some (.int (nI (mn 3)))) (aN ab 14) (fun H1 => va_P (dC, dI) classes (wM ab cI cZ (mkOf mk (va_up mn 3 (mn 3 + 1))) (owV mv (mn 3) (mv 12 (7 * k + 1)) (mv 12 (7 * k + 2)) (mv 12 (7 * k + 3)))) H1)) 0 0 (aN ab 14) := by
  refine Met.ofW (cc := b_M_draw) (maxL := 6) (ret := (some .int)) (by decide) rfl ?_
  intro p e s m args below meth c s₁ B hml hv
  obtain ⟨rfl, rfl, hK⟩ := hv
  have hx := B.exec
  have hb := B.bytes
  have hr := B.returns
  have hts0 := atoms_spec (ws := (wB y_M_draw b_M_draw 6 (some .int))) B.pre
  have hts : ∀ w9 ∈ BG, w9.before [.ref (ab 0), .int (nI k)].toArray s = true := fun w9 hw9 => hts0 w9 (List.mem_cons_of_mem _ hw9)
  have hown : s.vm.findClass R_M = some m.cls := findClass_of_methodNamed B.named
  have hlocks := B.notSynchronized
  have hK : va_K (dC, dI) classes [(cI, .int), (cZ, .boolean), (cJ, .long)] s := hK
  have hD : va_D (aN ab 14) (wM ab cI cZ mk mv) := wM_D (dD_aN hdD)
  have hS : va_S (aN ab 14) s.heap s.heap [] := va_S.rf
  have hl := lv_entry ([.ref (ab 0), .int (nI k)]) (n := 6) (Nat.le_of_ble_eq_true rfl)
  rw [lg_entry_eq]
  generalize (lg_sl ([.ref (ab 0), .int (nI k)]) ++ List.replicate (6 - (lg_sl ([.ref (ab 0), .int (nI k)])).length) Slot.unset).toArray = ls at hl ⊢
  have hl : lv_has ls 6 [(0, .ref (ab 0)), (1, .int (nI k))] := hl
  refine lv_bipush (v := 7) hx hb d_M_draw_0 (by decide) ?_
  refine lv_iload_n hx hb d_M_draw_2 rfl (lv_at hl 1 rfl) ?_
  refine lv_imul hx hb d_M_draw_3 ?_
  rw [show (7 : Int32) * nI k = nI (7 * k) from pk_mul 7 k]
  refine lv_istore_n (lv' := [(2, .int (nI (7 * k))), (0, .ref (ab 0)), (1, .int (nI k))]) hx hb d_M_draw_4 rfl hl (by decide) rfl (fun ls hl => ?_)
  refine lv_aload_n hx hb d_M_draw_5 rfl (lv_at hl 1 rfl) ?_
  refine va_get (D := (dC, dI)) (ci := 6) (v := .ref (ab 1)) (C := R_M) (T := F_M) (N := 20) hx hb hts i_M hown hK hP 0 rfl rfl 1 (by decide) (hts _ fl_M_7) (fun _ h9 => h9) rfl d_M_draw_6 ?_
  refine lv_iload_n hx hb d_M_draw_9 rfl (lv_at hl 0 rfl) ?_
  refine lv_iconst (v := 1) hx hb d_M_draw_10 (by decide) ?_
  refine lv_iadd hx hb d_M_draw_11 ?_
  rw [show nI (7 * k) + 1 = nI (7 * k + 1) from nI_add (7 * k) 1]
  refine va_iald hx hb hK hP 1 0 rfl rfl (vp_in_nI (by omega) (by omega)) d_M_draw_12 ?_
  rw [nI_clamp (show (7 * k + 1) < 2 ^ 31 by omega)]
  refine lv_istore_n (lv' := [(3, .int ((mv 12) (7 * k + 1))), (2, .int (nI (7 * k))), (0, .ref (ab 0)), (1, .int (nI k))]) hx hb d_M_draw_13 rfl hl (by decide) rfl (fun ls hl => ?_)
  refine lv_aload_n hx hb d_M_draw_14 rfl (lv_at hl 2 rfl) ?_
  refine va_get (D := (dC, dI)) (ci := 6) (v := .ref (ab 1)) (C := R_M) (T := F_M) (N := 20) hx hb hts i_M hown hK hP 0 rfl rfl 1 (by decide) (hts _ fl_M_7) (fun _ h9 => h9) rfl d_M_draw_15 ?_
  refine lv_iload_n hx hb d_M_draw_18 rfl (lv_at hl 1 rfl) ?_
  refine lv_iconst (v := 2) hx hb d_M_draw_19 (by decide) ?_
  refine lv_iadd hx hb d_M_draw_20 ?_
  rw [show nI (7 * k) + 2 = nI (7 * k + 2) from nI_add (7 * k) 2]
  refine va_iald hx hb hK hP 1 0 rfl rfl (vp_in_nI (by omega) (by omega)) d_M_draw_21 ?_
  rw [nI_clamp (show (7 * k + 2) < 2 ^ 31 by omega)]
  refine lv_istore (lv' := [(4, .int ((mv 12) (7 * k + 2))), (3, .int ((mv 12) (7 * k + 1))), (2, .int (nI (7 * k))), (0, .ref (ab 0)), (1, .int (nI k))]) hx hb d_M_draw_22 hl (by decide) rfl (fun ls hl => ?_)
  refine lv_aload_n hx hb d_M_draw_24 rfl (lv_at hl 3 rfl) ?_
  refine va_get (D := (dC, dI)) (ci := 6) (v := .ref (ab 1)) (C := R_M) (T := F_M) (N := 20) hx hb hts i_M hown hK hP 0 rfl rfl 1 (by decide) (hts _ fl_M_7) (fun _ h9 => h9) rfl d_M_draw_25 ?_
  refine lv_iload_n hx hb d_M_draw_28 rfl (lv_at hl 2 rfl) ?_
  refine lv_iconst (v := 3) hx hb d_M_draw_29 (by decide) ?_
  refine lv_iadd hx hb d_M_draw_30 ?_
  rw [show nI (7 * k) + 3 = nI (7 * k + 3) from nI_add (7 * k) 3]
  refine va_iald hx hb hK hP 1 0 rfl rfl (vp_in_nI (by omega) (by omega)) d_M_draw_31 ?_
  rw [nI_clamp (show (7 * k + 3) < 2 ^ 31 by omega)]
  refine lv_istore (lv' := [(5, .int ((mv 12) (7 * k + 3))), (4, .int ((mv 12) (7 * k + 2))), (3, .int ((mv 12) (7 * k + 1))), (2, .int (nI (7 * k))), (0, .ref (ab 0)), (1, .int (nI k))]) hx hb d_M_draw_32 hl (by decide) rfl (fun ls hl => ?_)
  refine lv_aload_n hx hb d_M_draw_34 rfl (lv_at hl 4 rfl) ?_
  refine va_get (D := (dC, dI)) (ci := 6) (v := .ref (ab 1)) (C := R_M) (T := F_M) (N := 20) hx hb hts i_M hown hK hP 0 rfl rfl 1 (by decide) (hts _ fl_M_7) (fun _ h9 => h9) rfl d_M_draw_35 ?_
  refine lv_iload_n hx hb d_M_draw_38 rfl (lv_at hl 3 rfl) ?_
  refine va_iald hx hb hK hP 1 0 rfl rfl (vp_in_nI (by omega) (by omega)) d_M_draw_39 ?_
  rw [nI_clamp (show (7 * k) < 2 ^ 31 by omega)]
  refine lv_tableIn (off := 226) (tgt := 266) hx hb d_M_draw_40 (by rw [ek]; decide) (by rw [ek]; decide) (by rw [ek]; decide) (by decide) ?_
  refine lv_aload_n hx hb d_M_draw_266 rfl (lv_at hl 4 rfl) ?_
  refine lv_iload_n hx hb d_M_draw_267 rfl (lv_at hl 2 rfl) ?_
  refine lv_iload hx hb d_M_draw_268 (lv_at hl 1 rfl) ?_
  refine lv_iload hx hb d_M_draw_270 (lv_at hl 0 rfl) ?_
  refine cW (W.runV (As := [.int ((mv 12) (7 * k + 1)), .int ((mv 12) (7 * k + 2)), .int ((mv 12) (7 * k + 3))]) (rest := []) ⟨hx, hb, hml, hown, hts⟩ (c_M_cut hP hdD (eK 3 (by decide)) hn _ _ _) (cwV 3 hts (wB_goodV (fun _ h => h) ml_M_88 im_M_cut se_M_cut ini_M co_M_cut) rfl rfl rfl (by decide +kernel) ⟨Nat.le_of_ble_eq_true rfl, Nat.le_of_ble_eq_true rfl⟩) (pV hK hP (ci := 6) (q0 := 0) rfl rfl _) rfl rfl hl.1 rfl (lv_room (Nat.le_of_ble_eq_true rfl)) d_M_draw_272 ⟨Nat.zero_le _, Nat.zero_le _⟩) hS (fun _ h => h) (fun H locs hP hS _ _ => ?_)
  have hP : va_P (dC, dI) classes (wM ab cI cZ (va_up mk 3 (nI ((mn 3) + 1))) (owV mv (mn 3) ((mv 12) (7 * k + 1)) ((mv 12) (7 * k + 2)) ((mv 12) (7 * k + 3)))) H := hP
  have hD : va_D (aN ab 14) (wM ab cI cZ (va_up mk 3 (nI ((mn 3) + 1))) (owV mv (mn 3) ((mv 12) (7 * k + 1)) ((mv 12) (7 * k + 2)) ((mv 12) (7 * k + 3)))) := wM_D (dD_aN hdD)
  have er : ((some (.int (nI (mn 3)))) : Option Value) = some (.int (nI (mn 3))) := by rfl
  have hPe : va_P (dC, dI) classes (wM ab cI cZ (mkOf mk (va_up mn 3 (mn 3 + 1))) (owV mv (mn 3) (mv 12 (7 * k + 1)) (mv 12 (7 * k + 2)) (mv 12 (7 * k + 3)))) H := by rw [← wM_of (mk := va_up mk 3 (nI (mn 3 + 1))) (mk' := (mkOf mk (va_up mn 3 (mn 3 + 1)))) (lt7 (eK 0 (by decide)) (eK 1 (by decide)) (eK 2 (by decide)) rfl rfl rfl rfl)]; exact hP
  exact W.iret (v := (nI (mn 3))) hx hb hr (fun t ht hW => ⟨by rw [er], by rw [ht]; exact hPe, hS.F ht⟩) hS.2.2 d_M_draw_275
set_option maxRecDepth 100000 in
set_option maxHeartbeats 4000000 in
theorem c_M_draw_9 (hP : va_P (dC, dI) classes (wM ab cI cZ mk mv) H) (hdD : dD noT ab 14) (eK : ∀ i, i < 4 → mk i = nI (mn i)) {k : Nat} (hk : k < 200) (ek : mv 12 (7 * k) = 9) (b2 : mn 2 ≤ 40) (b3 : mn 3 ≤ 60) (hB1 : ∀ i, i < mn 2 → thS (cpF (mv 12 (7 * k + 1)) (mv 12 (7 * k + 2)) i (mv, mn 2, mn 3)).1 (mv 12 (7 * k + 1)) i = true → (cpF (mv 12 (7 * k + 1)) (mv 12 (7 * k + 2)) i (mv, mn 2, mn 3)).2.1 < 40) (hB2 : ∀ i, i < mn 2 → (cpF (mv 12 (7 * k + 1)) (mv 12 (7 * k + 2)) (i + 1) (mv, mn 2, mn 3)).2.2 ≤ 60) : Met l y_M_draw (wB y_M_draw b_M_draw 6 (some .int)) ({ frames := 2, cells := 0, slots := 0, locals := 54 } : Room) (rP [.ref (ab 0), .int (nI k)] H (kK dC dI cI cZ cJ)) (qW (some (.int (nI ((cpF (mv 12 (7 * k + 1)) (mv 12 (7 * k + 2)) (mn 2) (mv, mn 2, mn 3)).2.1 - mn 2)))) (aN ab 14) (fun H1 => va_P (dC, dI) classes (wM ab cI cZ (mkOf mk (va_up (va_up mn 2 (cpF (mv 12 (7 * k + 1)) (mv 12 (7 * k + 2)) (mn 2) (mv, mn 2, mn 3)).2.1) 3 (cpF (mv 12 (7 * k + 1)) (mv 12 (7 * k + 2)) (mn 2) (mv, mn 2, mn 3)).2.2)) (cpF (mv 12 (7 * k + 1)) (mv 12 (7 * k + 2)) (mn 2) (mv, mn 2, mn 3)).1) H1)) 0 0 (aN ab 14) := by
  refine Met.ofW (cc := b_M_draw) (maxL := 6) (ret := (some .int)) (by decide) rfl ?_
  intro p e s m args below meth c s₁ B hml hv
  obtain ⟨rfl, rfl, hK⟩ := hv
  have hx := B.exec
  have hb := B.bytes
  have hr := B.returns
  have hts0 := atoms_spec (ws := (wB y_M_draw b_M_draw 6 (some .int))) B.pre
  have hts : ∀ w9 ∈ BG, w9.before [.ref (ab 0), .int (nI k)].toArray s = true := fun w9 hw9 => hts0 w9 (List.mem_cons_of_mem _ hw9)
  have hown : s.vm.findClass R_M = some m.cls := findClass_of_methodNamed B.named
  have hlocks := B.notSynchronized
  have hK : va_K (dC, dI) classes [(cI, .int), (cZ, .boolean), (cJ, .long)] s := hK
  have hD : va_D (aN ab 14) (wM ab cI cZ mk mv) := wM_D (dD_aN hdD)
  have hS : va_S (aN ab 14) s.heap s.heap [] := va_S.rf
  have hl := lv_entry ([.ref (ab 0), .int (nI k)]) (n := 6) (Nat.le_of_ble_eq_true rfl)
  rw [lg_entry_eq]
  generalize (lg_sl ([.ref (ab 0), .int (nI k)]) ++ List.replicate (6 - (lg_sl ([.ref (ab 0), .int (nI k)])).length) Slot.unset).toArray = ls at hl ⊢
  have hl : lv_has ls 6 [(0, .ref (ab 0)), (1, .int (nI k))] := hl
  refine lv_bipush (v := 7) hx hb d_M_draw_0 (by decide) ?_
  refine lv_iload_n hx hb d_M_draw_2 rfl (lv_at hl 1 rfl) ?_
  refine lv_imul hx hb d_M_draw_3 ?_
  rw [show (7 : Int32) * nI k = nI (7 * k) from pk_mul 7 k]
  refine lv_istore_n (lv' := [(2, .int (nI (7 * k))), (0, .ref (ab 0)), (1, .int (nI k))]) hx hb d_M_draw_4 rfl hl (by decide) rfl (fun ls hl => ?_)
  refine lv_aload_n hx hb d_M_draw_5 rfl (lv_at hl 1 rfl) ?_
  refine va_get (D := (dC, dI)) (ci := 6) (v := .ref (ab 1)) (C := R_M) (T := F_M) (N := 20) hx hb hts i_M hown hK hP 0 rfl rfl 1 (by decide) (hts _ fl_M_7) (fun _ h9 => h9) rfl d_M_draw_6 ?_
  refine lv_iload_n hx hb d_M_draw_9 rfl (lv_at hl 0 rfl) ?_
  refine lv_iconst (v := 1) hx hb d_M_draw_10 (by decide) ?_
  refine lv_iadd hx hb d_M_draw_11 ?_
  rw [show nI (7 * k) + 1 = nI (7 * k + 1) from nI_add (7 * k) 1]
  refine va_iald hx hb hK hP 1 0 rfl rfl (vp_in_nI (by omega) (by omega)) d_M_draw_12 ?_
  rw [nI_clamp (show (7 * k + 1) < 2 ^ 31 by omega)]
  refine lv_istore_n (lv' := [(3, .int ((mv 12) (7 * k + 1))), (2, .int (nI (7 * k))), (0, .ref (ab 0)), (1, .int (nI k))]) hx hb d_M_draw_13 rfl hl (by decide) rfl (fun ls hl => ?_)
  refine lv_aload_n hx hb d_M_draw_14 rfl (lv_at hl 2 rfl) ?_
  refine va_get (D := (dC, dI)) (ci := 6) (v := .ref (ab 1)) (C := R_M) (T := F_M) (N := 20) hx hb hts i_M hown hK hP 0 rfl rfl 1 (by decide) (hts _ fl_M_7) (fun _ h9 => h9) rfl d_M_draw_15 ?_
  refine lv_iload_n hx hb d_M_draw_18 rfl (lv_at hl 1 rfl) ?_
  refine lv_iconst (v := 2) hx hb d_M_draw_19 (by decide) ?_
  refine lv_iadd hx hb d_M_draw_20 ?_
  rw [show nI (7 * k) + 2 = nI (7 * k + 2) from nI_add (7 * k) 2]
  refine va_iald hx hb hK hP 1 0 rfl rfl (vp_in_nI (by omega) (by omega)) d_M_draw_21 ?_
  rw [nI_clamp (show (7 * k + 2) < 2 ^ 31 by omega)]
  refine lv_istore (lv' := [(4, .int ((mv 12) (7 * k + 2))), (3, .int ((mv 12) (7 * k + 1))), (2, .int (nI (7 * k))), (0, .ref (ab 0)), (1, .int (nI k))]) hx hb d_M_draw_22 hl (by decide) rfl (fun ls hl => ?_)
  refine lv_aload_n hx hb d_M_draw_24 rfl (lv_at hl 3 rfl) ?_
  refine va_get (D := (dC, dI)) (ci := 6) (v := .ref (ab 1)) (C := R_M) (T := F_M) (N := 20) hx hb hts i_M hown hK hP 0 rfl rfl 1 (by decide) (hts _ fl_M_7) (fun _ h9 => h9) rfl d_M_draw_25 ?_
  refine lv_iload_n hx hb d_M_draw_28 rfl (lv_at hl 2 rfl) ?_
  refine lv_iconst (v := 3) hx hb d_M_draw_29 (by decide) ?_
  refine lv_iadd hx hb d_M_draw_30 ?_
  rw [show nI (7 * k) + 3 = nI (7 * k + 3) from nI_add (7 * k) 3]
  refine va_iald hx hb hK hP 1 0 rfl rfl (vp_in_nI (by omega) (by omega)) d_M_draw_31 ?_
  rw [nI_clamp (show (7 * k + 3) < 2 ^ 31 by omega)]
  refine lv_istore (lv' := [(5, .int ((mv 12) (7 * k + 3))), (4, .int ((mv 12) (7 * k + 2))), (3, .int ((mv 12) (7 * k + 1))), (2, .int (nI (7 * k))), (0, .ref (ab 0)), (1, .int (nI k))]) hx hb d_M_draw_32 hl (by decide) rfl (fun ls hl => ?_)
  refine lv_aload_n hx hb d_M_draw_34 rfl (lv_at hl 4 rfl) ?_
  refine va_get (D := (dC, dI)) (ci := 6) (v := .ref (ab 1)) (C := R_M) (T := F_M) (N := 20) hx hb hts i_M hown hK hP 0 rfl rfl 1 (by decide) (hts _ fl_M_7) (fun _ h9 => h9) rfl d_M_draw_35 ?_
  refine lv_iload_n hx hb d_M_draw_38 rfl (lv_at hl 3 rfl) ?_
  refine va_iald hx hb hK hP 1 0 rfl rfl (vp_in_nI (by omega) (by omega)) d_M_draw_39 ?_
  rw [nI_clamp (show (7 * k) < 2 ^ 31 by omega)]
  refine lv_tableOut (tgt := 276) hx hb d_M_draw_40 (Or.inr (by rw [ek]; decide)) (by decide) ?_
  refine lv_aload_n hx hb d_M_draw_276 rfl (lv_at hl 4 rfl) ?_
  refine lv_iload_n hx hb d_M_draw_277 rfl (lv_at hl 2 rfl) ?_
  refine lv_iload hx hb d_M_draw_278 (lv_at hl 1 rfl) ?_
  refine cW (W.runV (As := [.int ((mv 12) (7 * k + 1)), .int ((mv 12) (7 * k + 2))]) (rest := []) ⟨hx, hb, hml, hown, hts⟩ (c_M_copied hP hdD eK b2 b3 _ _ hB1 hB2) (cwV 2 hts (wB_goodV (fun _ h => h) ml_M_92 im_M_copied se_M_copied ini_M co_M_copied) rfl rfl rfl (by decide +kernel) ⟨Nat.le_of_ble_eq_true rfl, Nat.le_of_ble_eq_true rfl⟩) (pV hK hP (ci := 6) (q0 := 0) rfl rfl _) rfl rfl hl.1 rfl (lv_room (Nat.le_of_ble_eq_true rfl)) d_M_draw_280 ⟨Nat.zero_le _, Nat.zero_le _⟩) hS (fun _ h => h) (fun H locs hP hS _ _ => ?_)
  have hP : va_P (dC, dI) classes (wM ab cI cZ (va_up (va_up mk 2 (nI (cpF ((mv 12) (7 * k + 1)) ((mv 12) (7 * k + 2)) (mn 2) (mv, mn 2, mn 3)).2.1)) 3 (nI (cpF ((mv 12) (7 * k + 1)) ((mv 12) (7 * k + 2)) (mn 2) (mv, mn 2, mn 3)).2.2)) (cpF ((mv 12) (7 * k + 1)) ((mv 12) (7 * k + 2)) (mn 2) (mv, mn 2, mn 3)).1) H := hP
  have hD : va_D (aN ab 14) (wM ab cI cZ (va_up (va_up mk 2 (nI (cpF ((mv 12) (7 * k + 1)) ((mv 12) (7 * k + 2)) (mn 2) (mv, mn 2, mn 3)).2.1)) 3 (nI (cpF ((mv 12) (7 * k + 1)) ((mv 12) (7 * k + 2)) (mn 2) (mv, mn 2, mn 3)).2.2)) (cpF ((mv 12) (7 * k + 1)) ((mv 12) (7 * k + 2)) (mn 2) (mv, mn 2, mn 3)).1) := wM_D (dD_aN hdD)
  have er : ((some (.int (nI ((cpF (mv 12 (7 * k + 1)) (mv 12 (7 * k + 2)) (mn 2) (mv, mn 2, mn 3)).2.1 - mn 2)))) : Option Value) = some (.int (nI ((cpF ((mv 12) (7 * k + 1)) ((mv 12) (7 * k + 2)) (mn 2) (mv, mn 2, mn 3)).2.1 - mn 2))) := by rfl
  have hPe : va_P (dC, dI) classes (wM ab cI cZ (mkOf mk (va_up (va_up mn 2 (cpF (mv 12 (7 * k + 1)) (mv 12 (7 * k + 2)) (mn 2) (mv, mn 2, mn 3)).2.1) 3 (cpF (mv 12 (7 * k + 1)) (mv 12 (7 * k + 2)) (mn 2) (mv, mn 2, mn 3)).2.2)) (cpF (mv 12 (7 * k + 1)) (mv 12 (7 * k + 2)) (mn 2) (mv, mn 2, mn 3)).1) H := by rw [← wM_of (mk := va_up (va_up mk 2 (nI (cpF (mv 12 (7 * k + 1)) (mv 12 (7 * k + 2)) (mn 2) (mv, mn 2, mn 3)).2.1)) 3 (nI (cpF (mv 12 (7 * k + 1)) (mv 12 (7 * k + 2)) (mn 2) (mv, mn 2, mn 3)).2.2)) (mk' := (mkOf mk (va_up (va_up mn 2 (cpF (mv 12 (7 * k + 1)) (mv 12 (7 * k + 2)) (mn 2) (mv, mn 2, mn 3)).2.1) 3 (cpF (mv 12 (7 * k + 1)) (mv 12 (7 * k + 2)) (mn 2) (mv, mn 2, mn 3)).2.2))) (lt7 (eK 0 (by decide)) (eK 1 (by decide)) rfl rfl rfl rfl rfl)]; exact hP
  exact W.iret (v := (nI ((cpF ((mv 12) (7 * k + 1)) ((mv 12) (7 * k + 2)) (mn 2) (mv, mn 2, mn 3)).2.1 - mn 2))) hx hb hr (fun t ht hW => ⟨by rw [er], by rw [ht]; exact hPe, hS.F ht⟩) hS.2.2 d_M_draw_283
set_option maxHeartbeats 4000000 in
theorem c_M_draw (hP : va_P (dC, dI) classes (wM ab cI cZ mk mv) H) (hdD : dD noT ab 14) (eK : ∀ i, i < 4 → mk i = nI (mn i)) {k : Nat} (hk : k < 200) (hO : okD (mv 12) k (mn, mv)) : Met l y_M_draw (wB y_M_draw b_M_draw 6 (some .int)) ({ frames := 2, cells := 0, slots := 0, locals := 54 } : Room) (rP [.ref (ab 0), .int (nI k)] H (kK dC dI cI cZ cJ)) (qW (some (.int (stR (mv 12) k (mn, mv)))) (aN ab 14) (fun H1 => va_P (dC, dI) classes (wM ab cI cZ (mkOf mk (stD (mv 12) k (mn, mv)).1) (stD (mv 12) k (mn, mv)).2) H1)) 0 0 (aN ab 14) := by
  rcases hO with ⟨e, h⟩ | ⟨e, t, et, ht⟩ | ⟨e, h⟩ | ⟨e, t, et, ht⟩ | ⟨e, h⟩ | ⟨e, t, et, ht⟩ | ⟨e, t, et, ht⟩ | ⟨e, t, et, ht⟩ | ⟨e, h⟩ | ⟨e, h2, h3, h4, h5⟩
  · have e1 : stD (mv 12) k (mn, mv) = ((va_up mn 0 (mn 0 + 1)), (u1 mv 0 (mn 0) (mv 12 (7 * k + 1)))) := by simp [stD, e]
    have e2 : (some (.int (stR (mv 12) k (mn, mv))) : Option Value) = some (.int (nI (mn 0))) := by simp [stR, e]
    rw [e1, e2]; exact c_M_draw_0 hP hdD eK hk e h
  · have e1 : stD (mv 12) k (mn, mv) = (mn, (u1 mv 0 t (mv 12 (7 * k + 2)))) := by simp [stD, e, et, nI_clamp (show t < 2 ^ 31 by omega)]
    have e2 : (some (.int (stR (mv 12) k (mn, mv))) : Option Value) = some (.int 0) := by simp [stR, e]
    rw [e1, e2]; exact c_M_draw_1 hP hdD eK hk e et ht
  · have e1 : stD (mv 12) k (mn, mv) = ((va_up mn 1 (mn 1 + 1)), (u1 mv 1 (mn 1) (mv 12 (7 * k + 1)))) := by simp [stD, e]
    have e2 : (some (.int (stR (mv 12) k (mn, mv))) : Option Value) = some (.int (nI (mn 1))) := by simp [stR, e]
    rw [e1, e2]; exact c_M_draw_2 hP hdD eK hk e h
  · have e1 : stD (mv 12) k (mn, mv) = (mn, (u1 mv 1 t (mv 12 (7 * k + 2)))) := by simp [stD, e, et, nI_clamp (show t < 2 ^ 31 by omega)]
    have e2 : (some (.int (stR (mv 12) k (mn, mv))) : Option Value) = some (.int 0) := by simp [stR, e]
    rw [e1, e2]; exact c_M_draw_3 hP hdD eK hk e et ht
  · have e1 : stD (mv 12) k (mn, mv) = ((va_up mn 2 (mn 2 + 1)), (adV mv (mn 2) (mv 12 (7 * k + 1)) (mv 12 (7 * k + 2)) (mv 12 (7 * k + 3)) (mv 12 (7 * k + 4)) (mv 12 (7 * k + 5)) (mv 12 (7 * k + 6)))) := by simp [stD, e]
    have e2 : (some (.int (stR (mv 12) k (mn, mv))) : Option Value) = some (.int (nI (mn 2))) := by simp [stR, e]
    rw [e1, e2]; exact c_M_draw_4 hP hdD eK hk e h
  · have e1 : stD (mv 12) k (mn, mv) = (mn, (mvV mv t (mv 12 (7 * k + 2)) (mv 12 (7 * k + 3)))) := by simp [stD, e, et, nI_clamp (show t < 2 ^ 31 by omega)]
    have e2 : (some (.int (stR (mv 12) k (mn, mv))) : Option Value) = some (.int 0) := by simp [stR, e]
    rw [e1, e2]; exact c_M_draw_5 hP hdD eK hk e et ht
  · have e1 : stD (mv 12) k (mn, mv) = (mn, (u1 mv 3 t (mv 12 (7 * k + 2)))) := by simp [stD, e, et, nI_clamp (show t < 2 ^ 31 by omega)]
    have e2 : (some (.int (stR (mv 12) k (mn, mv))) : Option Value) = some (.int 0) := by simp [stR, e]
    rw [e1, e2]; exact c_M_draw_6 hP hdD eK hk e et ht
  · have e1 : stD (mv 12) k (mn, mv) = (mn, (u1 mv 8 t 0)) := by simp [stD, e, et, nI_clamp (show t < 2 ^ 31 by omega)]
    have e2 : (some (.int (stR (mv 12) k (mn, mv))) : Option Value) = some (.int 0) := by simp [stR, e]
    rw [e1, e2]; exact c_M_draw_7 hP hdD eK hk e et ht
  · have e1 : stD (mv 12) k (mn, mv) = ((va_up mn 3 (mn 3 + 1)), (owV mv (mn 3) (mv 12 (7 * k + 1)) (mv 12 (7 * k + 2)) (mv 12 (7 * k + 3)))) := by simp [stD, e]
    have e2 : (some (.int (stR (mv 12) k (mn, mv))) : Option Value) = some (.int (nI (mn 3))) := by simp [stR, e]
    rw [e1, e2]; exact c_M_draw_8 hP hdD eK hk e h
  · have e1 : stD (mv 12) k (mn, mv) = ((va_up (va_up mn 2 (cpF (mv 12 (7 * k + 1)) (mv 12 (7 * k + 2)) (mn 2) (mv, mn 2, mn 3)).2.1) 3 (cpF (mv 12 (7 * k + 1)) (mv 12 (7 * k + 2)) (mn 2) (mv, mn 2, mn 3)).2.2), (cpF (mv 12 (7 * k + 1)) (mv 12 (7 * k + 2)) (mn 2) (mv, mn 2, mn 3)).1) := by simp [stD, e]
    have e2 : (some (.int (stR (mv 12) k (mn, mv))) : Option Value) = some (.int (nI ((cpF (mv 12 (7 * k + 1)) (mv 12 (7 * k + 2)) (mn 2) (mv, mn 2, mn 3)).2.1 - mn 2))) := by simp [stR, e]
    rw [e1, e2]; exact c_M_draw_9 hP hdD eK hk e h2 h3 h4 h5

set_option maxRecDepth 100000 in
set_option maxHeartbeats 4000000 in
theorem c_M_act (hP : va_P (dC, dI) classes (wM ab cI cZ mk mv) H) (hdD : dD noT ab 14) (eK : ∀ i, i < 4 → mk i = nI (mn i)) {d : Nat} (e4 : mk 4 = nI d) (hd : d < 200) (x1 x2 x3 x4 x5 x6 x7 : Int32) (hO : okD ((lgV mv d x1 x2 x3 x4 x5 x6 x7) 12) d (mn, (lgV mv d x1 x2 x3 x4 x5 x6 x7))) : Met l y_M_act (wB y_M_act b_M_act 9 (some .int)) ({ frames := 3, cells := 0, slots := 0, locals := 79 } : Room) (rP [.ref (ab 0), .int x1, .int x2, .int x3, .int x4, .int x5, .int x6, .int x7] H (kK dC dI cI cZ cJ)) (qW (some (.int (acR mv mn d x1 x2 x3 x4 x5 x6 x7))) (aN ab 14) (fun H1 => va_P (dC, dI) classes (wM ab cI cZ (acK mk mv mn d x1 x2 x3 x4 x5 x6 x7) (acV mv mn d x1 x2 x3 x4 x5 x6 x7)) H1)) 0 0 (aN ab 14) := by
  refine Met.ofW (cc := b_M_act) (maxL := 9) (ret := (some .int)) (by decide) rfl ?_
  intro p e s m args below meth c s₁ B hml hv
  obtain ⟨rfl, rfl, hK⟩ := hv
  have hx := B.exec
  have hb := B.bytes
  have hr := B.returns
  have hts0 := atoms_spec (ws := (wB y_M_act b_M_act 9 (some .int))) B.pre
  have hts : ∀ w9 ∈ BG, w9.before [.ref (ab 0), .int x1, .int x2, .int x3, .int x4, .int x5, .int x6, .int x7].toArray s = true := fun w9 hw9 => hts0 w9 (List.mem_cons_of_mem _ hw9)
  have hown : s.vm.findClass R_M = some m.cls := findClass_of_methodNamed B.named
  have hlocks := B.notSynchronized
  have hK : va_K (dC, dI) classes [(cI, .int), (cZ, .boolean), (cJ, .long)] s := hK
  have hD : va_D (aN ab 14) (wM ab cI cZ mk mv) := wM_D (dD_aN hdD)
  have hS : va_S (aN ab 14) s.heap s.heap [] := va_S.rf
  have hl := lv_entry ([.ref (ab 0), .int x1, .int x2, .int x3, .int x4, .int x5, .int x6, .int x7]) (n := 9) (Nat.le_of_ble_eq_true rfl)
  rw [lg_entry_eq]
  generalize (lg_sl ([.ref (ab 0), .int x1, .int x2, .int x3, .int x4, .int x5, .int x6, .int x7]) ++ List.replicate (9 - (lg_sl ([.ref (ab 0), .int x1, .int x2, .int x3, .int x4, .int x5, .int x6, .int x7])).length) Slot.unset).toArray = ls at hl ⊢
  have hl : lv_has ls 9 [(0, .ref (ab 0)), (1, .int x1), (2, .int x2), (3, .int x3), (4, .int x4), (5, .int x5), (6, .int x6), (7, .int x7)] := hl
  refine lv_bipush (v := 7) hx hb d_M_act_0 (by decide) ?_
  refine lv_aload_n hx hb d_M_act_2 rfl (lv_at hl 0 rfl) ?_
  refine va_get (D := (dC, dI)) (ci := 6) (v := .int (nI d)) (C := R_M) (T := F_M) (N := 20) hx hb hts i_M hown hK hP 0 rfl rfl 2 (by decide) (hts _ fl_M_71) (fun _ h9 => h9) (by rw [← e4]; rfl) d_M_act_3 ?_
  refine lv_imul hx hb d_M_act_6 ?_
  rw [show (7 : Int32) * nI d = nI (7 * d) from pk_mul 7 d]
  refine lv_istore (lv' := [(8, .int (nI (7 * d))), (0, .ref (ab 0)), (1, .int x1), (2, .int x2), (3, .int x3), (4, .int x4), (5, .int x5), (6, .int x6), (7, .int x7)]) hx hb d_M_act_7 hl (by decide) rfl (fun ls hl => ?_)
  refine lv_aload_n hx hb d_M_act_9 rfl (lv_at hl 1 rfl) ?_
  refine va_get (D := (dC, dI)) (ci := 6) (v := .ref (ab 1)) (C := R_M) (T := F_M) (N := 20) hx hb hts i_M hown hK hP 0 rfl rfl 1 (by decide) (hts _ fl_M_7) (fun _ h9 => h9) rfl d_M_act_10 ?_
  refine lv_iload hx hb d_M_act_13 (lv_at hl 0 rfl) ?_
  refine lv_iload_n hx hb d_M_act_15 rfl (lv_at hl 2 rfl) ?_
  refine va_iast hx hb hK hP hD hS 1 0 rfl rfl (vp_in_nI (by omega) (by omega)) d_M_act_16 (fun H locs hP hD hS => ?_)
  rw [nI_clamp (show (7 * d) < 2 ^ 31 by omega)] at hP hD
  have hP : va_P (dC, dI) classes (wM ab cI cZ mk (va_up mv 12 (upd (mv 12) (7 * d) x1))) H := hP
  have hD : va_D (aN ab 14) (wM ab cI cZ mk (va_up mv 12 (upd (mv 12) (7 * d) x1))) := hD
  refine lv_aload_n hx hb d_M_act_17 rfl (lv_at hl 1 rfl) ?_
  refine va_get (D := (dC, dI)) (ci := 6) (v := .ref (ab 1)) (C := R_M) (T := F_M) (N := 20) hx hb hts i_M hown hK hP 0 rfl rfl 1 (by decide) (hts _ fl_M_7) (fun _ h9 => h9) rfl d_M_act_18 ?_
  refine lv_iload hx hb d_M_act_21 (lv_at hl 0 rfl) ?_
  refine lv_iconst (v := 1) hx hb d_M_act_23 (by decide) ?_
  refine lv_iadd hx hb d_M_act_24 ?_
  rw [show nI (7 * d) + 1 = nI (7 * d + 1) from nI_add (7 * d) 1]
  refine lv_iload_n hx hb d_M_act_25 rfl (lv_at hl 3 rfl) ?_
  refine va_iast hx hb hK hP hD hS 1 0 rfl rfl (vp_in_nI (by omega) (by omega)) d_M_act_26 (fun H locs hP hD hS => ?_)
  rw [nI_clamp (show (7 * d + 1) < 2 ^ 31 by omega)] at hP hD
  have hP : va_P (dC, dI) classes (wM ab cI cZ mk (va_up (va_up mv 12 (upd (mv 12) (7 * d) x1)) 12 (upd (upd (mv 12) (7 * d) x1) (7 * d + 1) x2))) H := hP
  have hD : va_D (aN ab 14) (wM ab cI cZ mk (va_up (va_up mv 12 (upd (mv 12) (7 * d) x1)) 12 (upd (upd (mv 12) (7 * d) x1) (7 * d + 1) x2))) := hD
  refine lv_aload_n hx hb d_M_act_27 rfl (lv_at hl 1 rfl) ?_
  refine va_get (D := (dC, dI)) (ci := 6) (v := .ref (ab 1)) (C := R_M) (T := F_M) (N := 20) hx hb hts i_M hown hK hP 0 rfl rfl 1 (by decide) (hts _ fl_M_7) (fun _ h9 => h9) rfl d_M_act_28 ?_
  refine lv_iload hx hb d_M_act_31 (lv_at hl 0 rfl) ?_
  refine lv_iconst (v := 2) hx hb d_M_act_33 (by decide) ?_
  refine lv_iadd hx hb d_M_act_34 ?_
  rw [show nI (7 * d) + 2 = nI (7 * d + 2) from nI_add (7 * d) 2]
  refine lv_iload_n hx hb d_M_act_35 rfl (lv_at hl 4 rfl) ?_
  refine va_iast hx hb hK hP hD hS 1 0 rfl rfl (vp_in_nI (by omega) (by omega)) d_M_act_36 (fun H locs hP hD hS => ?_)
  rw [nI_clamp (show (7 * d + 2) < 2 ^ 31 by omega)] at hP hD
  have hP : va_P (dC, dI) classes (wM ab cI cZ mk (va_up (va_up (va_up mv 12 (upd (mv 12) (7 * d) x1)) 12 (upd (upd (mv 12) (7 * d) x1) (7 * d + 1) x2)) 12 (upd (upd (upd (mv 12) (7 * d) x1) (7 * d + 1) x2) (7 * d + 2) x3))) H := hP
  have hD : va_D (aN ab 14) (wM ab cI cZ mk (va_up (va_up (va_up mv 12 (upd (mv 12) (7 * d) x1)) 12 (upd (upd (mv 12) (7 * d) x1) (7 * d + 1) x2)) 12 (upd (upd (upd (mv 12) (7 * d) x1) (7 * d + 1) x2) (7 * d + 2) x3))) := hD
  refine lv_aload_n hx hb d_M_act_37 rfl (lv_at hl 1 rfl) ?_
  refine va_get (D := (dC, dI)) (ci := 6) (v := .ref (ab 1)) (C := R_M) (T := F_M) (N := 20) hx hb hts i_M hown hK hP 0 rfl rfl 1 (by decide) (hts _ fl_M_7) (fun _ h9 => h9) rfl d_M_act_38 ?_
  refine lv_iload hx hb d_M_act_41 (lv_at hl 0 rfl) ?_
  refine lv_iconst (v := 3) hx hb d_M_act_43 (by decide) ?_
  refine lv_iadd hx hb d_M_act_44 ?_
  rw [show nI (7 * d) + 3 = nI (7 * d + 3) from nI_add (7 * d) 3]
  refine lv_iload hx hb d_M_act_45 (lv_at hl 5 rfl) ?_
  refine va_iast hx hb hK hP hD hS 1 0 rfl rfl (vp_in_nI (by omega) (by omega)) d_M_act_47 (fun H locs hP hD hS => ?_)
  rw [nI_clamp (show (7 * d + 3) < 2 ^ 31 by omega)] at hP hD
  have hP : va_P (dC, dI) classes (wM ab cI cZ mk (va_up (va_up (va_up (va_up mv 12 (upd (mv 12) (7 * d) x1)) 12 (upd (upd (mv 12) (7 * d) x1) (7 * d + 1) x2)) 12 (upd (upd (upd (mv 12) (7 * d) x1) (7 * d + 1) x2) (7 * d + 2) x3)) 12 (upd (upd (upd (upd (mv 12) (7 * d) x1) (7 * d + 1) x2) (7 * d + 2) x3) (7 * d + 3) x4))) H := hP
  have hD : va_D (aN ab 14) (wM ab cI cZ mk (va_up (va_up (va_up (va_up mv 12 (upd (mv 12) (7 * d) x1)) 12 (upd (upd (mv 12) (7 * d) x1) (7 * d + 1) x2)) 12 (upd (upd (upd (mv 12) (7 * d) x1) (7 * d + 1) x2) (7 * d + 2) x3)) 12 (upd (upd (upd (upd (mv 12) (7 * d) x1) (7 * d + 1) x2) (7 * d + 2) x3) (7 * d + 3) x4))) := hD
  refine lv_aload_n hx hb d_M_act_48 rfl (lv_at hl 1 rfl) ?_
  refine va_get (D := (dC, dI)) (ci := 6) (v := .ref (ab 1)) (C := R_M) (T := F_M) (N := 20) hx hb hts i_M hown hK hP 0 rfl rfl 1 (by decide) (hts _ fl_M_7) (fun _ h9 => h9) rfl d_M_act_49 ?_
  refine lv_iload hx hb d_M_act_52 (lv_at hl 0 rfl) ?_
  refine lv_iconst (v := 4) hx hb d_M_act_54 (by decide) ?_
  refine lv_iadd hx hb d_M_act_55 ?_
  rw [show nI (7 * d) + 4 = nI (7 * d + 4) from nI_add (7 * d) 4]
  refine lv_iload hx hb d_M_act_56 (lv_at hl 6 rfl) ?_
  refine va_iast hx hb hK hP hD hS 1 0 rfl rfl (vp_in_nI (by omega) (by omega)) d_M_act_58 (fun H locs hP hD hS => ?_)
  rw [nI_clamp (show (7 * d + 4) < 2 ^ 31 by omega)] at hP hD
  have hP : va_P (dC, dI) classes (wM ab cI cZ mk (va_up (va_up (va_up (va_up (va_up mv 12 (upd (mv 12) (7 * d) x1)) 12 (upd (upd (mv 12) (7 * d) x1) (7 * d + 1) x2)) 12 (upd (upd (upd (mv 12) (7 * d) x1) (7 * d + 1) x2) (7 * d + 2) x3)) 12 (upd (upd (upd (upd (mv 12) (7 * d) x1) (7 * d + 1) x2) (7 * d + 2) x3) (7 * d + 3) x4)) 12 (upd (upd (upd (upd (upd (mv 12) (7 * d) x1) (7 * d + 1) x2) (7 * d + 2) x3) (7 * d + 3) x4) (7 * d + 4) x5))) H := hP
  have hD : va_D (aN ab 14) (wM ab cI cZ mk (va_up (va_up (va_up (va_up (va_up mv 12 (upd (mv 12) (7 * d) x1)) 12 (upd (upd (mv 12) (7 * d) x1) (7 * d + 1) x2)) 12 (upd (upd (upd (mv 12) (7 * d) x1) (7 * d + 1) x2) (7 * d + 2) x3)) 12 (upd (upd (upd (upd (mv 12) (7 * d) x1) (7 * d + 1) x2) (7 * d + 2) x3) (7 * d + 3) x4)) 12 (upd (upd (upd (upd (upd (mv 12) (7 * d) x1) (7 * d + 1) x2) (7 * d + 2) x3) (7 * d + 3) x4) (7 * d + 4) x5))) := hD
  refine lv_aload_n hx hb d_M_act_59 rfl (lv_at hl 1 rfl) ?_
  refine va_get (D := (dC, dI)) (ci := 6) (v := .ref (ab 1)) (C := R_M) (T := F_M) (N := 20) hx hb hts i_M hown hK hP 0 rfl rfl 1 (by decide) (hts _ fl_M_7) (fun _ h9 => h9) rfl d_M_act_60 ?_
  refine lv_iload hx hb d_M_act_63 (lv_at hl 0 rfl) ?_
  refine lv_iconst (v := 5) hx hb d_M_act_65 (by decide) ?_
  refine lv_iadd hx hb d_M_act_66 ?_
  rw [show nI (7 * d) + 5 = nI (7 * d + 5) from nI_add (7 * d) 5]
  refine lv_iload hx hb d_M_act_67 (lv_at hl 7 rfl) ?_
  refine va_iast hx hb hK hP hD hS 1 0 rfl rfl (vp_in_nI (by omega) (by omega)) d_M_act_69 (fun H locs hP hD hS => ?_)
  rw [nI_clamp (show (7 * d + 5) < 2 ^ 31 by omega)] at hP hD
  have hP : va_P (dC, dI) classes (wM ab cI cZ mk (va_up (va_up (va_up (va_up (va_up (va_up mv 12 (upd (mv 12) (7 * d) x1)) 12 (upd (upd (mv 12) (7 * d) x1) (7 * d + 1) x2)) 12 (upd (upd (upd (mv 12) (7 * d) x1) (7 * d + 1) x2) (7 * d + 2) x3)) 12 (upd (upd (upd (upd (mv 12) (7 * d) x1) (7 * d + 1) x2) (7 * d + 2) x3) (7 * d + 3) x4)) 12 (upd (upd (upd (upd (upd (mv 12) (7 * d) x1) (7 * d + 1) x2) (7 * d + 2) x3) (7 * d + 3) x4) (7 * d + 4) x5)) 12 (upd (upd (upd (upd (upd (upd (mv 12) (7 * d) x1) (7 * d + 1) x2) (7 * d + 2) x3) (7 * d + 3) x4) (7 * d + 4) x5) (7 * d + 5) x6))) H := hP
  have hD : va_D (aN ab 14) (wM ab cI cZ mk (va_up (va_up (va_up (va_up (va_up (va_up mv 12 (upd (mv 12) (7 * d) x1)) 12 (upd (upd (mv 12) (7 * d) x1) (7 * d + 1) x2)) 12 (upd (upd (upd (mv 12) (7 * d) x1) (7 * d + 1) x2) (7 * d + 2) x3)) 12 (upd (upd (upd (upd (mv 12) (7 * d) x1) (7 * d + 1) x2) (7 * d + 2) x3) (7 * d + 3) x4)) 12 (upd (upd (upd (upd (upd (mv 12) (7 * d) x1) (7 * d + 1) x2) (7 * d + 2) x3) (7 * d + 3) x4) (7 * d + 4) x5)) 12 (upd (upd (upd (upd (upd (upd (mv 12) (7 * d) x1) (7 * d + 1) x2) (7 * d + 2) x3) (7 * d + 3) x4) (7 * d + 4) x5) (7 * d + 5) x6))) := hD
  refine lv_aload_n hx hb d_M_act_70 rfl (lv_at hl 1 rfl) ?_
  refine va_get (D := (dC, dI)) (ci := 6) (v := .ref (ab 1)) (C := R_M) (T := F_M) (N := 20) hx hb hts i_M hown hK hP 0 rfl rfl 1 (by decide) (hts _ fl_M_7) (fun _ h9 => h9) rfl d_M_act_71 ?_
  refine lv_iload hx hb d_M_act_74 (lv_at hl 0 rfl) ?_
  refine lv_bipush (v := 6) hx hb d_M_act_76 (by decide) ?_
  refine lv_iadd hx hb d_M_act_78 ?_
  rw [show nI (7 * d) + 6 = nI (7 * d + 6) from nI_add (7 * d) 6]
  refine lv_iload hx hb d_M_act_79 (lv_at hl 8 rfl) ?_
  refine va_iast hx hb hK hP hD hS 1 0 rfl rfl (vp_in_nI (by omega) (by omega)) d_M_act_81 (fun H locs hP hD hS => ?_)
  rw [nI_clamp (show (7 * d + 6) < 2 ^ 31 by omega)] at hP hD
  have hP : va_P (dC, dI) classes (wM ab cI cZ mk (va_up (va_up (va_up (va_up (va_up (va_up (va_up mv 12 (upd (mv 12) (7 * d) x1)) 12 (upd (upd (mv 12) (7 * d) x1) (7 * d + 1) x2)) 12 (upd (upd (upd (mv 12) (7 * d) x1) (7 * d + 1) x2) (7 * d + 2) x3)) 12 (upd (upd (upd (upd (mv 12) (7 * d) x1) (7 * d + 1) x2) (7 * d + 2) x3) (7 * d + 3) x4)) 12 (upd (upd (upd (upd (upd (mv 12) (7 * d) x1) (7 * d + 1) x2) (7 * d + 2) x3) (7 * d + 3) x4) (7 * d + 4) x5)) 12 (upd (upd (upd (upd (upd (upd (mv 12) (7 * d) x1) (7 * d + 1) x2) (7 * d + 2) x3) (7 * d + 3) x4) (7 * d + 4) x5) (7 * d + 5) x6)) 12 (upd (upd (upd (upd (upd (upd (upd (mv 12) (7 * d) x1) (7 * d + 1) x2) (7 * d + 2) x3) (7 * d + 3) x4) (7 * d + 4) x5) (7 * d + 5) x6) (7 * d + 6) x7))) H := hP
  have hD : va_D (aN ab 14) (wM ab cI cZ mk (va_up (va_up (va_up (va_up (va_up (va_up (va_up mv 12 (upd (mv 12) (7 * d) x1)) 12 (upd (upd (mv 12) (7 * d) x1) (7 * d + 1) x2)) 12 (upd (upd (upd (mv 12) (7 * d) x1) (7 * d + 1) x2) (7 * d + 2) x3)) 12 (upd (upd (upd (upd (mv 12) (7 * d) x1) (7 * d + 1) x2) (7 * d + 2) x3) (7 * d + 3) x4)) 12 (upd (upd (upd (upd (upd (mv 12) (7 * d) x1) (7 * d + 1) x2) (7 * d + 2) x3) (7 * d + 3) x4) (7 * d + 4) x5)) 12 (upd (upd (upd (upd (upd (upd (mv 12) (7 * d) x1) (7 * d + 1) x2) (7 * d + 2) x3) (7 * d + 3) x4) (7 * d + 4) x5) (7 * d + 5) x6)) 12 (upd (upd (upd (upd (upd (upd (upd (mv 12) (7 * d) x1) (7 * d + 1) x2) (7 * d + 2) x3) (7 * d + 3) x4) (7 * d + 4) x5) (7 * d + 5) x6) (7 * d + 6) x7))) := hD
  refine lv_aload_n hx hb d_M_act_82 rfl (lv_at hl 1 rfl) ?_
  refine lv_dup hx hb d_M_act_83 rfl ?_
  refine va_get (D := (dC, dI)) (ci := 6) (v := .int (nI d)) (C := R_M) (T := F_M) (N := 20) hx hb hts i_M hown hK hP 0 rfl rfl 2 (by decide) (hts _ fl_M_71) (fun _ h9 => h9) (by rw [← e4]; rfl) d_M_act_84 ?_
  refine lv_iconst (v := 1) hx hb d_M_act_87 (by decide) ?_
  refine lv_iadd hx hb d_M_act_88 ?_
  rw [nI_1]
  refine va_put (D := (dC, dI)) (ci := 6) (v := .int (nI (d + 1))) (ty := .int) (C := R_M) (T := F_M) (N := 20) hx hb hts i_M ty_M tok_M n_M hown hK hP hD hS 0 rfl rfl 2 (by decide) (hts _ fl_M_71) (fun _ h9 => h9) rfl (by decide +kernel) rfl rfl (Nat.le_of_ble_eq_true rfl) d_M_act_89 (fun H locs hP hD hS => ?_)
  have hP : va_P (dC, dI) classes (wM ab cI cZ (va_up mk 4 (nI (d + 1))) (va_up (va_up (va_up (va_up (va_up (va_up (va_up mv 12 (upd (mv 12) (7 * d) x1)) 12 (upd (upd (mv 12) (7 * d) x1) (7 * d + 1) x2)) 12 (upd (upd (upd (mv 12) (7 * d) x1) (7 * d + 1) x2) (7 * d + 2) x3)) 12 (upd (upd (upd (upd (mv 12) (7 * d) x1) (7 * d + 1) x2) (7 * d + 2) x3) (7 * d + 3) x4)) 12 (upd (upd (upd (upd (upd (mv 12) (7 * d) x1) (7 * d + 1) x2) (7 * d + 2) x3) (7 * d + 3) x4) (7 * d + 4) x5)) 12 (upd (upd (upd (upd (upd (upd (mv 12) (7 * d) x1) (7 * d + 1) x2) (7 * d + 2) x3) (7 * d + 3) x4) (7 * d + 4) x5) (7 * d + 5) x6)) 12 (upd (upd (upd (upd (upd (upd (upd (mv 12) (7 * d) x1) (7 * d + 1) x2) (7 * d + 2) x3) (7 * d + 3) x4) (7 * d + 4) x5) (7 * d + 5) x6) (7 * d + 6) x7))) H := hP
  have hD : va_D (aN ab 14) (wM ab cI cZ (va_up mk 4 (nI (d + 1))) (va_up (va_up (va_up (va_up (va_up (va_up (va_up mv 12 (upd (mv 12) (7 * d) x1)) 12 (upd (upd (mv 12) (7 * d) x1) (7 * d + 1) x2)) 12 (upd (upd (upd (mv 12) (7 * d) x1) (7 * d + 1) x2) (7 * d + 2) x3)) 12 (upd (upd (upd (upd (mv 12) (7 * d) x1) (7 * d + 1) x2) (7 * d + 2) x3) (7 * d + 3) x4)) 12 (upd (upd (upd (upd (upd (mv 12) (7 * d) x1) (7 * d + 1) x2) (7 * d + 2) x3) (7 * d + 3) x4) (7 * d + 4) x5)) 12 (upd (upd (upd (upd (upd (upd (mv 12) (7 * d) x1) (7 * d + 1) x2) (7 * d + 2) x3) (7 * d + 3) x4) (7 * d + 4) x5) (7 * d + 5) x6)) 12 (upd (upd (upd (upd (upd (upd (upd (mv 12) (7 * d) x1) (7 * d + 1) x2) (7 * d + 2) x3) (7 * d + 3) x4) (7 * d + 4) x5) (7 * d + 5) x6) (7 * d + 6) x7))) := hD
  refine lv_aload_n hx hb d_M_act_92 rfl (lv_at hl 1 rfl) ?_
  refine lv_iconst (v := 0) hx hb d_M_act_93 (by decide) ?_
  refine va_put (D := (dC, dI)) (ci := 6) (v := .int 0) (ty := .int) (C := R_M) (T := F_M) (N := 20) hx hb hts i_M ty_M tok_M n_M hown hK hP hD hS 0 rfl rfl 3 (by decide) (hts _ fl_M_74) (fun _ h9 => h9) rfl (by decide +kernel) rfl rfl (Nat.le_of_ble_eq_true rfl) d_M_act_94 (fun H locs hP hD hS => ?_)
  have hP : va_P (dC, dI) classes (wM ab cI cZ (va_up (va_up mk 4 (nI (d + 1))) 5 0) (va_up (va_up (va_up (va_up (va_up (va_up (va_up mv 12 (upd (mv 12) (7 * d) x1)) 12 (upd (upd (mv 12) (7 * d) x1) (7 * d + 1) x2)) 12 (upd (upd (upd (mv 12) (7 * d) x1) (7 * d + 1) x2) (7 * d + 2) x3)) 12 (upd (upd (upd (upd (mv 12) (7 * d) x1) (7 * d + 1) x2) (7 * d + 2) x3) (7 * d + 3) x4)) 12 (upd (upd (upd (upd (upd (mv 12) (7 * d) x1) (7 * d + 1) x2) (7 * d + 2) x3) (7 * d + 3) x4) (7 * d + 4) x5)) 12 (upd (upd (upd (upd (upd (upd (mv 12) (7 * d) x1) (7 * d + 1) x2) (7 * d + 2) x3) (7 * d + 3) x4) (7 * d + 4) x5) (7 * d + 5) x6)) 12 (upd (upd (upd (upd (upd (upd (upd (mv 12) (7 * d) x1) (7 * d + 1) x2) (7 * d + 2) x3) (7 * d + 3) x4) (7 * d + 4) x5) (7 * d + 5) x6) (7 * d + 6) x7))) H := hP
  have hD : va_D (aN ab 14) (wM ab cI cZ (va_up (va_up mk 4 (nI (d + 1))) 5 0) (va_up (va_up (va_up (va_up (va_up (va_up (va_up mv 12 (upd (mv 12) (7 * d) x1)) 12 (upd (upd (mv 12) (7 * d) x1) (7 * d + 1) x2)) 12 (upd (upd (upd (mv 12) (7 * d) x1) (7 * d + 1) x2) (7 * d + 2) x3)) 12 (upd (upd (upd (upd (mv 12) (7 * d) x1) (7 * d + 1) x2) (7 * d + 2) x3) (7 * d + 3) x4)) 12 (upd (upd (upd (upd (upd (mv 12) (7 * d) x1) (7 * d + 1) x2) (7 * d + 2) x3) (7 * d + 3) x4) (7 * d + 4) x5)) 12 (upd (upd (upd (upd (upd (upd (mv 12) (7 * d) x1) (7 * d + 1) x2) (7 * d + 2) x3) (7 * d + 3) x4) (7 * d + 4) x5) (7 * d + 5) x6)) 12 (upd (upd (upd (upd (upd (upd (upd (mv 12) (7 * d) x1) (7 * d + 1) x2) (7 * d + 2) x3) (7 * d + 3) x4) (7 * d + 4) x5) (7 * d + 5) x6) (7 * d + 6) x7))) := hD
  refine lv_aload_n hx hb d_M_act_97 rfl (lv_at hl 1 rfl) ?_
  refine lv_aload_n hx hb d_M_act_98 rfl (lv_at hl 1 rfl) ?_
  refine va_get (D := (dC, dI)) (ci := 6) (v := .int (nI (d + 1))) (C := R_M) (T := F_M) (N := 20) hx hb hts i_M hown hK hP 0 rfl rfl 2 (by decide) (hts _ fl_M_71) (fun _ h9 => h9) rfl d_M_act_99 ?_
  refine lv_iconst (v := 1) hx hb d_M_act_102 (by decide) ?_
  refine lv_isub hx hb d_M_act_103 ?_
  rw [nI_pred]
  refine cW (W.runV (As := [.int (nI d)]) (rest := []) ⟨hx, hb, hml, hown, hts⟩ (c_M_draw (mk := va_up (va_up mk 4 (nI (d + 1))) 5 0) (mv := (lgV mv d x1 x2 x3 x4 x5 x6 x7)) (mn := mn) hP hdD (fun i hi => (show va_up (va_up mk 4 (nI (d + 1))) 5 0 i = mk i by simp only [va_up]; rw [if_neg (show ¬ i = 5 by omega), if_neg (show ¬ i = 4 by omega)]).trans (eK i hi)) hd hO) (cwV 1 hts (wB_goodV (fun _ h => h) ml_M_77 im_M_draw se_M_draw ini_M co_M_draw) rfl rfl rfl (by decide +kernel) ⟨Nat.le_of_ble_eq_true rfl, Nat.le_of_ble_eq_true rfl⟩) (pV hK hP (ci := 6) (q0 := 0) rfl rfl _) rfl rfl hl.1 rfl (lv_room (Nat.le_of_ble_eq_true rfl)) d_M_act_104 ⟨Nat.zero_le _, Nat.zero_le _⟩) hS (fun _ h => h) (fun H locs hP hS _ _ => ?_)
  have hP : va_P (dC, dI) classes (wM ab cI cZ (mkOf (va_up (va_up mk 4 (nI (d + 1))) 5 0) (stD ((va_up (va_up (va_up (va_up (va_up (va_up (va_up mv 12 (upd (mv 12) (7 * d) x1)) 12 (upd (upd (mv 12) (7 * d) x1) (7 * d + 1) x2)) 12 (upd (upd (upd (mv 12) (7 * d) x1) (7 * d + 1) x2) (7 * d + 2) x3)) 12 (upd (upd (upd (upd (mv 12) (7 * d) x1) (7 * d + 1) x2) (7 * d + 2) x3) (7 * d + 3) x4)) 12 (upd (upd (upd (upd (upd (mv 12) (7 * d) x1) (7 * d + 1) x2) (7 * d + 2) x3) (7 * d + 3) x4) (7 * d + 4) x5)) 12 (upd (upd (upd (upd (upd (upd (mv 12) (7 * d) x1) (7 * d + 1) x2) (7 * d + 2) x3) (7 * d + 3) x4) (7 * d + 4) x5) (7 * d + 5) x6)) 12 (upd (upd (upd (upd (upd (upd (upd (mv 12) (7 * d) x1) (7 * d + 1) x2) (7 * d + 2) x3) (7 * d + 3) x4) (7 * d + 4) x5) (7 * d + 5) x6) (7 * d + 6) x7)) 12) d (mn, (va_up (va_up (va_up (va_up (va_up (va_up (va_up mv 12 (upd (mv 12) (7 * d) x1)) 12 (upd (upd (mv 12) (7 * d) x1) (7 * d + 1) x2)) 12 (upd (upd (upd (mv 12) (7 * d) x1) (7 * d + 1) x2) (7 * d + 2) x3)) 12 (upd (upd (upd (upd (mv 12) (7 * d) x1) (7 * d + 1) x2) (7 * d + 2) x3) (7 * d + 3) x4)) 12 (upd (upd (upd (upd (upd (mv 12) (7 * d) x1) (7 * d + 1) x2) (7 * d + 2) x3) (7 * d + 3) x4) (7 * d + 4) x5)) 12 (upd (upd (upd (upd (upd (upd (mv 12) (7 * d) x1) (7 * d + 1) x2) (7 * d + 2) x3) (7 * d + 3) x4) (7 * d + 4) x5) (7 * d + 5) x6)) 12 (upd (upd (upd (upd (upd (upd (upd (mv 12) (7 * d) x1) (7 * d + 1) x2) (7 * d + 2) x3) (7 * d + 3) x4) (7 * d + 4) x5) (7 * d + 5) x6) (7 * d + 6) x7)))).1) (stD ((va_up (va_up (va_up (va_up (va_up (va_up (va_up mv 12 (upd (mv 12) (7 * d) x1)) 12 (upd (upd (mv 12) (7 * d) x1) (7 * d + 1) x2)) 12 (upd (upd (upd (mv 12) (7 * d) x1) (7 * d + 1) x2) (7 * d + 2) x3)) 12 (upd (upd (upd (upd (mv 12) (7 * d) x1) (7 * d + 1) x2) (7 * d + 2) x3) (7 * d + 3) x4)) 12 (upd (upd (upd (upd (upd (mv 12) (7 * d) x1) (7 * d + 1) x2) (7 * d + 2) x3) (7 * d + 3) x4) (7 * d + 4) x5)) 12 (upd (upd (upd (upd (upd (upd (mv 12) (7 * d) x1) (7 * d + 1) x2) (7 * d + 2) x3) (7 * d + 3) x4) (7 * d + 4) x5) (7 * d + 5) x6)) 12 (upd (upd (upd (upd (upd (upd (upd (mv 12) (7 * d) x1) (7 * d + 1) x2) (7 * d + 2) x3) (7 * d + 3) x4) (7 * d + 4) x5) (7 * d + 5) x6) (7 * d + 6) x7)) 12) d (mn, (va_up (va_up (va_up (va_up (va_up (va_up (va_up mv 12 (upd (mv 12) (7 * d) x1)) 12 (upd (upd (mv 12) (7 * d) x1) (7 * d + 1) x2)) 12 (upd (upd (upd (mv 12) (7 * d) x1) (7 * d + 1) x2) (7 * d + 2) x3)) 12 (upd (upd (upd (upd (mv 12) (7 * d) x1) (7 * d + 1) x2) (7 * d + 2) x3) (7 * d + 3) x4)) 12 (upd (upd (upd (upd (upd (mv 12) (7 * d) x1) (7 * d + 1) x2) (7 * d + 2) x3) (7 * d + 3) x4) (7 * d + 4) x5)) 12 (upd (upd (upd (upd (upd (upd (mv 12) (7 * d) x1) (7 * d + 1) x2) (7 * d + 2) x3) (7 * d + 3) x4) (7 * d + 4) x5) (7 * d + 5) x6)) 12 (upd (upd (upd (upd (upd (upd (upd (mv 12) (7 * d) x1) (7 * d + 1) x2) (7 * d + 2) x3) (7 * d + 3) x4) (7 * d + 4) x5) (7 * d + 5) x6) (7 * d + 6) x7)))).2) H := hP
  have hD : va_D (aN ab 14) (wM ab cI cZ (mkOf (va_up (va_up mk 4 (nI (d + 1))) 5 0) (stD ((va_up (va_up (va_up (va_up (va_up (va_up (va_up mv 12 (upd (mv 12) (7 * d) x1)) 12 (upd (upd (mv 12) (7 * d) x1) (7 * d + 1) x2)) 12 (upd (upd (upd (mv 12) (7 * d) x1) (7 * d + 1) x2) (7 * d + 2) x3)) 12 (upd (upd (upd (upd (mv 12) (7 * d) x1) (7 * d + 1) x2) (7 * d + 2) x3) (7 * d + 3) x4)) 12 (upd (upd (upd (upd (upd (mv 12) (7 * d) x1) (7 * d + 1) x2) (7 * d + 2) x3) (7 * d + 3) x4) (7 * d + 4) x5)) 12 (upd (upd (upd (upd (upd (upd (mv 12) (7 * d) x1) (7 * d + 1) x2) (7 * d + 2) x3) (7 * d + 3) x4) (7 * d + 4) x5) (7 * d + 5) x6)) 12 (upd (upd (upd (upd (upd (upd (upd (mv 12) (7 * d) x1) (7 * d + 1) x2) (7 * d + 2) x3) (7 * d + 3) x4) (7 * d + 4) x5) (7 * d + 5) x6) (7 * d + 6) x7)) 12) d (mn, (va_up (va_up (va_up (va_up (va_up (va_up (va_up mv 12 (upd (mv 12) (7 * d) x1)) 12 (upd (upd (mv 12) (7 * d) x1) (7 * d + 1) x2)) 12 (upd (upd (upd (mv 12) (7 * d) x1) (7 * d + 1) x2) (7 * d + 2) x3)) 12 (upd (upd (upd (upd (mv 12) (7 * d) x1) (7 * d + 1) x2) (7 * d + 2) x3) (7 * d + 3) x4)) 12 (upd (upd (upd (upd (upd (mv 12) (7 * d) x1) (7 * d + 1) x2) (7 * d + 2) x3) (7 * d + 3) x4) (7 * d + 4) x5)) 12 (upd (upd (upd (upd (upd (upd (mv 12) (7 * d) x1) (7 * d + 1) x2) (7 * d + 2) x3) (7 * d + 3) x4) (7 * d + 4) x5) (7 * d + 5) x6)) 12 (upd (upd (upd (upd (upd (upd (upd (mv 12) (7 * d) x1) (7 * d + 1) x2) (7 * d + 2) x3) (7 * d + 3) x4) (7 * d + 4) x5) (7 * d + 5) x6) (7 * d + 6) x7)))).1) (stD ((va_up (va_up (va_up (va_up (va_up (va_up (va_up mv 12 (upd (mv 12) (7 * d) x1)) 12 (upd (upd (mv 12) (7 * d) x1) (7 * d + 1) x2)) 12 (upd (upd (upd (mv 12) (7 * d) x1) (7 * d + 1) x2) (7 * d + 2) x3)) 12 (upd (upd (upd (upd (mv 12) (7 * d) x1) (7 * d + 1) x2) (7 * d + 2) x3) (7 * d + 3) x4)) 12 (upd (upd (upd (upd (upd (mv 12) (7 * d) x1) (7 * d + 1) x2) (7 * d + 2) x3) (7 * d + 3) x4) (7 * d + 4) x5)) 12 (upd (upd (upd (upd (upd (upd (mv 12) (7 * d) x1) (7 * d + 1) x2) (7 * d + 2) x3) (7 * d + 3) x4) (7 * d + 4) x5) (7 * d + 5) x6)) 12 (upd (upd (upd (upd (upd (upd (upd (mv 12) (7 * d) x1) (7 * d + 1) x2) (7 * d + 2) x3) (7 * d + 3) x4) (7 * d + 4) x5) (7 * d + 5) x6) (7 * d + 6) x7)) 12) d (mn, (va_up (va_up (va_up (va_up (va_up (va_up (va_up mv 12 (upd (mv 12) (7 * d) x1)) 12 (upd (upd (mv 12) (7 * d) x1) (7 * d + 1) x2)) 12 (upd (upd (upd (mv 12) (7 * d) x1) (7 * d + 1) x2) (7 * d + 2) x3)) 12 (upd (upd (upd (upd (mv 12) (7 * d) x1) (7 * d + 1) x2) (7 * d + 2) x3) (7 * d + 3) x4)) 12 (upd (upd (upd (upd (upd (mv 12) (7 * d) x1) (7 * d + 1) x2) (7 * d + 2) x3) (7 * d + 3) x4) (7 * d + 4) x5)) 12 (upd (upd (upd (upd (upd (upd (mv 12) (7 * d) x1) (7 * d + 1) x2) (7 * d + 2) x3) (7 * d + 3) x4) (7 * d + 4) x5) (7 * d + 5) x6)) 12 (upd (upd (upd (upd (upd (upd (upd (mv 12) (7 * d) x1) (7 * d + 1) x2) (7 * d + 2) x3) (7 * d + 3) x4) (7 * d + 4) x5) (7 * d + 5) x6) (7 * d + 6) x7)))).2) := wM_D (dD_aN hdD)
  have er : ((some (.int (acR mv mn d x1 x2 x3 x4 x5 x6 x7))) : Option Value) = some (.int (stR ((va_up (va_up (va_up (va_up (va_up (va_up (va_up mv 12 (upd (mv 12) (7 * d) x1)) 12 (upd (upd (mv 12) (7 * d) x1) (7 * d + 1) x2)) 12 (upd (upd (upd (mv 12) (7 * d) x1) (7 * d + 1) x2) (7 * d + 2) x3)) 12 (upd (upd (upd (upd (mv 12) (7 * d) x1) (7 * d + 1) x2) (7 * d + 2) x3) (7 * d + 3) x4)) 12 (upd (upd (upd (upd (upd (mv 12) (7 * d) x1) (7 * d + 1) x2) (7 * d + 2) x3) (7 * d + 3) x4) (7 * d + 4) x5)) 12 (upd (upd (upd (upd (upd (upd (mv 12) (7 * d) x1) (7 * d + 1) x2) (7 * d + 2) x3) (7 * d + 3) x4) (7 * d + 4) x5) (7 * d + 5) x6)) 12 (upd (upd (upd (upd (upd (upd (upd (mv 12) (7 * d) x1) (7 * d + 1) x2) (7 * d + 2) x3) (7 * d + 3) x4) (7 * d + 4) x5) (7 * d + 5) x6) (7 * d + 6) x7)) 12) d (mn, (va_up (va_up (va_up (va_up (va_up (va_up (va_up mv 12 (upd (mv 12) (7 * d) x1)) 12 (upd (upd (mv 12) (7 * d) x1) (7 * d + 1) x2)) 12 (upd (upd (upd (mv 12) (7 * d) x1) (7 * d + 1) x2) (7 * d + 2) x3)) 12 (upd (upd (upd (upd (mv 12) (7 * d) x1) (7 * d + 1) x2) (7 * d + 2) x3) (7 * d + 3) x4)) 12 (upd (upd (upd (upd (upd (mv 12) (7 * d) x1) (7 * d + 1) x2) (7 * d + 2) x3) (7 * d + 3) x4) (7 * d + 4) x5)) 12 (upd (upd (upd (upd (upd (upd (mv 12) (7 * d) x1) (7 * d + 1) x2) (7 * d + 2) x3) (7 * d + 3) x4) (7 * d + 4) x5) (7 * d + 5) x6)) 12 (upd (upd (upd (upd (upd (upd (upd (mv 12) (7 * d) x1) (7 * d + 1) x2) (7 * d + 2) x3) (7 * d + 3) x4) (7 * d + 4) x5) (7 * d + 5) x6) (7 * d + 6) x7))))) := by rfl
  have hPe : va_P (dC, dI) classes (wM ab cI cZ (acK mk mv mn d x1 x2 x3 x4 x5 x6 x7) (acV mv mn d x1 x2 x3 x4 x5 x6 x7)) H := by exact hP
  exact W.iret (v := (stR ((va_up (va_up (va_up (va_up (va_up (va_up (va_up mv 12 (upd (mv 12) (7 * d) x1)) 12 (upd (upd (mv 12) (7 * d) x1) (7 * d + 1) x2)) 12 (upd (upd (upd (mv 12) (7 * d) x1) (7 * d + 1) x2) (7 * d + 2) x3)) 12 (upd (upd (upd (upd (mv 12) (7 * d) x1) (7 * d + 1) x2) (7 * d + 2) x3) (7 * d + 3) x4)) 12 (upd (upd (upd (upd (upd (mv 12) (7 * d) x1) (7 * d + 1) x2) (7 * d + 2) x3) (7 * d + 3) x4) (7 * d + 4) x5)) 12 (upd (upd (upd (upd (upd (upd (mv 12) (7 * d) x1) (7 * d + 1) x2) (7 * d + 2) x3) (7 * d + 3) x4) (7 * d + 4) x5) (7 * d + 5) x6)) 12 (upd (upd (upd (upd (upd (upd (upd (mv 12) (7 * d) x1) (7 * d + 1) x2) (7 * d + 2) x3) (7 * d + 3) x4) (7 * d + 4) x5) (7 * d + 5) x6) (7 * d + 6) x7)) 12) d (mn, (va_up (va_up (va_up (va_up (va_up (va_up (va_up mv 12 (upd (mv 12) (7 * d) x1)) 12 (upd (upd (mv 12) (7 * d) x1) (7 * d + 1) x2)) 12 (upd (upd (upd (mv 12) (7 * d) x1) (7 * d + 1) x2) (7 * d + 2) x3)) 12 (upd (upd (upd (upd (mv 12) (7 * d) x1) (7 * d + 1) x2) (7 * d + 2) x3) (7 * d + 3) x4)) 12 (upd (upd (upd (upd (upd (mv 12) (7 * d) x1) (7 * d + 1) x2) (7 * d + 2) x3) (7 * d + 3) x4) (7 * d + 4) x5)) 12 (upd (upd (upd (upd (upd (upd (mv 12) (7 * d) x1) (7 * d + 1) x2) (7 * d + 2) x3) (7 * d + 3) x4) (7 * d + 4) x5) (7 * d + 5) x6)) 12 (upd (upd (upd (upd (upd (upd (upd (mv 12) (7 * d) x1) (7 * d + 1) x2) (7 * d + 2) x3) (7 * d + 3) x4) (7 * d + 4) x5) (7 * d + 5) x6) (7 * d + 6) x7))))) hx hb hr (fun t ht hW => ⟨by rw [er], by rw [ht]; exact hPe, hS.F ht⟩) hS.2.2 d_M_act_107
end
